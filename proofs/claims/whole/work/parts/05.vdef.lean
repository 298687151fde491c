/-! words and types that all worlds need -/
def mv (G : Gt) (ad : Nat → Nat) (v : Value) : Value := match v with
  | .ref a => .ref (ad a)
  | .retAddr k => .ref (G.2.2.1 k)
  | x => x
theorem mv_cat (G : Gt) (ad : Nat → Nat) (v : Value) : (mv G ad v).category = v.category := by cases v <;> rfl
def strT : List String := [";:+-*()[]=<>", "thing", "wanes", "person", "age", "is", "loathes", "good", "common", "rare", "insult", "lists", "apart", "oldest", "year", "may", "not", "and", "or", "bar", "room", " thing wanes person age is loathes good may bar room or and not common rare insult lists apart oldest year "]
def strL : List Nat := [12, 5, 5, 6, 3, 2, 7, 4, 6, 4, 6, 5, 5, 6, 4, 3, 3, 3, 2, 3, 4, 107]
def strB : List (List Int32) := [[59, 58, 43, 45, 42, 40, 41, 91, 93, 61, 60, 62], [116, 104, 105, 110, 103], [119, 97, 110, 101, 115], [112, 101, 114, 115, 111, 110], [97, 103, 101], [105, 115], [108, 111, 97, 116, 104, 101, 115], [103, 111, 111, 100], [99, 111, 109, 109, 111, 110], [114, 97, 114, 101], [105, 110, 115, 117, 108, 116], [108, 105, 115, 116, 115], [97, 112, 97, 114, 116], [111, 108, 100, 101, 115, 116], [121, 101, 97, 114], [109, 97, 121], [110, 111, 116], [97, 110, 100], [111, 114], [98, 97, 114], [114, 111, 111, 109], [32, 116, 104, 105, 110, 103, 32, 119, 97, 110, 101, 115, 32, 112, 101, 114, 115, 111, 110, 32, 97, 103, 101, 32, 105, 115, 32, 108, 111, 97, 116, 104, 101, 115, 32, 103, 111, 111, 100, 32, 109, 97, 121, 32, 98, 97, 114, 32, 114, 111, 111, 109, 32, 111, 114, 32, 97, 110, 100, 32, 110, 111, 116, 32, 99, 111, 109, 109, 111, 110, 32, 114, 97, 114, 101, 32, 105, 110, 115, 117, 108, 116, 32, 108, 105, 115, 116, 115, 32, 97, 112, 97, 114, 116, 32, 111, 108, 100, 101, 115, 116, 32, 121, 101, 97, 114, 32]]
def strR : List (String × Nat × Nat) := [(RX7, 224, 0), (RX7, 74, 1), (RX7, 126, 2), (RX7, 83, 3), (RX7, 134, 4), (RX7, 144, 5), (RX7, 150, 6), (RX7, 88, 7), (RX7, 191, 8), (RX7, 195, 9), (RX7, 197, 10), (RX7, 199, 11), (RX7, 201, 12), (RX7, 203, 13), (RX7, 205, 14), (RX7, 98, 15), (RX7, 170, 16), (RX7, 168, 17), (RX7, 159, 18), (RX7, 106, 19), (RX7, 113, 20), (RX12, 77, 21), (RX12, 115, 0)]
def STR (G : Gt) (A : Nat → Prop) (U : State) (H : Heap) : Prop :=
  vk_S 22 strL strB G.2.2.1 G.2.2.2 A U H ∧ (∀ q ∈ strR, vk_R q.1 q.2.1 (strT.getD q.2.2 "") (G.2.2.1 q.2.2) U) ∧ va_Z "java/lang/String" "COMPACT_STRINGS" "Z" (.int 1) A U H ∧ va_Zq "jdk/internal/util/Preconditions" "SIOOBE_FORMATTER" "Ljava/util/function/BiFunction;" A U H
theorem STR.warm {G : Gt} {A : Nat → Prop} {s U : State} {H : Heap} (hW : s.WarmedH U.vm) (h : STR G A s H) : STR G A U H :=
  ⟨h.1.moved hW.alike, fun q hq => (h.2.1 q hq).warm hW, h.2.2.1.moved hW.alike, h.2.2.2.moved hW.alike⟩
theorem STR.same {G : Gt} {A : Nat → Prop} {s U : State} {H : Heap} (hW : U.vm = s.vm) (h : STR G A s H) : STR G A U H :=
  ⟨h.1.moved (by rw [hW]; exact Vm.Alike.refl _), fun q hq => (h.2.1 q hq).same hW, h.2.2.1.moved (by rw [hW]; exact Vm.Alike.refl _), h.2.2.2.moved (by rw [hW]; exact Vm.Alike.refl _)⟩
theorem STR.kept {G : Gt} {A : Nat → Prop} {U : State} {H H1 : Heap} (h : STR G A U H) (hq : ∀ a : Nat, a < H.size → ¬ A a → H1[a]? = H[a]?) : STR G A U H1 :=
  ⟨h.1.kept hq, h.2.1, h.2.2.1.kept hq, h.2.2.2.kept hq⟩
theorem STR.narrow {G : Gt} {A B : Nat → Prop} {U : State} {H : Heap} (h : STR G A U H) (hAB : ∀ q, B q → A q) : STR G B U H :=
  ⟨h.1.narrow hAB, h.2.1, h.2.2.1.narrow hAB, h.2.2.2.narrow hAB⟩
abbrev tyl (G : Gt) : List (ClassId × FieldType) := [(G.2.1 0, .int), (G.2.1 1, .byte), (G.2.1 2, .boolean), (G.2.1 3, .long), (G.2.1 4, .object "LoatheMatch$Life"), (G.2.1 5, .object "LoatheMatch$Tray"), (G.2.1 6, .object "LoatheMatch$Image")]
def szS (x : Sh) : Nat := match x with
  | .inl c => nF c
  | .inr q => q.2
def szs (h : Hp) : Nat := (h.1.map szS).sum
def rmk (fr mc ms : Nat) : Room := { frames := fr, cells := mc, slots := ms, locals := 40 * fr }
/-- a world, where a method begins -/
def WB (G : Gt) (ad : Nat → Nat) (h : Hp) (sz : Nat) (U : State) : Prop := U.heap.size = sz ∧ va_P G.1 vwCl (wl G ad h) U.heap ∧ va_K G.1 vwCl (tyl G) U ∧ va_D (fun _ => True) (wl G ad h) ∧ (∀ i, ad (h.1.length + i) = sz + i) ∧ STR G (va_A (wl G ad h) sz) U U.heap
/-- a world, where it ends -/
def QB (G : Gt) (ad : Nat → Nat) (A : Nat → Prop) (hF : Hp) (t : State) : Prop := va_P G.1 vwCl (wl G ad hF) t.heap ∧ va_D A (wl G ad hF) ∧ ∀ i, ad (hF.1.length + i) = t.heap.size + i
def QI (G : Gt) (ad : Nat → Nat) (A : Nat → Prop) (r : Int32) (hF : Hp) : Array Value → State → Outcome → State → Prop := va_Qi (fun r2 (_ : Unit) => r2 = r) (fun _ t => QB G ad A hF t) A
def QL (G : Gt) (ad : Nat → Nat) (A : Nat → Prop) (r : Int64) (hF : Hp) : Array Value → State → Outcome → State → Prop := va_Ql (fun r2 (_ : Unit) => r2 = r) (fun _ t => QB G ad A hF t) A
def QV (G : Gt) (ad : Nat → Nat) (A : Nat → Prop) (_ : Unit) (hF : Hp) : Array Value → State → Outcome → State → Prop := va_Qv (fun (_ : Unit) => True) (fun _ t => QB G ad A hF t) A
def Cx (G : Gt) (p : Program) (s : State) (m : MethodId) (args : Array Value) (meth : Method) (c : Code) (own : String) (cc : ByteArray) (nL : Nat) (ret : Option FieldType) (nm : String) (A : Nat → Prop) : Prop :=
  p.tables.exec = Jvm.exec ∧ c.code = cc ∧ c.maxLocals = nL ∧ s.vm.findClass own = some m.cls ∧ (∀ w ∈ lw_tbl, w.before args s = true) ∧ meth.locks = false ∧ meth.sig.returnType = ret ∧ meth.name = nm ∧ va_K G.1 vwCl (tyl G) s ∧ (∀ q, s.heap.size ≤ q → A q) ∧ STR G A s s.heap
def Lr (G : Gt) (ad : Nat → Nat) (ls : Array Slot) (nL : Nat) (L : List (Option Value)) : Prop := ls.size = nL ∧ lv_wf ls ∧ ∀ (i : Nat) (v : Value), L[i]? = some (some v) → ls[i]? = some (.val (mv G ad v))
def V {α : Type} (G : Gt) (Qc : α → Hp → Array Value → State → Outcome → State → Prop) (l : Launch) (p : Program) (e : Env) (s : State) (m : MethodId) (args : Array Value) (below : List Frame) (meth : Method) (c : Code) (nL fr : Nat) (A : Nat → Prop) (ad : Nat → Nat) (h0 : Hp) (pc : Nat) (L : List (Option Value)) (st : List Value) (h : Hp) (t : Option (α × Hp)) : Prop :=
  ∀ (r : α) (hF : Hp), t = some (r, hF) → h.1 <+: hF.1 ∧ ∀ (H : Heap) (locs : List Loc) (ls : Array Slot), va_P G.1 vwCl (wl G ad h) H → va_D A (wl G ad h) → va_S A s.heap H locs → (∀ i, ad (h.1.length + i) = H.size + i) → h0.1 <+: h.1 → Lr G ad ls nL L →
    W p l e (rmk fr (hF.1.length - h0.1.length) (szs hF - szs h0)) s m args below meth c H locs (h.1.length - h0.1.length) (szs h - szs h0) (MQ below (Qc r hF) args s (hF.1.length - h0.1.length) (szs hF - szs h0) A) (F0 m pc ls (st.map (mv G ad)))
theorem szs_pre {h h2 : Hp} (hp : h.1 <+: h2.1) : szs h ≤ szs h2 := by
  obtain ⟨x, hx⟩ := hp
  simp only [szs, ← hx, List.map_append, List.sum_append]
  omega
theorem sh_pre {h h2 : Hp} (hp : h.1 <+: h2.1) {a : Nat} {x : Sh} (hs : sh h a = some x) : sh h2 a = some x := by
  obtain ⟨y, hy⟩ := hp
  show h2.1[a]? = some x
  rw [← hy, List.getElem?_append_left (sh_lt hs)]
  exact hs
theorem lr_has {G : Gt} {ad : Nat → Nat} {ls : Array Slot} {nL : Nat} {L : List (Option Value)} (h : Lr G ad ls nL L) : lv_has ls nL (L.zipIdx.filterMap (fun q => q.1.map (fun v => (q.2, mv G ad v)))) := by
  refine ⟨h.1, h.2.1, fun q hq => ?_⟩
  obtain ⟨⟨ov, i⟩, h1, h2⟩ := List.mem_filterMap.mp hq
  cases ov with
  | none => simp at h2
  | some v =>
    simp at h2
    subst h2
    have h3 := List.mk_mem_zipIdx_iff_getElem?.mp h1
    exact h.2.2 i v h3
section VR
variable {α : Type} {G : Gt} {Qc : α → Hp → Array Value → State → Outcome → State → Prop} {l : Launch} {p : Program} {e : Env} {s : State} {m : MethodId} {args : Array Value} {below : List Frame} {meth : Method} {c : Code} {own : String} {cc : ByteArray} {nL fr : Nat} {ret : Option FieldType} {nm : String} {A : Nat → Prop} {ad : Nat → Nat} {h0 : Hp} {pc : Nat} {L : List (Option Value)} {st : List Value} {h : Hp} {t : Option (α × Hp)}
theorem V.step {pc2 : Nat} {st2 : List Value} (hw : ∀ (H : Heap) (locs : List Loc) (ls : Array Slot) (R : Room) (cells slots : Nat) (Q : State → Prop), Lr G ad ls nL L → W p l e R s m args below meth c H locs cells slots Q (F0 m pc2 ls (st2.map (mv G ad))) → W p l e R s m args below meth c H locs cells slots Q (F0 m pc ls (st.map (mv G ad)))) (k : V G Qc l p e s m args below meth c nL fr A ad h0 pc2 L st2 h t) : V G Qc l p e s m args below meth c nL fr A ad h0 pc L st h t := by
  intro r hF ht
  obtain ⟨hp, k⟩ := k r hF ht
  exact ⟨hp, fun H locs ls h1 h2 h3 h4 h5 h6 => hw H locs ls _ _ _ _ h6 (k H locs ls h1 h2 h3 h4 h5 h6)⟩
theorem V.chk {cnd : Prop} [Decidable cnd] (k : cnd → V G Qc l p e s m args below meth c nL fr A ad h0 pc L st h t) : V G Qc l p e s m args below meth c nL fr A ad h0 pc L st h (if cnd then t else none) := by
  intro r hF ht
  by_cases hc : cnd
  · rw [if_pos hc] at ht
    exact k hc r hF ht
  · rw [if_neg hc] at ht
    cases ht
theorem V.eq {t2 : Option (α × Hp)} (he : t = t2) (k : V G Qc l p e s m args below meth c nL fr A ad h0 pc L st h t2) : V G Qc l p e s m args below meth c nL fr A ad h0 pc L st h t := by rw [he]; exact k
theorem V.iconst (C : Cx G p s m args meth c own cc nL ret nm A) {n : Int} {v : Int32} (hv : Int32.ofInt n = v) (hd : decode cc pc = .ok (.iconst n, 1)) (k : V G Qc l p e s m args below meth c nL fr A ad h0 (pc + 1) L (.int v :: st) h t) : V G Qc l p e s m args below meth c nL fr A ad h0 pc L (st) h t :=
  V.step (fun H locs ls R cells slots Q hL kk => lv_iconst C.1 C.2.1 hd hv kk) k
theorem V.bipush (C : Cx G p s m args meth c own cc nL ret nm A) {n : Int} {v : Int32} (hv : Int32.ofInt n = v) (hd : decode cc pc = .ok (.bipush n, 2)) (k : V G Qc l p e s m args below meth c nL fr A ad h0 (pc + 2) L (.int v :: st) h t) : V G Qc l p e s m args below meth c nL fr A ad h0 pc L (st) h t :=
  V.step (fun H locs ls R cells slots Q hL kk => lv_bipush C.1 C.2.1 hd hv kk) k
theorem V.sipush (C : Cx G p s m args meth c own cc nL ret nm A) {n : Int} {v : Int32} (hv : Int32.ofInt n = v) (hd : decode cc pc = .ok (.sipush n, 3)) (k : V G Qc l p e s m args below meth c nL fr A ad h0 (pc + 3) L (.int v :: st) h t) : V G Qc l p e s m args below meth c nL fr A ad h0 pc L (st) h t :=
  V.step (fun H locs ls R cells slots Q hL kk => lv_sipush C.1 C.2.1 hd hv kk) k
theorem V.lconst (C : Cx G p s m args meth c own cc nL ret nm A) {n : Int} {v : Int64} (hv : Int64.ofInt n = v) (hd : decode cc pc = .ok (.lconst n, 1)) (k : V G Qc l p e s m args below meth c nL fr A ad h0 (pc + 1) L (.long v :: st) h t) : V G Qc l p e s m args below meth c nL fr A ad h0 pc L (st) h t :=
  V.step (fun H locs ls R cells slots Q hL kk => lv_lconst C.1 C.2.1 hd hv kk) k
theorem V.iload_n (C : Cx G p s m args meth c own cc nL ret nm A) {k0 : Fin 4} {x : Int32} (hx : L[(k0 : Nat)]? = some (some (.int x))) (hd : decode cc pc = .ok (.iload_n k0, 1)) (k : V G Qc l p e s m args below meth c nL fr A ad h0 (pc + 1) L (.int x :: st) h t) : V G Qc l p e s m args below meth c nL fr A ad h0 pc L (st) h t :=
  V.step (fun H locs ls R cells slots Q hL kk => lv_iload_n C.1 C.2.1 hd rfl (hL.2.2 _ _ hx) kk) k
theorem V.iload (C : Cx G p s m args meth c own cc nL ret nm A) {i : Nat} {x : Int32} (hx : L[i]? = some (some (.int x))) (hd : decode cc pc = .ok (.iload i, 2)) (k : V G Qc l p e s m args below meth c nL fr A ad h0 (pc + 2) L (.int x :: st) h t) : V G Qc l p e s m args below meth c nL fr A ad h0 pc L (st) h t :=
  V.step (fun H locs ls R cells slots Q hL kk => lv_iload C.1 C.2.1 hd (hL.2.2 _ _ hx) kk) k
theorem V.lload_n (C : Cx G p s m args meth c own cc nL ret nm A) {k0 : Fin 4} {x : Int64} (hx : L[(k0 : Nat)]? = some (some (.long x))) (hd : decode cc pc = .ok (.lload_n k0, 1)) (k : V G Qc l p e s m args below meth c nL fr A ad h0 (pc + 1) L (.long x :: st) h t) : V G Qc l p e s m args below meth c nL fr A ad h0 pc L (st) h t :=
  V.step (fun H locs ls R cells slots Q hL kk => lv_lload_n C.1 C.2.1 hd rfl (hL.2.2 _ _ hx) kk) k
theorem V.lload (C : Cx G p s m args meth c own cc nL ret nm A) {i : Nat} {x : Int64} (hx : L[i]? = some (some (.long x))) (hd : decode cc pc = .ok (.lload i, 2)) (k : V G Qc l p e s m args below meth c nL fr A ad h0 (pc + 2) L (.long x :: st) h t) : V G Qc l p e s m args below meth c nL fr A ad h0 pc L (st) h t :=
  V.step (fun H locs ls R cells slots Q hL kk => lv_lload C.1 C.2.1 hd (hL.2.2 _ _ hx) kk) k
theorem V.aload_n (C : Cx G p s m args meth c own cc nL ret nm A) {k0 : Fin 4} {a : Nat} (hx : L[(k0 : Nat)]? = some (some (.ref a))) (hd : decode cc pc = .ok (.aload_n k0, 1)) (k : V G Qc l p e s m args below meth c nL fr A ad h0 (pc + 1) L (.ref a :: st) h t) : V G Qc l p e s m args below meth c nL fr A ad h0 pc L (st) h t :=
  V.step (fun H locs ls R cells slots Q hL kk => lv_aload_n C.1 C.2.1 hd rfl (hL.2.2 _ _ hx) kk) k
theorem V.aload (C : Cx G p s m args meth c own cc nL ret nm A) {i : Nat} {a : Nat} (hx : L[i]? = some (some (.ref a))) (hd : decode cc pc = .ok (.aload i, 2)) (k : V G Qc l p e s m args below meth c nL fr A ad h0 (pc + 2) L (.ref a :: st) h t) : V G Qc l p e s m args below meth c nL fr A ad h0 pc L (st) h t :=
  V.step (fun H locs ls R cells slots Q hL kk => lv_aload C.1 C.2.1 hd (hL.2.2 _ _ hx) kk) k
theorem V.sload_n (C : Cx G p s m args meth c own cc nL ret nm A) {k0 : Fin 4} {a : Nat} (hx : L[(k0 : Nat)]? = some (some (.retAddr a))) (hd : decode cc pc = .ok (.aload_n k0, 1)) (k : V G Qc l p e s m args below meth c nL fr A ad h0 (pc + 1) L (.retAddr a :: st) h t) : V G Qc l p e s m args below meth c nL fr A ad h0 pc L (st) h t :=
  V.step (fun H locs ls R cells slots Q hL kk => lv_aload_n C.1 C.2.1 hd rfl (hL.2.2 _ _ hx) kk) k
theorem V.iadd (C : Cx G p s m args meth c own cc nL ret nm A) {x y : Int32} (hd : decode cc pc = .ok (.iadd, 1)) (k : V G Qc l p e s m args below meth c nL fr A ad h0 (pc + 1) L (.int (x + y) :: st) h t) : V G Qc l p e s m args below meth c nL fr A ad h0 pc L (.int y :: .int x :: st) h t :=
  V.step (fun H locs ls R cells slots Q hL kk => lv_iadd C.1 C.2.1 hd kk) k
theorem V.isub (C : Cx G p s m args meth c own cc nL ret nm A) {x y : Int32} (hd : decode cc pc = .ok (.isub, 1)) (k : V G Qc l p e s m args below meth c nL fr A ad h0 (pc + 1) L (.int (x - y) :: st) h t) : V G Qc l p e s m args below meth c nL fr A ad h0 pc L (.int y :: .int x :: st) h t :=
  V.step (fun H locs ls R cells slots Q hL kk => lv_isub C.1 C.2.1 hd kk) k
theorem V.imul (C : Cx G p s m args meth c own cc nL ret nm A) {x y : Int32} (hd : decode cc pc = .ok (.imul, 1)) (k : V G Qc l p e s m args below meth c nL fr A ad h0 (pc + 1) L (.int (x * y) :: st) h t) : V G Qc l p e s m args below meth c nL fr A ad h0 pc L (.int y :: .int x :: st) h t :=
  V.step (fun H locs ls R cells slots Q hL kk => lv_imul C.1 C.2.1 hd kk) k
theorem V.iand (C : Cx G p s m args meth c own cc nL ret nm A) {x y : Int32} (hd : decode cc pc = .ok (.iand, 1)) (k : V G Qc l p e s m args below meth c nL fr A ad h0 (pc + 1) L (.int (x &&& y) :: st) h t) : V G Qc l p e s m args below meth c nL fr A ad h0 pc L (.int y :: .int x :: st) h t :=
  V.step (fun H locs ls R cells slots Q hL kk => lv_iand C.1 C.2.1 hd kk) k
theorem V.ior (C : Cx G p s m args meth c own cc nL ret nm A) {x y : Int32} (hd : decode cc pc = .ok (.ior, 1)) (k : V G Qc l p e s m args below meth c nL fr A ad h0 (pc + 1) L (.int (x ||| y) :: st) h t) : V G Qc l p e s m args below meth c nL fr A ad h0 pc L (.int y :: .int x :: st) h t :=
  V.step (fun H locs ls R cells slots Q hL kk => lv_ior C.1 C.2.1 hd kk) k
theorem V.ixor (C : Cx G p s m args meth c own cc nL ret nm A) {x y : Int32} (hd : decode cc pc = .ok (.ixor, 1)) (k : V G Qc l p e s m args below meth c nL fr A ad h0 (pc + 1) L (.int (x ^^^ y) :: st) h t) : V G Qc l p e s m args below meth c nL fr A ad h0 pc L (.int y :: .int x :: st) h t :=
  V.step (fun H locs ls R cells slots Q hL kk => lv_ixor C.1 C.2.1 hd kk) k
theorem V.ladd (C : Cx G p s m args meth c own cc nL ret nm A) {x y : Int64} (hd : decode cc pc = .ok (.ladd, 1)) (k : V G Qc l p e s m args below meth c nL fr A ad h0 (pc + 1) L (.long (x + y) :: st) h t) : V G Qc l p e s m args below meth c nL fr A ad h0 pc L (.long y :: .long x :: st) h t :=
  V.step (fun H locs ls R cells slots Q hL kk => lv_ladd C.1 C.2.1 hd kk) k
theorem V.lsub (C : Cx G p s m args meth c own cc nL ret nm A) {x y : Int64} (hd : decode cc pc = .ok (.lsub, 1)) (k : V G Qc l p e s m args below meth c nL fr A ad h0 (pc + 1) L (.long (x - y) :: st) h t) : V G Qc l p e s m args below meth c nL fr A ad h0 pc L (.long y :: .long x :: st) h t :=
  V.step (fun H locs ls R cells slots Q hL kk => lv_lsub C.1 C.2.1 hd kk) k
theorem V.lmul (C : Cx G p s m args meth c own cc nL ret nm A) {x y : Int64} (hd : decode cc pc = .ok (.lmul, 1)) (k : V G Qc l p e s m args below meth c nL fr A ad h0 (pc + 1) L (.long (x * y) :: st) h t) : V G Qc l p e s m args below meth c nL fr A ad h0 pc L (.long y :: .long x :: st) h t :=
  V.step (fun H locs ls R cells slots Q hL kk => lv_lmul C.1 C.2.1 hd kk) k
theorem V.land (C : Cx G p s m args meth c own cc nL ret nm A) {x y : Int64} (hd : decode cc pc = .ok (.land, 1)) (k : V G Qc l p e s m args below meth c nL fr A ad h0 (pc + 1) L (.long (x &&& y) :: st) h t) : V G Qc l p e s m args below meth c nL fr A ad h0 pc L (.long y :: .long x :: st) h t :=
  V.step (fun H locs ls R cells slots Q hL kk => lv_land C.1 C.2.1 hd kk) k
theorem V.lor (C : Cx G p s m args meth c own cc nL ret nm A) {x y : Int64} (hd : decode cc pc = .ok (.lor, 1)) (k : V G Qc l p e s m args below meth c nL fr A ad h0 (pc + 1) L (.long (x ||| y) :: st) h t) : V G Qc l p e s m args below meth c nL fr A ad h0 pc L (.long y :: .long x :: st) h t :=
  V.step (fun H locs ls R cells slots Q hL kk => lv_lor C.1 C.2.1 hd kk) k
end VR
