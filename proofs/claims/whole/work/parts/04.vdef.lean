def gtb : List Cond := lw_tbl.filter goodWord
theorem gtb_in {w : Cond} (h : w ∈ lw_tbl) (hg : goodWord w = true) : w ∈ gtb := List.mem_filter.mpr ⟨h, hg⟩
theorem gtb_good : GoodIn gtb gtb := fun w h => ⟨h, good_of_word (List.mem_filter.mp h).2⟩
def mv (G : Gt) (ad : Nat → Nat) (v : Value) : Value := match v with
  | .ref a => .ref (ad a)
  | .retAddr k => if k < 1000 then .ref (G.2.2.1 k) else .ref (G.2.2.2 (k - 1000))
  | x => x
theorem mv_cat (G : Gt) (ad : Nat → Nat) (v : Value) : (mv G ad v).category = v.category := by
  cases v with
  | retAddr k =>
    simp only [mv]
    split <;> rfl
  | _ => rfl
def strT : List String := [";:+-*()[]=<>", "thing", "wanes", "person", "age", "is", "loathes", "good", "common", "rare", "insult", "lists", "apart", "oldest", "year", "may", "not", "and", "or", "bar", "room", " thing wanes person age is loathes good may bar room or and not common rare insult lists apart oldest year "]
def strL : List Nat := [12, 5, 5, 6, 3, 2, 7, 4, 6, 4, 6, 5, 5, 6, 4, 3, 3, 3, 2, 3, 4, 107]
def strB : List (List Int32) := [[59, 58, 43, 45, 42, 40, 41, 91, 93, 61, 60, 62], [116, 104, 105, 110, 103], [119, 97, 110, 101, 115], [112, 101, 114, 115, 111, 110], [97, 103, 101], [105, 115], [108, 111, 97, 116, 104, 101, 115], [103, 111, 111, 100], [99, 111, 109, 109, 111, 110], [114, 97, 114, 101], [105, 110, 115, 117, 108, 116], [108, 105, 115, 116, 115], [97, 112, 97, 114, 116], [111, 108, 100, 101, 115, 116], [121, 101, 97, 114], [109, 97, 121], [110, 111, 116], [97, 110, 100], [111, 114], [98, 97, 114], [114, 111, 111, 109], [32, 116, 104, 105, 110, 103, 32, 119, 97, 110, 101, 115, 32, 112, 101, 114, 115, 111, 110, 32, 97, 103, 101, 32, 105, 115, 32, 108, 111, 97, 116, 104, 101, 115, 32, 103, 111, 111, 100, 32, 109, 97, 121, 32, 98, 97, 114, 32, 114, 111, 111, 109, 32, 111, 114, 32, 97, 110, 100, 32, 110, 111, 116, 32, 99, 111, 109, 109, 111, 110, 32, 114, 97, 114, 101, 32, 105, 110, 115, 117, 108, 116, 32, 108, 105, 115, 116, 115, 32, 97, 112, 97, 114, 116, 32, 111, 108, 100, 101, 115, 116, 32, 121, 101, 97, 114, 32]]
def strR : List (String × Nat × Nat) := [(RX7, 224, 0), (RX7, 74, 1), (RX7, 126, 2), (RX7, 83, 3), (RX7, 134, 4), (RX7, 144, 5), (RX7, 150, 6), (RX7, 88, 7), (RX7, 191, 8), (RX7, 195, 9), (RX7, 197, 10), (RX7, 199, 11), (RX7, 201, 12), (RX7, 203, 13), (RX7, 205, 14), (RX7, 98, 15), (RX7, 170, 16), (RX7, 168, 17), (RX7, 159, 18), (RX7, 106, 19), (RX7, 113, 20), (RX12, 77, 21), (RX12, 115, 0)]
def nestW : List (String × Nat × MethodName × String) := [("LoatheMatch$Rules", 20, ⟨"LoatheMatch$Law", "<init>", "()V"⟩, "LoatheMatch"), ("LoatheMatch", 32, ⟨"LoatheMatch$Couple", "<init>", "()V"⟩, "LoatheMatch"), ("LoatheMatch", 63, ⟨"LoatheMatch$Matching", "<init>", "()V"⟩, "LoatheMatch"), ("LoatheMatch", 83, ⟨"LoatheMatch$Tray", "<init>", "()V"⟩, "LoatheMatch"), ("LoatheMatch", 268, ⟨"LoatheMatch$Matching", "tally", "(II)I"⟩, "LoatheMatch"), ("LoatheMatch", 286, ⟨"LoatheMatch$Matching", "settle", "(I)Z"⟩, "LoatheMatch"), ("LoatheMatch", 369, ⟨"LoatheMatch$Image", "<init>", "()V"⟩, "LoatheMatch")]
def aoW : List String := ["LoatheMatch$Life", "LoatheMatch$Tray", "LoatheMatch$Image"]
def NST (U : State) : Prop := (∀ q ∈ nestW, va_Nw (.methodLinkNest q.1 q.2.1 q.2.2.1 q.2.2.2) U) ∧ ∀ C ∈ aoW, va_AO C U
def ZF (G : Gt) (A : Nat → Prop) (U : State) (H : Heap) : Prop := va_Z "jdk/internal/util/Preconditions" "SIOOBE_FORMATTER" "Ljava/util/function/BiFunction;" .null A U H ∨ va_Z "jdk/internal/util/Preconditions" "SIOOBE_FORMATTER" "Ljava/util/function/BiFunction;" (.ref (G.2.2.1 999)) A U H
theorem ZF.moved {G : Gt} {A : Nat → Prop} {u U : State} {H : Heap} (hvm : u.vm.Alike U.vm) (h : ZF G A u H) : ZF G A U H := h.elim (fun q => Or.inl (q.moved hvm)) (fun q => Or.inr (q.moved hvm))
theorem ZF.kept {G : Gt} {A : Nat → Prop} {U : State} {H H1 : Heap} (h : ZF G A U H) (hq : ∀ a : Nat, a < H.size → ¬ A a → H1[a]? = H[a]?) : ZF G A U H1 := h.elim (fun q => Or.inl (q.kept hq)) (fun q => Or.inr (q.kept hq))
theorem ZF.narrow {G : Gt} {A B : Nat → Prop} {U : State} {H : Heap} (h : ZF G A U H) (hAB : ∀ q, B q → A q) : ZF G B U H := h.elim (fun q => Or.inl (q.narrow hAB)) (fun q => Or.inr (q.narrow hAB))
def STR (G : Gt) (A : Nat → Prop) (U : State) (H : Heap) : Prop :=
  vk_S 22 strL strB G.2.2.1 G.2.2.2 A U H ∧ (∀ q ∈ strR, vk_R q.1 q.2.1 (strT.getD q.2.2 "") (G.2.2.1 q.2.2) U) ∧ va_Z "java/lang/String" "COMPACT_STRINGS" "Z" (.int 1) A U H ∧ ZF G A U H ∧ NST U
theorem STR.warm {G : Gt} {A : Nat → Prop} {s U : State} {H : Heap} (hW : s.WarmedH U.vm) (h : STR G A s H) : STR G A U H :=
  ⟨h.1.moved hW.alike, fun q hq => (h.2.1 q hq).warm hW, h.2.2.1.moved hW.alike, h.2.2.2.1.moved hW.alike, ⟨fun q hq => (h.2.2.2.2.1 q hq).warmM hW, fun C hC => (h.2.2.2.2.2 C hC).moved hW.alike⟩⟩
theorem STR.same {G : Gt} {A : Nat → Prop} {s U : State} {H : Heap} (hW : U.vm = s.vm) (h : STR G A s H) : STR G A U H :=
  ⟨h.1.moved (by rw [hW]; exact Vm.Alike.refl _), fun q hq => (h.2.1 q hq).same hW, h.2.2.1.moved (by rw [hW]; exact Vm.Alike.refl _), h.2.2.2.1.moved (by rw [hW]; exact Vm.Alike.refl _), ⟨fun q hq => (h.2.2.2.2.1 q hq).same rfl hW.symm, fun C hC => (h.2.2.2.2.2 C hC).moved (by rw [hW]; exact Vm.Alike.refl _)⟩⟩
theorem STR.kept {G : Gt} {A : Nat → Prop} {U : State} {H H1 : Heap} (h : STR G A U H) (hq : ∀ a : Nat, a < H.size → ¬ A a → H1[a]? = H[a]?) : STR G A U H1 :=
  ⟨h.1.kept hq, h.2.1, h.2.2.1.kept hq, h.2.2.2.1.kept hq, h.2.2.2.2⟩
theorem STR.narrow {G : Gt} {A B : Nat → Prop} {U : State} {H : Heap} (h : STR G A U H) (hAB : ∀ q, B q → A q) : STR G B U H :=
  ⟨h.1.narrow hAB, h.2.1, h.2.2.1.narrow hAB, h.2.2.2.1.narrow hAB, h.2.2.2.2⟩
abbrev tyl (G : Gt) : List (ClassId × FieldType) := [(G.2.1 0, .int), (G.2.1 1, .byte), (G.2.1 2, .boolean), (G.2.1 3, .long), (G.2.1 4, .object "LoatheMatch$Life"), (G.2.1 5, .object "LoatheMatch$Tray"), (G.2.1 6, .object "LoatheMatch$Image")]
def szS (x : Sh) : Nat := match x with
  | .inl c => nF c
  | .inr q => q.2
def szs (S : Nat → Sh) : Nat → Nat
  | 0 => 0
  | n + 1 => szs S n + szS (S n)
theorem szs_mono (S : Nat → Sh) {a b : Nat} (h : a ≤ b) : szs S a ≤ szs S b := by
  obtain ⟨k, rfl⟩ := Nat.le.dest h
  clear h
  induction k with
  | zero => exact Nat.le_refl _
  | succ k ih =>
    have h2 : szs S (a + (k + 1)) = szs S (a + k) + szS (S (a + k)) := rfl
    omega
def rmk (fr mc ms : Nat) : Room := { frames := fr, cells := mc, slots := ms, locals := 40 * fr }
def AS (ad : Nat → Nat) (N sz : Nat) : Nat → Prop := fun q => (∃ k, k < N ∧ ad k = q) ∨ sz ≤ q
def AdOK (N0 Nf : Nat) (ad0 ad : Nat → Nat) : Prop := (Nf = N0 ∧ ad = ad0) ∨ (N0 < Nf ∧ ∀ k, k < N0 → ad k = ad0 k)
def WB (G : Gt) (S : Nat → Sh) (ad : Nat → Nat) (N : Nat) (R : Rf) (m : Mem) (sz : Nat) (U : State) : Prop := U.heap.size = sz ∧ va_P G.1 vwCl (wl G S ad N R m) U.heap ∧ va_K G.1 vwCl (tyl G) U ∧ va_D (fun _ => True) (wl G S ad N R m) ∧ STR G (AS ad N sz) U U.heap
def Qx {α : Type} (ov : α → Option Value) (G : Gt) (S : Nat → Sh) (ad0 : Nat → Nat) (N0 Nf : Nat) (Rz : Rf) (A : Nat → Prop) (r : α) (mF : Mem) : Array Value → State → Outcome → State → Prop := fun _ st oc t => (oc = .returned (ov r) ∧ ∃ ad, AdOK N0 Nf ad0 ad ∧ va_P G.1 vwCl (wl G S ad Nf Rz mF) t.heap ∧ va_D A (wl G S ad Nf Rz mF)) ∧ va_F A st t
def oI (r : Int32) : Option Value := some (.int r)
def oL (r : Int64) : Option Value := some (.long r)
def oV (_ : Unit) : Option Value := none
def Cx (G : Gt) (p : Program) (s : State) (mt : MethodId) (args : Array Value) (meth : Method) (c : Code) (own : String) (cc : ByteArray) (nL : Nat) (ret : Option FieldType) (nm : String) (A : Nat → Prop) : Prop :=
  p.tables.exec = Jvm.exec ∧ c.code = cc ∧ c.maxLocals = nL ∧ s.vm.findClass own = some mt.cls ∧ (∀ w ∈ gtb, w.before args s = true) ∧ meth.locks = false ∧ meth.sig.returnType = ret ∧ meth.name = nm ∧ va_K G.1 vwCl (tyl G) s ∧ (∀ q, s.heap.size ≤ q → A q) ∧ STR G A s s.heap
def Lr (G : Gt) (ad : Nat → Nat) (ls : Array Slot) (nL : Nat) (L : List (Nat × Value)) : Prop := lv_has ls nL (L.map (fun q => (q.1, mv G ad q.2)))
def V {α : Type} (G : Gt) (S : Nat → Sh) (ov : α → Option Value) (l : Launch) (p : Program) (e : Env) (s : State) (mt : MethodId) (args : Array Value) (below : List Frame) (meth : Method) (c : Code) (nL fr : Nat) (A : Nat → Prop) (ad0 : Nat → Nat) (N0 Nf : Nat) (Rz : Rf) (N : Nat) (R : Rf) (pc : Nat) (L : List (Nat × Value)) (st : List Value) (m : Mem) (t : Option (α × Mem)) : Prop :=
  ∀ (r : α) (mF : Mem), t = some (r, mF) → N ≤ Nf ∧ ∀ (ad : Nat → Nat) (H : Heap) (locs : List Loc) (ls : Array Slot), N0 ≤ N → AdOK N0 Nf ad0 ad → va_P G.1 vwCl (wl G S ad N R m) H → va_D A (wl G S ad N R m) → va_S A s.heap H locs → Lr G ad ls nL L →
    W p l e (rmk fr (Nf - N0) (szs S Nf - szs S N0)) s mt args below meth c H locs (N - N0) (szs S N - szs S N0) (MQ below (Qx ov G S ad0 N0 Nf Rz A r mF) args s (Nf - N0) (szs S Nf - szs S N0) A) (F0 mt pc ls (st.map (mv G ad)))
def chk {β : Type} (b : Bool) (t : Option β) : Option β := if b = true then t else none
def inb (i : Int32) (n : Nat) : Bool := decide (¬ i < 0) && decide (ix i < n)
theorem inb_in {i : Int32} {n : Nat} (h : inb i n = true) : vp_in i n := by
  unfold inb at h
  simp only [Bool.and_eq_true, decide_eq_true_eq] at h
  exact fun q => q.elim h.1 (fun z => Nat.not_le.mpr h.2 z)
def lt {β γ : Type} (x : β) (k : β → γ) : γ := k x
def bnd {β γ : Type} (f : Option (β × Mem)) (k : β → Mem → Option γ) : Option γ := f.bind fun q => k q.1 q.2
theorem chk_eq {β : Type} (b : Bool) (t : Option β) : chk b t = if b = true then t else none := rfl
theorem lr_at {G : Gt} {ad : Nat → Nat} {ls : Array Slot} {nL : Nat} {L : List (Nat × Value)} (h : Lr G ad ls nL L) (k : Nat) {i : Nat} {v : Value} (hk : L[k]? = some (i, v)) : ls[i]? = some (.val (mv G ad v)) := lv_at h k (by rw [List.getElem?_map, hk]; rfl)
theorem lr_sub {G : Gt} {ad : Nat → Nat} {ls : Array Slot} {nL : Nat} {L L2 : List (Nat × Value)} (h : Lr G ad ls nL L) (ks : List Nat) (hl : lv_pick L ks = L2) : Lr G ad ls nL L2 := by
  refine lv_sub h ks ?_
  rw [← hl]
  simp [lv_pick, List.map_filterMap]
def stI (L : List (Nat × Value)) (i : Nat) (v : Value) : List (Nat × Value) := (i, v) :: L.filter (fun q => !(q.1 == i) && !(q.1 + 1 == i && q.2.category == 2))
def stJ (L : List (Nat × Value)) (i : Nat) (v : Value) : List (Nat × Value) := (i, v) :: L.filter (fun q => !(q.1 == i) && (!(q.1 == i + 1) && !(q.1 + 1 == i && q.2.category == 2)))
theorem stI_map {G : Gt} {ad : Nat → Nat} {L L2 : List (Nat × Value)} {i : Nat} {v : Value} (h : stI L i v = L2) : (i, mv G ad v) :: (L.map (fun q => (q.1, mv G ad q.2))).filter (fun q => !(q.1 == i) && !(q.1 + 1 == i && q.2.category == 2)) = L2.map (fun q => (q.1, mv G ad q.2)) := by
  rw [← h]
  simp only [stI, List.map_cons, List.filter_map]
  congr 2
  apply List.filter_congr
  intro q _
  simp [mv_cat]
theorem stJ_map {G : Gt} {ad : Nat → Nat} {L L2 : List (Nat × Value)} {i : Nat} {v : Value} (h : stJ L i v = L2) : (i, mv G ad v) :: (L.map (fun q => (q.1, mv G ad q.2))).filter (fun q => !(q.1 == i) && (!(q.1 == i + 1) && !(q.1 + 1 == i && q.2.category == 2))) = L2.map (fun q => (q.1, mv G ad q.2)) := by
  rw [← h]
  simp only [stJ, List.map_cons, List.filter_map]
  congr 2
  apply List.filter_congr
  intro q _
  simp [mv_cat]
theorem args_map (G : Gt) (ad : Nat → Nat) (vs : List Value) : ∀ k, lv_args k (vs.map (mv G ad)) = (lv_args k vs).map (fun q => (q.1, mv G ad q.2)) := by
  induction vs with
  | nil => intro k; rfl
  | cons v vs ih =>
    intro k
    simp only [List.map_cons, lv_args, mv_cat, ih]
section VR
variable {α : Type} {G : Gt} {S : Nat → Sh} {ov : α → Option Value} {l : Launch} {p : Program} {e : Env} {s : State} {mt : MethodId} {args : Array Value} {below : List Frame} {meth : Method} {c : Code} {own : String} {cc : ByteArray} {nL fr : Nat} {ret : Option FieldType} {nm : String} {A : Nat → Prop} {ad0 : Nat → Nat} {N0 Nf : Nat} {Rz : Rf} {N : Nat} {R : Rf} {pc : Nat} {L : List (Nat × Value)} {st : List Value} {m : Mem} {t : Option (α × Mem)}
theorem V.gen {pc2 : Nat} {L2 : List (Nat × Value)} {st2 : List Value} {m2 : Mem} {R2 : Rf} (hw : ∀ (ad : Nat → Nat) (H : Heap) (locs : List Loc) (ls : Array Slot) (Rm : Room) (cells slots : Nat) (Q : State → Prop), va_P G.1 vwCl (wl G S ad N R m) H → va_D A (wl G S ad N R m) → va_S A s.heap H locs → Lr G ad ls nL L → Rm.frames = fr → Rm.locals = 40 * fr → (∀ (H1 : Heap) (locs1 : List Loc) (ls1 : Array Slot), va_P G.1 vwCl (wl G S ad N R2 m2) H1 → va_D A (wl G S ad N R2 m2) → va_S A s.heap H1 locs1 → Lr G ad ls1 nL L2 → W p l e Rm s mt args below meth c H1 locs1 cells slots Q (F0 mt pc2 ls1 (st2.map (mv G ad)))) → W p l e Rm s mt args below meth c H locs cells slots Q (F0 mt pc ls (st.map (mv G ad)))) (k : V G S ov l p e s mt args below meth c nL fr A ad0 N0 Nf Rz N R2 pc2 L2 st2 m2 t) : V G S ov l p e s mt args below meth c nL fr A ad0 N0 Nf Rz N R pc L st m t := by
  intro r mF ht
  obtain ⟨hp, k⟩ := k r mF ht
  exact ⟨hp, fun ad H locs ls h0 h1 h2 h3 h4 h5 => hw ad H locs ls _ _ _ _ h2 h3 h4 h5 rfl rfl (fun H1 locs1 ls1 g2 g3 g4 g5 => k ad H1 locs1 ls1 h0 h1 g2 g3 g4 g5)⟩
theorem V.step {pc2 : Nat} {st2 : List Value} (hw : ∀ (ad : Nat → Nat) (H : Heap) (locs : List Loc) (ls : Array Slot) (Rm : Room) (cells slots : Nat) (Q : State → Prop), va_P G.1 vwCl (wl G S ad N R m) H → va_S A s.heap H locs → Lr G ad ls nL L → W p l e Rm s mt args below meth c H locs cells slots Q (F0 mt pc2 ls (st2.map (mv G ad))) → W p l e Rm s mt args below meth c H locs cells slots Q (F0 mt pc ls (st.map (mv G ad)))) (k : V G S ov l p e s mt args below meth c nL fr A ad0 N0 Nf Rz N R pc2 L st2 m t) : V G S ov l p e s mt args below meth c nL fr A ad0 N0 Nf Rz N R pc L st m t :=
  V.gen (fun ad H locs ls Rm cells slots Q h2 h3 h4 h5 _ _ kk => hw ad H locs ls Rm cells slots Q h2 h4 h5 (kk H locs ls h2 h3 h4 h5)) k
theorem V.ck {cnd : Bool} (k : cnd = true → V G S ov l p e s mt args below meth c nL fr A ad0 N0 Nf Rz N R pc L st m t) : V G S ov l p e s mt args below meth c nL fr A ad0 N0 Nf Rz N R pc L st m (chk cnd t) := by
  intro r mF ht
  rw [chk_eq] at ht
  by_cases hc : cnd = true
  · rw [if_pos hc] at ht
    exact k hc r mF ht
  · rw [if_neg hc] at ht
    cases ht
theorem V.nil : V G S ov l p e s mt args below meth c nL fr A ad0 N0 Nf Rz N R pc L st m none := by
  intro r mF ht
  cases ht
theorem V.br {cnd : Prop} [Decidable cnd] {t2 : Option (α × Mem)} (k1 : cnd → V G S ov l p e s mt args below meth c nL fr A ad0 N0 Nf Rz N R pc L st m t) (k2 : ¬ cnd → V G S ov l p e s mt args below meth c nL fr A ad0 N0 Nf Rz N R pc L st m t2) : V G S ov l p e s mt args below meth c nL fr A ad0 N0 Nf Rz N R pc L st m (if cnd then t else t2) := by
  by_cases hc : cnd
  · rw [if_pos hc]; exact k1 hc
  · rw [if_neg hc]; exact k2 hc
theorem V.wk {L2 : List (Nat × Value)} (ks : List Nat) (hl : lv_pick L ks = L2) (k : V G S ov l p e s mt args below meth c nL fr A ad0 N0 Nf Rz N R pc L2 st m t) : V G S ov l p e s mt args below meth c nL fr A ad0 N0 Nf Rz N R pc L st m t :=
  V.gen (fun ad H locs ls Rm cells slots Q h2 h3 h4 h5 _ _ kk => kk H locs ls h2 h3 h4 (lr_sub h5 ks hl)) k
theorem V.lti {x : Int32} {g : Int32 → Option (α × Mem)} (k : ∀ y : Int32, y = x → V G S ov l p e s mt args below meth c nL fr A ad0 N0 Nf Rz N R pc L (.int y :: st) m (g y)) : V G S ov l p e s mt args below meth c nL fr A ad0 N0 Nf Rz N R pc L (.int x :: st) m (lt x g) := k x rfl
theorem V.ltl {x : Int64} {g : Int64 → Option (α × Mem)} (k : ∀ y : Int64, y = x → V G S ov l p e s mt args below meth c nL fr A ad0 N0 Nf Rz N R pc L (.long y :: st) m (g y)) : V G S ov l p e s mt args below meth c nL fr A ad0 N0 Nf Rz N R pc L (.long x :: st) m (lt x g) := k x rfl
theorem V.ltr {x : Nat} {g : Nat → Option (α × Mem)} (k : ∀ y : Nat, y = x → V G S ov l p e s mt args below meth c nL fr A ad0 N0 Nf Rz N R pc L (.ref y :: st) m (g y)) : V G S ov l p e s mt args below meth c nL fr A ad0 N0 Nf Rz N R pc L (.ref x :: st) m (lt x g) := k x rfl
theorem V.ltm {g : Mem → Option (α × Mem)} (k : ∀ y : Mem, V G S ov l p e s mt args below meth c nL fr A ad0 N0 Nf Rz N R pc L st y (g y)) : V G S ov l p e s mt args below meth c nL fr A ad0 N0 Nf Rz N R pc L st m (lt m g) := k m
theorem V.iconst (C : Cx G p s mt args meth c own cc nL ret nm A) {n : Int} {v : Int32} (hd : decode cc pc = .ok (.iconst n, 1)) (hv : Int32.ofInt n = v) (k : V G S ov l p e s mt args below meth c nL fr A ad0 N0 Nf Rz N R (pc + 1) L (.int v :: st) m t) : V G S ov l p e s mt args below meth c nL fr A ad0 N0 Nf Rz N R pc L (st) m t :=
  V.step (fun ad H locs ls Rm cells slots Q hP hS hL kk => lv_iconst C.1 C.2.1 hd hv kk) k
theorem V.bipush (C : Cx G p s mt args meth c own cc nL ret nm A) {n : Int} {v : Int32} (hd : decode cc pc = .ok (.bipush n, 2)) (hv : (Int8.ofInt n).toInt32 = v) (k : V G S ov l p e s mt args below meth c nL fr A ad0 N0 Nf Rz N R (pc + 2) L (.int v :: st) m t) : V G S ov l p e s mt args below meth c nL fr A ad0 N0 Nf Rz N R pc L (st) m t :=
  V.step (fun ad H locs ls Rm cells slots Q hP hS hL kk => lv_bipush C.1 C.2.1 hd hv kk) k
theorem V.sipush (C : Cx G p s mt args meth c own cc nL ret nm A) {n : Int} {v : Int32} (hd : decode cc pc = .ok (.sipush n, 3)) (hv : (Int16.ofInt n).toInt32 = v) (k : V G S ov l p e s mt args below meth c nL fr A ad0 N0 Nf Rz N R (pc + 3) L (.int v :: st) m t) : V G S ov l p e s mt args below meth c nL fr A ad0 N0 Nf Rz N R pc L (st) m t :=
  V.step (fun ad H locs ls Rm cells slots Q hP hS hL kk => lv_sipush C.1 C.2.1 hd hv kk) k
theorem V.lconst (C : Cx G p s mt args meth c own cc nL ret nm A) {n : Fin 2} {v : Int64} (hd : decode cc pc = .ok (.lconst n, 1)) (hv : Int64.ofNat (n : Nat) = v) (k : V G S ov l p e s mt args below meth c nL fr A ad0 N0 Nf Rz N R (pc + 1) L (.long v :: st) m t) : V G S ov l p e s mt args below meth c nL fr A ad0 N0 Nf Rz N R pc L (st) m t :=
  V.step (fun ad H locs ls Rm cells slots Q hP hS hL kk => lv_lconst C.1 C.2.1 hd hv kk) k
theorem V.ldc (C : Cx G p s mt args meth c own cc nL ret nm A) {i : Nat} {v : Int32} (hd : decode cc pc = .ok (.ldc i, 2)) (hc : Jvm.Cond.constant own i v ∈ gtb) (k : V G S ov l p e s mt args below meth c nL fr A ad0 N0 Nf Rz N R (pc + 2) L (.int v :: st) m t) : V G S ov l p e s mt args below meth c nL fr A ad0 N0 Nf Rz N R pc L (st) m t :=
  V.step (fun ad H locs ls Rm cells slots Q hP hS hL kk => lv_ldc C.1 C.2.1 C.2.2.2.1 (C.2.2.2.2.1 _ hc) hd kk) k
theorem V.ldcw (C : Cx G p s mt args meth c own cc nL ret nm A) {i : Nat} {v : Int32} (hd : decode cc pc = .ok (.ldc_w i, 3)) (hc : Jvm.Cond.constant own i v ∈ gtb) (k : V G S ov l p e s mt args below meth c nL fr A ad0 N0 Nf Rz N R (pc + 3) L (.int v :: st) m t) : V G S ov l p e s mt args below meth c nL fr A ad0 N0 Nf Rz N R pc L (st) m t :=
  V.step (fun ad H locs ls Rm cells slots Q hP hS hL kk => lv_ldcw C.1 C.2.1 C.2.2.2.1 (C.2.2.2.2.1 _ hc) hd kk) k
theorem V.ldc2 (C : Cx G p s mt args meth c own cc nL ret nm A) {i : Nat} {v : Int64} (hd : decode cc pc = .ok (.ldc2_w i, 3)) (hc : Jvm.Cond.constantLong own i v ∈ gtb) (k : V G S ov l p e s mt args below meth c nL fr A ad0 N0 Nf Rz N R (pc + 3) L (.long v :: st) m t) : V G S ov l p e s mt args below meth c nL fr A ad0 N0 Nf Rz N R pc L (st) m t :=
  V.step (fun ad H locs ls Rm cells slots Q hP hS hL kk => lv_ldc2 C.1 C.2.1 C.2.2.2.1 (C.2.2.2.2.1 _ hc) hd kk) k
theorem V.iload_n (C : Cx G p s mt args meth c own cc nL ret nm A) {k0 : Fin 4} {x : Int32} (hd : decode cc pc = .ok (.iload_n k0, 1)) (i : Nat) (hx : L[i]? = some ((k0 : Nat), .int x)) (k : V G S ov l p e s mt args below meth c nL fr A ad0 N0 Nf Rz N R (pc + 1) L (.int x :: st) m t) : V G S ov l p e s mt args below meth c nL fr A ad0 N0 Nf Rz N R pc L (st) m t :=
  V.step (fun ad H locs ls Rm cells slots Q hP hS hL kk => lv_iload_n C.1 C.2.1 hd rfl (lr_at hL i hx) kk) k
theorem V.iload (C : Cx G p s mt args meth c own cc nL ret nm A) {k0 : Nat} {x : Int32} (hd : decode cc pc = .ok (.iload k0, 2)) (i : Nat) (hx : L[i]? = some (k0, .int x)) (k : V G S ov l p e s mt args below meth c nL fr A ad0 N0 Nf Rz N R (pc + 2) L (.int x :: st) m t) : V G S ov l p e s mt args below meth c nL fr A ad0 N0 Nf Rz N R pc L (st) m t :=
  V.step (fun ad H locs ls Rm cells slots Q hP hS hL kk => lv_iload C.1 C.2.1 hd (lr_at hL i hx) kk) k
theorem V.lload_n (C : Cx G p s mt args meth c own cc nL ret nm A) {k0 : Fin 4} {x : Int64} (hd : decode cc pc = .ok (.lload_n k0, 1)) (i : Nat) (hx : L[i]? = some ((k0 : Nat), .long x)) (k : V G S ov l p e s mt args below meth c nL fr A ad0 N0 Nf Rz N R (pc + 1) L (.long x :: st) m t) : V G S ov l p e s mt args below meth c nL fr A ad0 N0 Nf Rz N R pc L (st) m t :=
  V.step (fun ad H locs ls Rm cells slots Q hP hS hL kk => lv_lload_n C.1 C.2.1 hd rfl (lr_at hL i hx) kk) k
theorem V.lload (C : Cx G p s mt args meth c own cc nL ret nm A) {k0 : Nat} {x : Int64} (hd : decode cc pc = .ok (.lload k0, 2)) (i : Nat) (hx : L[i]? = some (k0, .long x)) (k : V G S ov l p e s mt args below meth c nL fr A ad0 N0 Nf Rz N R (pc + 2) L (.long x :: st) m t) : V G S ov l p e s mt args below meth c nL fr A ad0 N0 Nf Rz N R pc L (st) m t :=
  V.step (fun ad H locs ls Rm cells slots Q hP hS hL kk => lv_lload C.1 C.2.1 hd (lr_at hL i hx) kk) k
theorem V.aload_n (C : Cx G p s mt args meth c own cc nL ret nm A) {k0 : Fin 4} {a : Nat} (hd : decode cc pc = .ok (.aload_n k0, 1)) (i : Nat) (hx : L[i]? = some ((k0 : Nat), .ref a)) (k : V G S ov l p e s mt args below meth c nL fr A ad0 N0 Nf Rz N R (pc + 1) L (.ref a :: st) m t) : V G S ov l p e s mt args below meth c nL fr A ad0 N0 Nf Rz N R pc L (st) m t :=
  V.step (fun ad H locs ls Rm cells slots Q hP hS hL kk => lv_aload_n C.1 C.2.1 hd rfl (lr_at hL i hx) kk) k
theorem V.aload (C : Cx G p s mt args meth c own cc nL ret nm A) {k0 : Nat} {a : Nat} (hd : decode cc pc = .ok (.aload k0, 2)) (i : Nat) (hx : L[i]? = some (k0, .ref a)) (k : V G S ov l p e s mt args below meth c nL fr A ad0 N0 Nf Rz N R (pc + 2) L (.ref a :: st) m t) : V G S ov l p e s mt args below meth c nL fr A ad0 N0 Nf Rz N R pc L (st) m t :=
  V.step (fun ad H locs ls Rm cells slots Q hP hS hL kk => lv_aload C.1 C.2.1 hd (lr_at hL i hx) kk) k
theorem V.sload_n (C : Cx G p s mt args meth c own cc nL ret nm A) {k0 : Fin 4} {a : Nat} (hd : decode cc pc = .ok (.aload_n k0, 1)) (i : Nat) (hx : L[i]? = some ((k0 : Nat), .retAddr a)) (k : V G S ov l p e s mt args below meth c nL fr A ad0 N0 Nf Rz N R (pc + 1) L (.retAddr a :: st) m t) : V G S ov l p e s mt args below meth c nL fr A ad0 N0 Nf Rz N R pc L st m t := by
  refine V.step (fun ad H locs ls Rm cells slots Q hP hS hL kk => ?_) k
  have h1 := lr_at hL i hx
  have e1 : ∃ q, mv G ad (.retAddr a) = .ref q := by
    by_cases h : a < 1000
    · exact ⟨_, if_pos h⟩
    · exact ⟨_, if_neg h⟩
  obtain ⟨q, e1⟩ := e1
  rw [List.map_cons] at kk
  rw [e1] at h1 kk
  exact lv_aload_n C.1 C.2.1 hd rfl h1 kk
theorem V.iadd (C : Cx G p s mt args meth c own cc nL ret nm A) {x y : Int32} (hd : decode cc pc = .ok (.iadd, 1))  (k : V G S ov l p e s mt args below meth c nL fr A ad0 N0 Nf Rz N R (pc + 1) L (.int (x + y) :: st) m t) : V G S ov l p e s mt args below meth c nL fr A ad0 N0 Nf Rz N R pc L (.int y :: .int x :: st) m t :=
  V.step (fun ad H locs ls Rm cells slots Q hP hS hL kk => lv_iadd C.1 C.2.1 hd kk) k
theorem V.isub (C : Cx G p s mt args meth c own cc nL ret nm A) {x y : Int32} (hd : decode cc pc = .ok (.isub, 1))  (k : V G S ov l p e s mt args below meth c nL fr A ad0 N0 Nf Rz N R (pc + 1) L (.int (x - y) :: st) m t) : V G S ov l p e s mt args below meth c nL fr A ad0 N0 Nf Rz N R pc L (.int y :: .int x :: st) m t :=
  V.step (fun ad H locs ls Rm cells slots Q hP hS hL kk => lv_isub C.1 C.2.1 hd kk) k
theorem V.imul (C : Cx G p s mt args meth c own cc nL ret nm A) {x y : Int32} (hd : decode cc pc = .ok (.imul, 1))  (k : V G S ov l p e s mt args below meth c nL fr A ad0 N0 Nf Rz N R (pc + 1) L (.int (x * y) :: st) m t) : V G S ov l p e s mt args below meth c nL fr A ad0 N0 Nf Rz N R pc L (.int y :: .int x :: st) m t :=
  V.step (fun ad H locs ls Rm cells slots Q hP hS hL kk => lv_imul C.1 C.2.1 hd kk) k
theorem V.iand (C : Cx G p s mt args meth c own cc nL ret nm A) {x y : Int32} (hd : decode cc pc = .ok (.iand, 1))  (k : V G S ov l p e s mt args below meth c nL fr A ad0 N0 Nf Rz N R (pc + 1) L (.int (x &&& y) :: st) m t) : V G S ov l p e s mt args below meth c nL fr A ad0 N0 Nf Rz N R pc L (.int y :: .int x :: st) m t :=
  V.step (fun ad H locs ls Rm cells slots Q hP hS hL kk => lv_iand C.1 C.2.1 hd kk) k
theorem V.ior (C : Cx G p s mt args meth c own cc nL ret nm A) {x y : Int32} (hd : decode cc pc = .ok (.ior, 1))  (k : V G S ov l p e s mt args below meth c nL fr A ad0 N0 Nf Rz N R (pc + 1) L (.int (x ||| y) :: st) m t) : V G S ov l p e s mt args below meth c nL fr A ad0 N0 Nf Rz N R pc L (.int y :: .int x :: st) m t :=
  V.step (fun ad H locs ls Rm cells slots Q hP hS hL kk => lv_ior C.1 C.2.1 hd kk) k
theorem V.ixor (C : Cx G p s mt args meth c own cc nL ret nm A) {x y : Int32} (hd : decode cc pc = .ok (.ixor, 1))  (k : V G S ov l p e s mt args below meth c nL fr A ad0 N0 Nf Rz N R (pc + 1) L (.int (x ^^^ y) :: st) m t) : V G S ov l p e s mt args below meth c nL fr A ad0 N0 Nf Rz N R pc L (.int y :: .int x :: st) m t :=
  V.step (fun ad H locs ls Rm cells slots Q hP hS hL kk => lv_ixor C.1 C.2.1 hd kk) k
theorem V.ishl (C : Cx G p s mt args meth c own cc nL ret nm A) {x y : Int32} (hd : decode cc pc = .ok (.ishl, 1))  (k : V G S ov l p e s mt args below meth c nL fr A ad0 N0 Nf Rz N R (pc + 1) L (.int (x <<< (y &&& 31)) :: st) m t) : V G S ov l p e s mt args below meth c nL fr A ad0 N0 Nf Rz N R pc L (.int y :: .int x :: st) m t :=
  V.step (fun ad H locs ls Rm cells slots Q hP hS hL kk => lv_ishl C.1 C.2.1 hd kk) k
theorem V.ishr (C : Cx G p s mt args meth c own cc nL ret nm A) {x y : Int32} (hd : decode cc pc = .ok (.ishr, 1))  (k : V G S ov l p e s mt args below meth c nL fr A ad0 N0 Nf Rz N R (pc + 1) L (.int (x >>> (y &&& 31)) :: st) m t) : V G S ov l p e s mt args below meth c nL fr A ad0 N0 Nf Rz N R pc L (.int y :: .int x :: st) m t :=
  V.step (fun ad H locs ls Rm cells slots Q hP hS hL kk => lv_ishr C.1 C.2.1 hd kk) k
theorem V.iushr (C : Cx G p s mt args meth c own cc nL ret nm A) {x y : Int32} (hd : decode cc pc = .ok (.iushr, 1))  (k : V G S ov l p e s mt args below meth c nL fr A ad0 N0 Nf Rz N R (pc + 1) L (.int ((x.toUInt32 >>> (y.toUInt32 &&& Int32.toUInt32 31)).toInt32) :: st) m t) : V G S ov l p e s mt args below meth c nL fr A ad0 N0 Nf Rz N R pc L (.int y :: .int x :: st) m t :=
  V.step (fun ad H locs ls Rm cells slots Q hP hS hL kk => lv_iushr C.1 C.2.1 hd rfl kk) k
theorem V.ineg (C : Cx G p s mt args meth c own cc nL ret nm A) {x : Int32} (hd : decode cc pc = .ok (.ineg, 1))  (k : V G S ov l p e s mt args below meth c nL fr A ad0 N0 Nf Rz N R (pc + 1) L (.int (-x) :: st) m t) : V G S ov l p e s mt args below meth c nL fr A ad0 N0 Nf Rz N R pc L (.int x :: st) m t :=
  V.step (fun ad H locs ls Rm cells slots Q hP hS hL kk => lv_ineg C.1 C.2.1 hd kk) k
theorem V.idiv (C : Cx G p s mt args meth c own cc nL ret nm A) {x y : Int32} (hd : decode cc pc = .ok (.idiv, 1)) (hne : ¬ y = 0) (k : V G S ov l p e s mt args below meth c nL fr A ad0 N0 Nf Rz N R (pc + 1) L (.int (x / y) :: st) m t) : V G S ov l p e s mt args below meth c nL fr A ad0 N0 Nf Rz N R pc L (.int y :: .int x :: st) m t :=
  V.step (fun ad H locs ls Rm cells slots Q hP hS hL kk => lv_idiv C.1 C.2.1 hd hne kk) k
theorem V.irem (C : Cx G p s mt args meth c own cc nL ret nm A) {x y : Int32} (hd : decode cc pc = .ok (.irem, 1)) (hne : ¬ y = 0) (k : V G S ov l p e s mt args below meth c nL fr A ad0 N0 Nf Rz N R (pc + 1) L (.int (x - x / y * y) :: st) m t) : V G S ov l p e s mt args below meth c nL fr A ad0 N0 Nf Rz N R pc L (.int y :: .int x :: st) m t :=
  V.step (fun ad H locs ls Rm cells slots Q hP hS hL kk => lv_irem C.1 C.2.1 hd hne kk) k
theorem V.ladd (C : Cx G p s mt args meth c own cc nL ret nm A) {x y : Int64} (hd : decode cc pc = .ok (.ladd, 1))  (k : V G S ov l p e s mt args below meth c nL fr A ad0 N0 Nf Rz N R (pc + 1) L (.long (x + y) :: st) m t) : V G S ov l p e s mt args below meth c nL fr A ad0 N0 Nf Rz N R pc L (.long y :: .long x :: st) m t :=
  V.step (fun ad H locs ls Rm cells slots Q hP hS hL kk => lv_ladd C.1 C.2.1 hd kk) k
theorem V.lsub (C : Cx G p s mt args meth c own cc nL ret nm A) {x y : Int64} (hd : decode cc pc = .ok (.lsub, 1))  (k : V G S ov l p e s mt args below meth c nL fr A ad0 N0 Nf Rz N R (pc + 1) L (.long (x - y) :: st) m t) : V G S ov l p e s mt args below meth c nL fr A ad0 N0 Nf Rz N R pc L (.long y :: .long x :: st) m t :=
  V.step (fun ad H locs ls Rm cells slots Q hP hS hL kk => lv_lsub C.1 C.2.1 hd kk) k
theorem V.lmul (C : Cx G p s mt args meth c own cc nL ret nm A) {x y : Int64} (hd : decode cc pc = .ok (.lmul, 1))  (k : V G S ov l p e s mt args below meth c nL fr A ad0 N0 Nf Rz N R (pc + 1) L (.long (x * y) :: st) m t) : V G S ov l p e s mt args below meth c nL fr A ad0 N0 Nf Rz N R pc L (.long y :: .long x :: st) m t :=
  V.step (fun ad H locs ls Rm cells slots Q hP hS hL kk => lv_lmul C.1 C.2.1 hd kk) k
theorem V.land (C : Cx G p s mt args meth c own cc nL ret nm A) {x y : Int64} (hd : decode cc pc = .ok (.land, 1))  (k : V G S ov l p e s mt args below meth c nL fr A ad0 N0 Nf Rz N R (pc + 1) L (.long (x &&& y) :: st) m t) : V G S ov l p e s mt args below meth c nL fr A ad0 N0 Nf Rz N R pc L (.long y :: .long x :: st) m t :=
  V.step (fun ad H locs ls Rm cells slots Q hP hS hL kk => lv_land C.1 C.2.1 hd kk) k
theorem V.lor (C : Cx G p s mt args meth c own cc nL ret nm A) {x y : Int64} (hd : decode cc pc = .ok (.lor, 1))  (k : V G S ov l p e s mt args below meth c nL fr A ad0 N0 Nf Rz N R (pc + 1) L (.long (x ||| y) :: st) m t) : V G S ov l p e s mt args below meth c nL fr A ad0 N0 Nf Rz N R pc L (.long y :: .long x :: st) m t :=
  V.step (fun ad H locs ls Rm cells slots Q hP hS hL kk => lv_lor C.1 C.2.1 hd kk) k
theorem V.lshl (C : Cx G p s mt args meth c own cc nL ret nm A) {x : Int64} {y : Int32} (hd : decode cc pc = .ok (.lshl, 1))  (k : V G S ov l p e s mt args below meth c nL fr A ad0 N0 Nf Rz N R (pc + 1) L (.long (x <<< (y.toInt64 &&& 63)) :: st) m t) : V G S ov l p e s mt args below meth c nL fr A ad0 N0 Nf Rz N R pc L (.int y :: .long x :: st) m t :=
  V.step (fun ad H locs ls Rm cells slots Q hP hS hL kk => lv_lshl C.1 C.2.1 hd rfl kk) k
theorem V.lshr (C : Cx G p s mt args meth c own cc nL ret nm A) {x : Int64} {y : Int32} (hd : decode cc pc = .ok (.lshr, 1))  (k : V G S ov l p e s mt args below meth c nL fr A ad0 N0 Nf Rz N R (pc + 1) L (.long (x >>> (y.toInt64 &&& 63)) :: st) m t) : V G S ov l p e s mt args below meth c nL fr A ad0 N0 Nf Rz N R pc L (.int y :: .long x :: st) m t :=
  V.step (fun ad H locs ls Rm cells slots Q hP hS hL kk => lv_lshr C.1 C.2.1 hd rfl kk) k
theorem V.lcmp (C : Cx G p s mt args meth c own cc nL ret nm A) {x y : Int64} (hd : decode cc pc = .ok (.lcmp, 1))  (k : V G S ov l p e s mt args below meth c nL fr A ad0 N0 Nf Rz N R (pc + 1) L (.int (lg_cmp x y) :: st) m t) : V G S ov l p e s mt args below meth c nL fr A ad0 N0 Nf Rz N R pc L (.long y :: .long x :: st) m t :=
  V.step (fun ad H locs ls Rm cells slots Q hP hS hL kk => W.lcmp C.1 C.2.1 hd kk) k
theorem V.i2l (C : Cx G p s mt args meth c own cc nL ret nm A) {x : Int32} (hd : decode cc pc = .ok (.i2l, 1))  (k : V G S ov l p e s mt args below meth c nL fr A ad0 N0 Nf Rz N R (pc + 1) L (.long x.toInt64 :: st) m t) : V G S ov l p e s mt args below meth c nL fr A ad0 N0 Nf Rz N R pc L (.int x :: st) m t :=
  V.step (fun ad H locs ls Rm cells slots Q hP hS hL kk => lv_i2l C.1 C.2.1 hd rfl kk) k
theorem V.l2i (C : Cx G p s mt args meth c own cc nL ret nm A) {x : Int64} (hd : decode cc pc = .ok (.l2i, 1))  (k : V G S ov l p e s mt args below meth c nL fr A ad0 N0 Nf Rz N R (pc + 1) L (.int x.toInt32 :: st) m t) : V G S ov l p e s mt args below meth c nL fr A ad0 N0 Nf Rz N R pc L (.long x :: st) m t :=
  V.step (fun ad H locs ls Rm cells slots Q hP hS hL kk => lv_l2i C.1 C.2.1 hd rfl kk) k
theorem V.i2b (C : Cx G p s mt args meth c own cc nL ret nm A) {x : Int32} (hd : decode cc pc = .ok (.i2b, 1))  (k : V G S ov l p e s mt args below meth c nL fr A ad0 N0 Nf Rz N R (pc + 1) L (.int x.toInt8.toInt32 :: st) m t) : V G S ov l p e s mt args below meth c nL fr A ad0 N0 Nf Rz N R pc L (.int x :: st) m t :=
  V.step (fun ad H locs ls Rm cells slots Q hP hS hL kk => lv_i2b C.1 C.2.1 hd rfl kk) k
theorem V.i2s (C : Cx G p s mt args meth c own cc nL ret nm A) {x : Int32} (hd : decode cc pc = .ok (.i2s, 1))  (k : V G S ov l p e s mt args below meth c nL fr A ad0 N0 Nf Rz N R (pc + 1) L (.int x.toInt16.toInt32 :: st) m t) : V G S ov l p e s mt args below meth c nL fr A ad0 N0 Nf Rz N R pc L (.int x :: st) m t :=
  V.step (fun ad H locs ls Rm cells slots Q hP hS hL kk => lv_i2s C.1 C.2.1 hd rfl kk) k
theorem V.i2c (C : Cx G p s mt args meth c own cc nL ret nm A) {x : Int32} (hd : decode cc pc = .ok (.i2c, 1))  (k : V G S ov l p e s mt args below meth c nL fr A ad0 N0 Nf Rz N R (pc + 1) L (.int (x.toUInt32 % 65536).toInt32 :: st) m t) : V G S ov l p e s mt args below meth c nL fr A ad0 N0 Nf Rz N R pc L (.int x :: st) m t :=
  V.step (fun ad H locs ls Rm cells slots Q hP hS hL kk => lv_i2c C.1 C.2.1 hd rfl kk) k
theorem V.dup (C : Cx G p s mt args meth c own cc nL ret nm A) {v : Value} (hd : decode cc pc = .ok (.dup, 1)) (hv : v.category = 1) (k : V G S ov l p e s mt args below meth c nL fr A ad0 N0 Nf Rz N R (pc + 1) L (v :: v :: st) m t) : V G S ov l p e s mt args below meth c nL fr A ad0 N0 Nf Rz N R pc L (v :: st) m t :=
  V.step (fun ad H locs ls Rm cells slots Q hP hS hL kk => lv_dup C.1 C.2.1 hd (by rw [mv_cat]; exact hv) kk) k
theorem V.pop (C : Cx G p s mt args meth c own cc nL ret nm A) {v : Value} (hd : decode cc pc = .ok (.pop, 1)) (hv : v.category = 1) (k : V G S ov l p e s mt args below meth c nL fr A ad0 N0 Nf Rz N R (pc + 1) L (st) m t) : V G S ov l p e s mt args below meth c nL fr A ad0 N0 Nf Rz N R pc L (v :: st) m t :=
  V.step (fun ad H locs ls Rm cells slots Q hP hS hL kk => lv_pop C.1 C.2.1 hd (by rw [mv_cat]; exact hv) kk) k
theorem V.dup2 (C : Cx G p s mt args meth c own cc nL ret nm A) {v w : Value} (hd : decode cc pc = .ok (.dup2, 1)) (hv : v.category = 1) (hw : w.category = 1) (k : V G S ov l p e s mt args below meth c nL fr A ad0 N0 Nf Rz N R (pc + 1) L (v :: w :: v :: w :: st) m t) : V G S ov l p e s mt args below meth c nL fr A ad0 N0 Nf Rz N R pc L (v :: w :: st) m t :=
  V.step (fun ad H locs ls Rm cells slots Q hP hS hL kk => lv_dup2_11 C.1 C.2.1 hd (by rw [mv_cat]; exact hv) (by rw [mv_cat]; exact hw) kk) k
theorem V.dup_x1 (C : Cx G p s mt args meth c own cc nL ret nm A) {v w : Value} (hd : decode cc pc = .ok (.dup_x1, 1)) (hv : v.category = 1) (hw : w.category = 1) (k : V G S ov l p e s mt args below meth c nL fr A ad0 N0 Nf Rz N R (pc + 1) L (v :: w :: v :: st) m t) : V G S ov l p e s mt args below meth c nL fr A ad0 N0 Nf Rz N R pc L (v :: w :: st) m t :=
  V.step (fun ad H locs ls Rm cells slots Q hP hS hL kk => lv_dup_x1 C.1 C.2.1 hd (by rw [mv_cat]; exact hv) (by rw [mv_cat]; exact hw) kk) k
theorem V.goto (C : Cx G p s mt args meth c own cc nL ret nm A) {off : Int} (hd : decode cc pc = .ok (.goto off, 3)) (tgt : Nat) (ht : (pc : Int) + off = (tgt : Int)) (k : V G S ov l p e s mt args below meth c nL fr A ad0 N0 Nf Rz N R tgt L (st) m t) : V G S ov l p e s mt args below meth c nL fr A ad0 N0 Nf Rz N R pc L (st) m t :=
  V.step (fun ad H locs ls Rm cells slots Q hP hS hL kk => lv_goto C.1 C.2.1 hd ht kk) k
theorem V.istore_n (C : Cx G p s mt args meth c own cc nL ret nm A) {k0 : Fin 4} {x : Int32} {L2 : List (Nat × Value)} (hd : decode cc pc = .ok (.istore_n k0, 1)) (hn : (k0 : Nat) < nL) (hl : stI L (k0 : Nat) (.int x) = L2) (k : V G S ov l p e s mt args below meth c nL fr A ad0 N0 Nf Rz N R (pc + 1) L2 st m t) : V G S ov l p e s mt args below meth c nL fr A ad0 N0 Nf Rz N R pc L (.int x :: st) m t :=
  V.gen (fun ad H locs ls Rm cells slots Q h2 h3 h4 h5 _ _ kk => lv_istore_n C.1 C.2.1 hd rfl h5 hn (stI_map (v := .int x) hl) (fun ls1 g5 => kk H locs ls1 h2 h3 h4 g5)) k
theorem V.istore (C : Cx G p s mt args meth c own cc nL ret nm A) {i : Nat} {x : Int32} {L2 : List (Nat × Value)} (hd : decode cc pc = .ok (.istore i, 2)) (hn : i < nL) (hl : stI L i (.int x) = L2) (k : V G S ov l p e s mt args below meth c nL fr A ad0 N0 Nf Rz N R (pc + 2) L2 st m t) : V G S ov l p e s mt args below meth c nL fr A ad0 N0 Nf Rz N R pc L (.int x :: st) m t :=
  V.gen (fun ad H locs ls Rm cells slots Q h2 h3 h4 h5 _ _ kk => lv_istore C.1 C.2.1 hd h5 hn (stI_map (v := .int x) hl) (fun ls1 g5 => kk H locs ls1 h2 h3 h4 g5)) k
theorem V.lstore_n (C : Cx G p s mt args meth c own cc nL ret nm A) {k0 : Fin 4} {x : Int64} {L2 : List (Nat × Value)} (hd : decode cc pc = .ok (.lstore_n k0, 1)) (hn : (k0 : Nat) + 1 < nL) (hl : stJ L (k0 : Nat) (.long x) = L2) (k : V G S ov l p e s mt args below meth c nL fr A ad0 N0 Nf Rz N R (pc + 1) L2 st m t) : V G S ov l p e s mt args below meth c nL fr A ad0 N0 Nf Rz N R pc L (.long x :: st) m t :=
  V.gen (fun ad H locs ls Rm cells slots Q h2 h3 h4 h5 _ _ kk => lv_lstore_n C.1 C.2.1 hd rfl h5 hn (stJ_map (v := .long x) hl) (fun ls1 g5 => kk H locs ls1 h2 h3 h4 g5)) k
theorem V.lstore (C : Cx G p s mt args meth c own cc nL ret nm A) {i : Nat} {x : Int64} {L2 : List (Nat × Value)} (hd : decode cc pc = .ok (.lstore i, 2)) (hn : i + 1 < nL) (hl : stJ L i (.long x) = L2) (k : V G S ov l p e s mt args below meth c nL fr A ad0 N0 Nf Rz N R (pc + 2) L2 st m t) : V G S ov l p e s mt args below meth c nL fr A ad0 N0 Nf Rz N R pc L (.long x :: st) m t :=
  V.gen (fun ad H locs ls Rm cells slots Q h2 h3 h4 h5 _ _ kk => lv_lstore C.1 C.2.1 hd h5 hn (stJ_map (v := .long x) hl) (fun ls1 g5 => kk H locs ls1 h2 h3 h4 g5)) k
theorem V.astore_n (C : Cx G p s mt args meth c own cc nL ret nm A) {k0 : Fin 4} {x : Nat} {L2 : List (Nat × Value)} (hd : decode cc pc = .ok (.astore_n k0, 1)) (hn : (k0 : Nat) < nL) (hl : stI L (k0 : Nat) (.ref x) = L2) (k : V G S ov l p e s mt args below meth c nL fr A ad0 N0 Nf Rz N R (pc + 1) L2 st m t) : V G S ov l p e s mt args below meth c nL fr A ad0 N0 Nf Rz N R pc L (.ref x :: st) m t :=
  V.gen (fun ad H locs ls Rm cells slots Q h2 h3 h4 h5 _ _ kk => lv_astore_n C.1 C.2.1 hd rfl h5 hn (stI_map (v := .ref x) hl) (fun ls1 g5 => kk H locs ls1 h2 h3 h4 g5)) k
theorem V.astore (C : Cx G p s mt args meth c own cc nL ret nm A) {i : Nat} {x : Nat} {L2 : List (Nat × Value)} (hd : decode cc pc = .ok (.astore i, 2)) (hn : i < nL) (hl : stI L i (.ref x) = L2) (k : V G S ov l p e s mt args below meth c nL fr A ad0 N0 Nf Rz N R (pc + 2) L2 st m t) : V G S ov l p e s mt args below meth c nL fr A ad0 N0 Nf Rz N R pc L (.ref x :: st) m t :=
  V.gen (fun ad H locs ls Rm cells slots Q h2 h3 h4 h5 _ _ kk => lv_astore C.1 C.2.1 hd h5 hn (stI_map (v := .ref x) hl) (fun ls1 g5 => kk H locs ls1 h2 h3 h4 g5)) k
theorem V.iinc (C : Cx G p s mt args meth c own cc nL ret nm A) {i : Nat} {n : Int} {x v : Int32} {L2 : List (Nat × Value)} (hd : decode cc pc = .ok (.iinc i n, 3)) (j : Nat) (hj : L[j]? = some (i, .int x)) (hv : Int32.ofInt n = v) (hn : i < nL) (hl : stI L i (.int (x + v)) = L2) (k : V G S ov l p e s mt args below meth c nL fr A ad0 N0 Nf Rz N R (pc + 3) L2 st m t) : V G S ov l p e s mt args below meth c nL fr A ad0 N0 Nf Rz N R pc L st m t :=
  V.gen (fun ad H locs ls Rm cells slots Q h2 h3 h4 h5 _ _ kk => lv_iinc C.1 C.2.1 hd h5 (k := j) (x := x) (by rw [List.getElem?_map, hj]; rfl) (show x + Int32.ofInt n = x + v by rw [hv]) hn (stI_map (v := .int (x + v)) hl) (fun ls1 g5 => kk H locs ls1 h2 h3 h4 g5)) k
theorem V.if_eq (C : Cx G p s mt args meth c own cc nL ret nm A) {x : Int32} {off : Int} {t2 : Option (α × Mem)} (hd : decode cc pc = .ok (.ifCond .eq off, 3)) (tgt : Nat) (ht : (pc : Int) + off = (tgt : Int)) (k1 : x = 0 → V G S ov l p e s mt args below meth c nL fr A ad0 N0 Nf Rz N R tgt L st m t) (k2 : ¬ x = 0 → V G S ov l p e s mt args below meth c nL fr A ad0 N0 Nf Rz N R (pc + 3) L st m t2) : V G S ov l p e s mt args below meth c nL fr A ad0 N0 Nf Rz N R pc L (.int x :: st) m (if x = 0 then t else t2) := by
  by_cases hc : x = 0
  · rw [if_pos hc]
    exact V.step (fun ad H locs ls Rm cells slots Q hP hS hL kk => lv_if_eq C.1 C.2.1 hd ht (fun _ => kk) (fun g => absurd hc g)) (k1 hc)
  · rw [if_neg hc]
    exact V.step (fun ad H locs ls Rm cells slots Q hP hS hL kk => lv_if_eq C.1 C.2.1 hd ht (fun g => absurd g hc) (fun _ => kk)) (k2 hc)
theorem V.if_ne (C : Cx G p s mt args meth c own cc nL ret nm A) {x : Int32} {off : Int} {t2 : Option (α × Mem)} (hd : decode cc pc = .ok (.ifCond .ne off, 3)) (tgt : Nat) (ht : (pc : Int) + off = (tgt : Int)) (k1 : ¬ x = 0 → V G S ov l p e s mt args below meth c nL fr A ad0 N0 Nf Rz N R tgt L st m t) (k2 : x = 0 → V G S ov l p e s mt args below meth c nL fr A ad0 N0 Nf Rz N R (pc + 3) L st m t2) : V G S ov l p e s mt args below meth c nL fr A ad0 N0 Nf Rz N R pc L (.int x :: st) m (if x = 0 then t2 else t) := by
  by_cases hc : x = 0
  · rw [if_pos hc]
    exact V.step (fun ad H locs ls Rm cells slots Q hP hS hL kk => lv_if_ne C.1 C.2.1 hd ht (fun g => absurd hc g) (fun _ => kk)) (k2 hc)
  · rw [if_neg hc]
    exact V.step (fun ad H locs ls Rm cells slots Q hP hS hL kk => lv_if_ne C.1 C.2.1 hd ht (fun _ => kk) (fun g => absurd g hc)) (k1 hc)
theorem V.if_lt (C : Cx G p s mt args meth c own cc nL ret nm A) {x : Int32} {off : Int} {t2 : Option (α × Mem)} (hd : decode cc pc = .ok (.ifCond .lt off, 3)) (tgt : Nat) (ht : (pc : Int) + off = (tgt : Int)) (k1 : x < 0 → V G S ov l p e s mt args below meth c nL fr A ad0 N0 Nf Rz N R tgt L st m t) (k2 : ¬ x < 0 → V G S ov l p e s mt args below meth c nL fr A ad0 N0 Nf Rz N R (pc + 3) L st m t2) : V G S ov l p e s mt args below meth c nL fr A ad0 N0 Nf Rz N R pc L (.int x :: st) m (if x < 0 then t else t2) := by
  by_cases hc : x < 0
  · rw [if_pos hc]
    exact V.step (fun ad H locs ls Rm cells slots Q hP hS hL kk => lv_if_lt C.1 C.2.1 hd ht (fun _ => kk) (fun g => absurd hc g)) (k1 hc)
  · rw [if_neg hc]
    exact V.step (fun ad H locs ls Rm cells slots Q hP hS hL kk => lv_if_lt C.1 C.2.1 hd ht (fun g => absurd g hc) (fun _ => kk)) (k2 hc)
theorem V.if_ge (C : Cx G p s mt args meth c own cc nL ret nm A) {x : Int32} {off : Int} {t2 : Option (α × Mem)} (hd : decode cc pc = .ok (.ifCond .ge off, 3)) (tgt : Nat) (ht : (pc : Int) + off = (tgt : Int)) (k1 : 0 ≤ x → V G S ov l p e s mt args below meth c nL fr A ad0 N0 Nf Rz N R tgt L st m t) (k2 : ¬ 0 ≤ x → V G S ov l p e s mt args below meth c nL fr A ad0 N0 Nf Rz N R (pc + 3) L st m t2) : V G S ov l p e s mt args below meth c nL fr A ad0 N0 Nf Rz N R pc L (.int x :: st) m (if 0 ≤ x then t else t2) := by
  by_cases hc : 0 ≤ x
  · rw [if_pos hc]
    exact V.step (fun ad H locs ls Rm cells slots Q hP hS hL kk => lv_if_ge C.1 C.2.1 hd ht (fun _ => kk) (fun g => absurd hc g)) (k1 hc)
  · rw [if_neg hc]
    exact V.step (fun ad H locs ls Rm cells slots Q hP hS hL kk => lv_if_ge C.1 C.2.1 hd ht (fun g => absurd g hc) (fun _ => kk)) (k2 hc)
theorem V.if_gt (C : Cx G p s mt args meth c own cc nL ret nm A) {x : Int32} {off : Int} {t2 : Option (α × Mem)} (hd : decode cc pc = .ok (.ifCond .gt off, 3)) (tgt : Nat) (ht : (pc : Int) + off = (tgt : Int)) (k1 : 0 < x → V G S ov l p e s mt args below meth c nL fr A ad0 N0 Nf Rz N R tgt L st m t) (k2 : ¬ 0 < x → V G S ov l p e s mt args below meth c nL fr A ad0 N0 Nf Rz N R (pc + 3) L st m t2) : V G S ov l p e s mt args below meth c nL fr A ad0 N0 Nf Rz N R pc L (.int x :: st) m (if 0 < x then t else t2) := by
  by_cases hc : 0 < x
  · rw [if_pos hc]
    exact V.step (fun ad H locs ls Rm cells slots Q hP hS hL kk => lv_if_gt C.1 C.2.1 hd ht (fun _ => kk) (fun g => absurd hc g)) (k1 hc)
  · rw [if_neg hc]
    exact V.step (fun ad H locs ls Rm cells slots Q hP hS hL kk => lv_if_gt C.1 C.2.1 hd ht (fun g => absurd g hc) (fun _ => kk)) (k2 hc)
theorem V.if_le (C : Cx G p s mt args meth c own cc nL ret nm A) {x : Int32} {off : Int} {t2 : Option (α × Mem)} (hd : decode cc pc = .ok (.ifCond .le off, 3)) (tgt : Nat) (ht : (pc : Int) + off = (tgt : Int)) (k1 : x ≤ 0 → V G S ov l p e s mt args below meth c nL fr A ad0 N0 Nf Rz N R tgt L st m t) (k2 : ¬ x ≤ 0 → V G S ov l p e s mt args below meth c nL fr A ad0 N0 Nf Rz N R (pc + 3) L st m t2) : V G S ov l p e s mt args below meth c nL fr A ad0 N0 Nf Rz N R pc L (.int x :: st) m (if x ≤ 0 then t else t2) := by
  by_cases hc : x ≤ 0
  · rw [if_pos hc]
    exact V.step (fun ad H locs ls Rm cells slots Q hP hS hL kk => lv_if_le C.1 C.2.1 hd ht (fun _ => kk) (fun g => absurd hc g)) (k1 hc)
  · rw [if_neg hc]
    exact V.step (fun ad H locs ls Rm cells slots Q hP hS hL kk => lv_if_le C.1 C.2.1 hd ht (fun g => absurd g hc) (fun _ => kk)) (k2 hc)
theorem V.icmp_eq (C : Cx G p s mt args meth c own cc nL ret nm A) {x y : Int32} {off : Int} {t2 : Option (α × Mem)} (hd : decode cc pc = .ok (.if_icmp .eq off, 3)) (tgt : Nat) (ht : (pc : Int) + off = (tgt : Int)) (k1 : x = y → V G S ov l p e s mt args below meth c nL fr A ad0 N0 Nf Rz N R tgt L st m t) (k2 : ¬ x = y → V G S ov l p e s mt args below meth c nL fr A ad0 N0 Nf Rz N R (pc + 3) L st m t2) : V G S ov l p e s mt args below meth c nL fr A ad0 N0 Nf Rz N R pc L (.int y :: .int x :: st) m (if x = y then t else t2) := by
  by_cases hc : x = y
  · rw [if_pos hc]
    exact V.step (fun ad H locs ls Rm cells slots Q hP hS hL kk => lv_icmp_eq C.1 C.2.1 hd ht (fun _ => kk) (fun g => absurd hc g)) (k1 hc)
  · rw [if_neg hc]
    exact V.step (fun ad H locs ls Rm cells slots Q hP hS hL kk => lv_icmp_eq C.1 C.2.1 hd ht (fun g => absurd g hc) (fun _ => kk)) (k2 hc)
theorem V.icmp_ne (C : Cx G p s mt args meth c own cc nL ret nm A) {x y : Int32} {off : Int} {t2 : Option (α × Mem)} (hd : decode cc pc = .ok (.if_icmp .ne off, 3)) (tgt : Nat) (ht : (pc : Int) + off = (tgt : Int)) (k1 : ¬ x = y → V G S ov l p e s mt args below meth c nL fr A ad0 N0 Nf Rz N R tgt L st m t) (k2 : x = y → V G S ov l p e s mt args below meth c nL fr A ad0 N0 Nf Rz N R (pc + 3) L st m t2) : V G S ov l p e s mt args below meth c nL fr A ad0 N0 Nf Rz N R pc L (.int y :: .int x :: st) m (if x = y then t2 else t) := by
  by_cases hc : x = y
  · rw [if_pos hc]
    exact V.step (fun ad H locs ls Rm cells slots Q hP hS hL kk => lv_icmp_ne C.1 C.2.1 hd ht (fun g => absurd hc g) (fun _ => kk)) (k2 hc)
  · rw [if_neg hc]
    exact V.step (fun ad H locs ls Rm cells slots Q hP hS hL kk => lv_icmp_ne C.1 C.2.1 hd ht (fun _ => kk) (fun g => absurd g hc)) (k1 hc)
theorem V.icmp_lt (C : Cx G p s mt args meth c own cc nL ret nm A) {x y : Int32} {off : Int} {t2 : Option (α × Mem)} (hd : decode cc pc = .ok (.if_icmp .lt off, 3)) (tgt : Nat) (ht : (pc : Int) + off = (tgt : Int)) (k1 : x < y → V G S ov l p e s mt args below meth c nL fr A ad0 N0 Nf Rz N R tgt L st m t) (k2 : ¬ x < y → V G S ov l p e s mt args below meth c nL fr A ad0 N0 Nf Rz N R (pc + 3) L st m t2) : V G S ov l p e s mt args below meth c nL fr A ad0 N0 Nf Rz N R pc L (.int y :: .int x :: st) m (if x < y then t else t2) := by
  by_cases hc : x < y
  · rw [if_pos hc]
    exact V.step (fun ad H locs ls Rm cells slots Q hP hS hL kk => lv_icmp_lt C.1 C.2.1 hd ht (fun _ => kk) (fun g => absurd hc g)) (k1 hc)
  · rw [if_neg hc]
    exact V.step (fun ad H locs ls Rm cells slots Q hP hS hL kk => lv_icmp_lt C.1 C.2.1 hd ht (fun g => absurd g hc) (fun _ => kk)) (k2 hc)
theorem V.icmp_ge (C : Cx G p s mt args meth c own cc nL ret nm A) {x y : Int32} {off : Int} {t2 : Option (α × Mem)} (hd : decode cc pc = .ok (.if_icmp .ge off, 3)) (tgt : Nat) (ht : (pc : Int) + off = (tgt : Int)) (k1 : y ≤ x → V G S ov l p e s mt args below meth c nL fr A ad0 N0 Nf Rz N R tgt L st m t) (k2 : ¬ y ≤ x → V G S ov l p e s mt args below meth c nL fr A ad0 N0 Nf Rz N R (pc + 3) L st m t2) : V G S ov l p e s mt args below meth c nL fr A ad0 N0 Nf Rz N R pc L (.int y :: .int x :: st) m (if y ≤ x then t else t2) := by
  by_cases hc : y ≤ x
  · rw [if_pos hc]
    exact V.step (fun ad H locs ls Rm cells slots Q hP hS hL kk => lv_icmp_ge C.1 C.2.1 hd ht (fun _ => kk) (fun g => absurd hc g)) (k1 hc)
  · rw [if_neg hc]
    exact V.step (fun ad H locs ls Rm cells slots Q hP hS hL kk => lv_icmp_ge C.1 C.2.1 hd ht (fun g => absurd g hc) (fun _ => kk)) (k2 hc)
theorem V.icmp_gt (C : Cx G p s mt args meth c own cc nL ret nm A) {x y : Int32} {off : Int} {t2 : Option (α × Mem)} (hd : decode cc pc = .ok (.if_icmp .gt off, 3)) (tgt : Nat) (ht : (pc : Int) + off = (tgt : Int)) (k1 : y < x → V G S ov l p e s mt args below meth c nL fr A ad0 N0 Nf Rz N R tgt L st m t) (k2 : ¬ y < x → V G S ov l p e s mt args below meth c nL fr A ad0 N0 Nf Rz N R (pc + 3) L st m t2) : V G S ov l p e s mt args below meth c nL fr A ad0 N0 Nf Rz N R pc L (.int y :: .int x :: st) m (if y < x then t else t2) := by
  by_cases hc : y < x
  · rw [if_pos hc]
    exact V.step (fun ad H locs ls Rm cells slots Q hP hS hL kk => lv_icmp_gt C.1 C.2.1 hd ht (fun _ => kk) (fun g => absurd hc g)) (k1 hc)
  · rw [if_neg hc]
    exact V.step (fun ad H locs ls Rm cells slots Q hP hS hL kk => lv_icmp_gt C.1 C.2.1 hd ht (fun g => absurd g hc) (fun _ => kk)) (k2 hc)
theorem V.icmp_le (C : Cx G p s mt args meth c own cc nL ret nm A) {x y : Int32} {off : Int} {t2 : Option (α × Mem)} (hd : decode cc pc = .ok (.if_icmp .le off, 3)) (tgt : Nat) (ht : (pc : Int) + off = (tgt : Int)) (k1 : x ≤ y → V G S ov l p e s mt args below meth c nL fr A ad0 N0 Nf Rz N R tgt L st m t) (k2 : ¬ x ≤ y → V G S ov l p e s mt args below meth c nL fr A ad0 N0 Nf Rz N R (pc + 3) L st m t2) : V G S ov l p e s mt args below meth c nL fr A ad0 N0 Nf Rz N R pc L (.int y :: .int x :: st) m (if x ≤ y then t else t2) := by
  by_cases hc : x ≤ y
  · rw [if_pos hc]
    exact V.step (fun ad H locs ls Rm cells slots Q hP hS hL kk => lv_icmp_le C.1 C.2.1 hd ht (fun _ => kk) (fun g => absurd hc g)) (k1 hc)
  · rw [if_neg hc]
    exact V.step (fun ad H locs ls Rm cells slots Q hP hS hL kk => lv_icmp_le C.1 C.2.1 hd ht (fun g => absurd g hc) (fun _ => kk)) (k2 hc)
theorem V.ifnonnullR (C : Cx G p s mt args meth c own cc nL ret nm A) {a : Nat} {off : Int} (hd : decode cc pc = .ok (.ifnonnull off, 3)) (tgt : Nat) (ht : (pc : Int) + off = (tgt : Int)) (k : V G S ov l p e s mt args below meth c nL fr A ad0 N0 Nf Rz N R tgt L (st) m t) : V G S ov l p e s mt args below meth c nL fr A ad0 N0 Nf Rz N R pc L (.ref a :: st) m t :=
  V.step (fun ad H locs ls Rm cells slots Q hP hS hL kk => lv_ifnonnull C.1 C.2.1 hd ht kk) k
theorem V.ifnonnullN (C : Cx G p s mt args meth c own cc nL ret nm A) {off : Int} (hd : decode cc pc = .ok (.ifnonnull off, 3))  (k : V G S ov l p e s mt args below meth c nL fr A ad0 N0 Nf Rz N R (pc + 3) L (st) m t) : V G S ov l p e s mt args below meth c nL fr A ad0 N0 Nf Rz N R pc L (.null :: st) m t :=
  V.step (fun ad H locs ls Rm cells slots Q hP hS hL kk => lv_ifnonnullN C.1 C.2.1 hd kk) k
theorem V.tin (C : Cx G p s mt args meth c own cc nL ret nm A) {dflt lo hi off : Int} {offs : Array Int} {len tgt : Nat} {x j : Int32} (hd : decode cc pc = .ok (.tableswitch dflt lo hi offs, len)) (hx : x = j) (h1 : ¬ j.toInt < lo) (h2 : ¬ hi < j.toInt) (ho : offs[(j.toInt - lo).toNat]? = some off) (ht : (pc : Int) + off = (tgt : Int)) (k : V G S ov l p e s mt args below meth c nL fr A ad0 N0 Nf Rz N R tgt L st m t) : V G S ov l p e s mt args below meth c nL fr A ad0 N0 Nf Rz N R pc L (.int x :: st) m t := by
  subst hx
  exact V.step (fun ad H locs ls Rm cells slots Q hP hS hL kk => lv_tableIn C.1 C.2.1 hd h1 h2 ho ht kk) k
theorem V.tout (C : Cx G p s mt args meth c own cc nL ret nm A) {dflt lo hi : Int} {offs : Array Int} {len tgt : Nat} {x : Int32} (hd : decode cc pc = .ok (.tableswitch dflt lo hi offs, len)) (h : x.toInt < lo ∨ hi < x.toInt) (ht : (pc : Int) + dflt = (tgt : Int)) (k : V G S ov l p e s mt args below meth c nL fr A ad0 N0 Nf Rz N R tgt L st m t) : V G S ov l p e s mt args below meth c nL fr A ad0 N0 Nf Rz N R pc L (.int x :: st) m t :=
  V.step (fun ad H locs ls Rm cells slots Q hP hS hL kk => lv_tableOut C.1 C.2.1 hd h ht kk) k
theorem V.lin (C : Cx G p s mt args meth c own cc nL ret nm A) {dflt off : Int} {ps : Array (Int × Int)} {len tgt : Nat} {x : Int32} (hd : decode cc pc = .ok (.lookupswitch dflt ps, len)) (hp : (ps.toList.zip (ps.toList.drop 1)).all (fun (a, next) => a.1 < next.1) = true) (ho : Op.lookupswitch.offset ps.toList dflt x.toInt = off) (ht : (pc : Int) + off = (tgt : Int)) (k : V G S ov l p e s mt args below meth c nL fr A ad0 N0 Nf Rz N R tgt L st m t) : V G S ov l p e s mt args below meth c nL fr A ad0 N0 Nf Rz N R pc L (.int x :: st) m t :=
  V.step (fun ad H locs ls Rm cells slots Q hP hS hL kk => lv_lookup C.1 C.2.1 hd hp ho ht kk) k
end VR
