def R_law : String := "LoatheMatchLaw"
def lw_P (b : Addr) (xs : List Int32) (args : Array Value) (s : State) : Prop := args = #[.ref b] ∧ s.IntsAt b xs ∧ xs.length ≤ 3072 ∧ (Jvm.Cond.and given_1 narrow_1).before args s = true
def lw_Q (_ : Array Value) (s : State) (o : Outcome) (t : State) : Prop := o = .returned (some (.int 1)) ∧ Framed s o t [] 600000 7302250
def lw_Z (below : List Frame) (a : Array Value) (s : State) : State → Prop := fun t => ∃ o, t.status = .running ∧ Ended t below o ∧ lw_Q a s o t
/-- the law's own end, with 1 on the stack, nothing written that was there before, its room as the claim has it -/
theorem lw_ret {p : Program} {l : Launch} {e : Env} {s : State} {m : MethodId} {below : List Frame} {meth : Method} {c : Code} {b : Nat} (hx : p.tables.exec = Jvm.exec) (hb : c.code = code) (hr : meth.sig.returnType = ret) (hlocks : meth.locks = false) {pc : Nat} {H : Heap} {ls : Array Slot} (hdg : decode code pc = .ok (.ireturn, 1)) : W p l e room_1 s m #[Value.ref b] below meth c H [] 600000 7302250 (lw_Z below #[Value.ref b] s) (F0 m pc ls [.int 1]) := by
  intro T hT X
  obtain ⟨fs, hret, hrun, hended, hW, hframe⟩ := X.leave (v := some (.int 1)) (hlocks := hlocks) (fun h => by rw [hr] at h; cases h)
  have hmeth' : T.vm.method? m = some meth := X.method'
  refine ⟨T.setFrames fs, ?_, .returned (some (.int 1)), hrun, hended, rfl, ⟨_, rfl⟩, hW, hframe⟩
  jvm_step X.here [X.here.top, hx, hb, hdg, hmeth', hr, ret, narrow_b1]
  (try refine ⟨rfl, ?_⟩); (try refine ⟨rfl, ?_⟩)
  first | (intro acts; rw [hret _ acts rfl rfl rfl]) | rw [hret _ _ rfl rfl rfl]
  exact Steps.refl _
/-- what holds at the law's entry: the machine, the code, the tables' words (any of lw_tbl by 'hts w (by decide +kernel)'), the script of L ints xs at the cell b, what the Statement gives of the start (any of its parts by flat_of_before) -/
def lw_At (p : Program) (s : State) (m : MethodId) (meth : Method) (c : Code) (b L : Nat) (xs : Nat → Int32) : Prop :=
  p.tables.exec = Jvm.exec ∧ c.code = code ∧ meth.sig.returnType = ret ∧ c.maxLocals = 4 ∧ s.vm.findClass R_law = some m.cls ∧ (∀ w ∈ lw_tbl, w.before #[Value.ref b] s = true) ∧ va_X b L xs s s.heap ∧ b < s.heap.size ∧ meth.locks = false ∧ (Jvm.Cond.and given_1 narrow_1).before #[Value.ref b] s = true
abbrev Alw (s : State) : Nat → Prop := fun q => s.heap.size ≤ q
def mu (b : Nat) (adx adm : Nat → Nat) (v : Value) : Value := match v with
  | .retAddr 0 => .ref b
  | .retAddr 1 => .ref (adx 0)
  | .retAddr _ => .ref (adm 0)
  | x => x
theorem mu_cat (b : Nat) (adx adm : Nat → Nat) (v : Value) : (mu b adx adm v).category = v.category := by
  cases v with
  | retAddr k =>
    match k with
    | 0 => rfl
    | 1 => rfl
    | k + 2 => rfl
  | _ => rfl
def TW (G : Gt) (s : State) (N : Nat) (mx mm : Mem) (adx adm : Nat → Nat) (H : Heap) : Prop := va_P G.1 vwCl (wl G SX adx N RX mx) H ∧ va_P G.1 vwCl (wl G SM adm 17 RM mm) H ∧ va_D (Alw s) (wl G SX adx N RX mx) ∧ va_D (Alw s) (wl G SM adm 17 RM mm) ∧ ∀ i, i < N → ∀ j, j < 17 → adx i ≠ adm j
def CU (G : Gt) (p : Program) (s : State) (mt : MethodId) (meth : Method) (c : Code) (b Ln : Nat) (xs : Nat → Int32) : Prop :=
  p.tables.exec = Jvm.exec ∧ c.code = code ∧ meth.sig.returnType = ret ∧ c.maxLocals = 4 ∧ s.vm.findClass RL = some mt.cls ∧ (∀ w ∈ gtb, w.before #[Value.ref b] s = true) ∧ va_X b Ln xs s s.heap ∧ b < s.heap.size ∧ meth.locks = false ∧ va_K G.1 vwCl (tyl G) s ∧ STR G (Alw s) s s.heap
def Lu (b : Nat) (adx adm : Nat → Nat) (ls : Array Slot) (L : List (Nat × Value)) : Prop := lv_has ls 4 (L.map (fun q => (q.1, mu b adx adm q.2)))
def U (G : Gt) (l : Launch) (p : Program) (e : Env) (s : State) (mt : MethodId) (b : Nat) (below : List Frame) (meth : Method) (c : Code) (N : Nat) (pc : Nat) (L : List (Nat × Value)) (st : List Value) (mx mm : Mem) : Prop :=
  ∀ (adx adm : Nat → Nat) (H : Heap) (locs : List Loc) (ls : Array Slot) (cells slots : Nat), TW G s N mx mm adx adm H → va_S (Alw s) s.heap H locs → Lu b adx adm ls L → cells ≤ 1000 + N → slots ≤ 100000 + 10000 * N → W p l e room_1 s mt #[Value.ref b] below meth c H locs cells slots (lw_Z below #[Value.ref b] s) (F0 mt pc ls (st.map (mu b adx adm)))
theorem lu_at {b : Nat} {adx adm : Nat → Nat} {ls : Array Slot} {L : List (Nat × Value)} (h : Lu b adx adm ls L) (k : Nat) {i : Nat} {v : Value} (hk : L[k]? = some (i, v)) : ls[i]? = some (.val (mu b adx adm v)) := lv_at h k (by rw [List.getElem?_map, hk]; rfl)
theorem stU_map {b : Nat} {adx adm : Nat → Nat} {L L2 : List (Nat × Value)} {i : Nat} {v : Value} (h : stI L i v = L2) : (i, mu b adx adm v) :: (L.map (fun q => (q.1, mu b adx adm q.2))).filter (fun q => !(q.1 == i) && !(q.1 + 1 == i && q.2.category == 2)) = L2.map (fun q => (q.1, mu b adx adm q.2)) := by
  rw [← h]
  simp only [stI, List.map_cons, List.filter_map]
  congr 2
  apply List.filter_congr
  intro q _
  simp [mu_cat]
section UR
variable {G : Gt} {l : Launch} {p : Program} {e : Env} {s : State} {mt : MethodId} {b : Nat} {below : List Frame} {meth : Method} {c : Code} {Ln : Nat} {xs : Nat → Int32} {N : Nat} {pc : Nat} {L : List (Nat × Value)} {st : List Value} {mx mm : Mem}
theorem U.step {pc2 : Nat} {st2 : List Value} (hw : ∀ (adx adm : Nat → Nat) (H : Heap) (locs : List Loc) (ls : Array Slot) (Rm : Room) (cells slots : Nat) (Q : State → Prop), va_S (Alw s) s.heap H locs → Lu b adx adm ls L → W p l e Rm s mt #[Value.ref b] below meth c H locs cells slots Q (F0 mt pc2 ls (st2.map (mu b adx adm))) → W p l e Rm s mt #[Value.ref b] below meth c H locs cells slots Q (F0 mt pc ls (st.map (mu b adx adm)))) (k : U G l p e s mt b below meth c N pc2 L st2 mx mm) : U G l p e s mt b below meth c N pc L st mx mm :=
  fun adx adm H locs ls cells slots h1 h2 h3 h4 h5 => hw adx adm H locs ls _ cells slots _ h2 h3 (k adx adm H locs ls cells slots h1 h2 h3 h4 h5)
theorem U.stepL {pc2 : Nat} {L2 : List (Nat × Value)} {st2 : List Value} (hw : ∀ (adx adm : Nat → Nat) (H : Heap) (locs : List Loc) (ls : Array Slot) (Rm : Room) (cells slots : Nat) (Q : State → Prop), Lu b adx adm ls L → (∀ ls1, Lu b adx adm ls1 L2 → W p l e Rm s mt #[Value.ref b] below meth c H locs cells slots Q (F0 mt pc2 ls1 (st2.map (mu b adx adm)))) → W p l e Rm s mt #[Value.ref b] below meth c H locs cells slots Q (F0 mt pc ls (st.map (mu b adx adm)))) (k : U G l p e s mt b below meth c N pc2 L2 st2 mx mm) : U G l p e s mt b below meth c N pc L st mx mm :=
  fun adx adm H locs ls cells slots h1 h2 h3 h4 h5 => hw adx adm H locs ls _ cells slots _ h3 (fun ls1 g3 => k adx adm H locs ls1 cells slots h1 h2 g3 h4 h5)
theorem U.wk {L2 : List (Nat × Value)} (ks : List Nat) (hl : lv_pick L ks = L2) (k : U G l p e s mt b below meth c N pc L2 st mx mm) : U G l p e s mt b below meth c N pc L st mx mm :=
  U.stepL (fun adx adm H locs ls Rm cells slots Q h3 kk => kk ls (lv_sub h3 ks (by rw [← hl]; simp [lv_pick, List.map_filterMap]))) k
theorem U.iconst (C : CU G p s mt meth c b Ln xs) {n : Int} {v : Int32} (hd : decode code pc = .ok (.iconst n, 1)) (hv : Int32.ofInt n = v) (k : U G l p e s mt b below meth c N (pc + 1) L (.int v :: st) mx mm) : U G l p e s mt b below meth c N pc L (st) mx mm :=
  U.step (fun adx adm H locs ls Rm cells slots Q hS hL kk => lv_iconst C.1 C.2.1 hd hv kk) k
theorem U.bipush (C : CU G p s mt meth c b Ln xs) {n : Int} {v : Int32} (hd : decode code pc = .ok (.bipush n, 2)) (hv : (Int8.ofInt n).toInt32 = v) (k : U G l p e s mt b below meth c N (pc + 2) L (.int v :: st) mx mm) : U G l p e s mt b below meth c N pc L (st) mx mm :=
  U.step (fun adx adm H locs ls Rm cells slots Q hS hL kk => lv_bipush C.1 C.2.1 hd hv kk) k
theorem U.ldc2 (C : CU G p s mt meth c b Ln xs) {i : Nat} {v : Int64} (hd : decode code pc = .ok (.ldc2_w i, 3)) (hc : Jvm.Cond.constantLong RL i v ∈ gtb) (k : U G l p e s mt b below meth c N (pc + 3) L (.long v :: st) mx mm) : U G l p e s mt b below meth c N pc L (st) mx mm :=
  U.step (fun adx adm H locs ls Rm cells slots Q hS hL kk => lv_ldc2 C.1 C.2.1 C.2.2.2.2.1 (C.2.2.2.2.2.1 _ hc) hd kk) k
theorem U.iload_n (C : CU G p s mt meth c b Ln xs) {k0 : Fin 4} {x : Int32} (hd : decode code pc = .ok (.iload_n k0, 1)) (i : Nat) (hx : L[i]? = some ((k0 : Nat), .int x)) (k : U G l p e s mt b below meth c N (pc + 1) L (.int x :: st) mx mm) : U G l p e s mt b below meth c N pc L (st) mx mm :=
  U.step (fun adx adm H locs ls Rm cells slots Q hS hL kk => lv_iload_n C.1 C.2.1 hd rfl (lu_at hL i hx) kk) k
theorem U.aload0 (C : CU G p s mt meth c b Ln xs) {k0 : Fin 4} (hd : decode code pc = .ok (.aload_n k0, 1)) (i : Nat) (hx : L[i]? = some ((k0 : Nat), .retAddr 0)) (k : U G l p e s mt b below meth c N (pc + 1) L (.retAddr 0 :: st) mx mm) : U G l p e s mt b below meth c N pc L (st) mx mm :=
  U.step (fun adx adm H locs ls Rm cells slots Q hS hL kk => lv_aload_n C.1 C.2.1 hd rfl (lu_at hL i hx) kk) k
theorem U.aload1 (C : CU G p s mt meth c b Ln xs) {k0 : Fin 4} (hd : decode code pc = .ok (.aload_n k0, 1)) (i : Nat) (hx : L[i]? = some ((k0 : Nat), .retAddr 1)) (k : U G l p e s mt b below meth c N (pc + 1) L (.retAddr 1 :: st) mx mm) : U G l p e s mt b below meth c N pc L (st) mx mm :=
  U.step (fun adx adm H locs ls Rm cells slots Q hS hL kk => lv_aload_n C.1 C.2.1 hd rfl (lu_at hL i hx) kk) k
theorem U.aload2 (C : CU G p s mt meth c b Ln xs) {k0 : Fin 4} (hd : decode code pc = .ok (.aload_n k0, 1)) (i : Nat) (hx : L[i]? = some ((k0 : Nat), .retAddr 2)) (k : U G l p e s mt b below meth c N (pc + 1) L (.retAddr 2 :: st) mx mm) : U G l p e s mt b below meth c N pc L (st) mx mm :=
  U.step (fun adx adm H locs ls Rm cells slots Q hS hL kk => lv_aload_n C.1 C.2.1 hd rfl (lu_at hL i hx) kk) k
theorem U.iadd (C : CU G p s mt meth c b Ln xs) {x y : Int32} (hd : decode code pc = .ok (.iadd, 1))  (k : U G l p e s mt b below meth c N (pc + 1) L (.int (x + y) :: st) mx mm) : U G l p e s mt b below meth c N pc L (.int y :: .int x :: st) mx mm :=
  U.step (fun adx adm H locs ls Rm cells slots Q hS hL kk => lv_iadd C.1 C.2.1 hd kk) k
theorem U.isub (C : CU G p s mt meth c b Ln xs) {x y : Int32} (hd : decode code pc = .ok (.isub, 1))  (k : U G l p e s mt b below meth c N (pc + 1) L (.int (x - y) :: st) mx mm) : U G l p e s mt b below meth c N pc L (.int y :: .int x :: st) mx mm :=
  U.step (fun adx adm H locs ls Rm cells slots Q hS hL kk => lv_isub C.1 C.2.1 hd kk) k
theorem U.iand (C : CU G p s mt meth c b Ln xs) {x y : Int32} (hd : decode code pc = .ok (.iand, 1))  (k : U G l p e s mt b below meth c N (pc + 1) L (.int (x &&& y) :: st) mx mm) : U G l p e s mt b below meth c N pc L (.int y :: .int x :: st) mx mm :=
  U.step (fun adx adm H locs ls Rm cells slots Q hS hL kk => lv_iand C.1 C.2.1 hd kk) k
theorem U.land (C : CU G p s mt meth c b Ln xs) {x y : Int64} (hd : decode code pc = .ok (.land, 1))  (k : U G l p e s mt b below meth c N (pc + 1) L (.long (x &&& y) :: st) mx mm) : U G l p e s mt b below meth c N pc L (.long y :: .long x :: st) mx mm :=
  U.step (fun adx adm H locs ls Rm cells slots Q hS hL kk => lv_land C.1 C.2.1 hd kk) k
theorem U.lor (C : CU G p s mt meth c b Ln xs) {x y : Int64} (hd : decode code pc = .ok (.lor, 1))  (k : U G l p e s mt b below meth c N (pc + 1) L (.long (x ||| y) :: st) mx mm) : U G l p e s mt b below meth c N pc L (.long y :: .long x :: st) mx mm :=
  U.step (fun adx adm H locs ls Rm cells slots Q hS hL kk => lv_lor C.1 C.2.1 hd kk) k
theorem U.lshl (C : CU G p s mt meth c b Ln xs) {x : Int64} {y : Int32} (hd : decode code pc = .ok (.lshl, 1))  (k : U G l p e s mt b below meth c N (pc + 1) L (.long (x <<< (y.toInt64 &&& 63)) :: st) mx mm) : U G l p e s mt b below meth c N pc L (.int y :: .long x :: st) mx mm :=
  U.step (fun adx adm H locs ls Rm cells slots Q hS hL kk => lv_lshl C.1 C.2.1 hd rfl kk) k
theorem U.i2l (C : CU G p s mt meth c b Ln xs) {x : Int32} (hd : decode code pc = .ok (.i2l, 1))  (k : U G l p e s mt b below meth c N (pc + 1) L (.long x.toInt64 :: st) mx mm) : U G l p e s mt b below meth c N pc L (.int x :: st) mx mm :=
  U.step (fun adx adm H locs ls Rm cells slots Q hS hL kk => lv_i2l C.1 C.2.1 hd rfl kk) k
theorem U.lcmp (C : CU G p s mt meth c b Ln xs) {x y : Int64} (hd : decode code pc = .ok (.lcmp, 1))  (k : U G l p e s mt b below meth c N (pc + 1) L (.int (lg_cmp x y) :: st) mx mm) : U G l p e s mt b below meth c N pc L (.long y :: .long x :: st) mx mm :=
  U.step (fun adx adm H locs ls Rm cells slots Q hS hL kk => W.lcmp C.1 C.2.1 hd kk) k
theorem U.goto (C : CU G p s mt meth c b Ln xs) {off : Int} (hd : decode code pc = .ok (.goto off, 3)) (tgt : Nat) (ht : (pc : Int) + off = (tgt : Int)) (k : U G l p e s mt b below meth c N tgt L (st) mx mm) : U G l p e s mt b below meth c N pc L (st) mx mm :=
  U.step (fun adx adm H locs ls Rm cells slots Q hS hL kk => lv_goto C.1 C.2.1 hd ht kk) k
theorem U.sld (C : CU G p s mt meth c b Ln xs) {i : Int32} (hd : decode code pc = .ok (.iaload, 1)) (hi : vp_in i Ln) (k : U G l p e s mt b below meth c N (pc + 1) L (.int (xs i.toNatClampNeg) :: st) mx mm) : U G l p e s mt b below meth c N pc L (.int i :: .retAddr 0 :: st) mx mm :=
  U.step (fun adx adm H locs ls Rm cells slots Q hS hL kk => va_sld C.1 C.2.1 C.2.2.2.2.2.2.1 C.2.2.2.2.2.2.2.1 (Nat.not_le.mpr C.2.2.2.2.2.2.2.1) hS hi hd kk) k
theorem U.slen (C : CU G p s mt meth c b Ln xs)  (hd : decode code pc = .ok (.arraylength, 1))  (k : U G l p e s mt b below meth c N (pc + 1) L (.int (nI Ln) :: st) mx mm) : U G l p e s mt b below meth c N pc L (.retAddr 0 :: st) mx mm :=
  U.step (fun adx adm H locs ls Rm cells slots Q hS hL kk => va_slen C.1 C.2.1 C.2.2.2.2.2.2.1 C.2.2.2.2.2.2.2.1 (Nat.not_le.mpr C.2.2.2.2.2.2.2.1) hS hd kk) k
theorem U.igtT (C : CU G p s mt meth c b Ln xs) {x y : Int32} {off : Int} (hd : decode code pc = .ok (.if_icmp .gt off, 3)) (tgt : Nat) (ht : (pc : Int) + off = (tgt : Int)) (hc : y < x) (k : U G l p e s mt b below meth c N tgt L (st) mx mm) : U G l p e s mt b below meth c N pc L (.int y :: .int x :: st) mx mm :=
  U.step (fun adx adm H locs ls Rm cells slots Q hS hL kk => lv_icmp_gt C.1 C.2.1 hd ht (fun _ => kk) (fun g => absurd hc g)) k
theorem U.igtF (C : CU G p s mt meth c b Ln xs) {x y : Int32} {off : Int} (hd : decode code pc = .ok (.if_icmp .gt off, 3)) (tgt : Nat) (ht : (pc : Int) + off = (tgt : Int)) (hc : ¬ y < x) (k : U G l p e s mt b below meth c N (pc + 3) L (st) mx mm) : U G l p e s mt b below meth c N pc L (.int y :: .int x :: st) mx mm :=
  U.step (fun adx adm H locs ls Rm cells slots Q hS hL kk => lv_icmp_gt C.1 C.2.1 hd ht (fun g => absurd g hc) (fun _ => kk)) k
theorem U.ieqT (C : CU G p s mt meth c b Ln xs) {x y : Int32} {off : Int} (hd : decode code pc = .ok (.if_icmp .eq off, 3)) (tgt : Nat) (ht : (pc : Int) + off = (tgt : Int)) (hc : x = y) (k : U G l p e s mt b below meth c N tgt L (st) mx mm) : U G l p e s mt b below meth c N pc L (.int y :: .int x :: st) mx mm :=
  U.step (fun adx adm H locs ls Rm cells slots Q hS hL kk => lv_icmp_eq C.1 C.2.1 hd ht (fun _ => kk) (fun g => absurd hc g)) k
theorem U.ineF (C : CU G p s mt meth c b Ln xs) {x y : Int32} {off : Int} (hd : decode code pc = .ok (.if_icmp .ne off, 3)) (tgt : Nat) (ht : (pc : Int) + off = (tgt : Int)) (hc : x = y) (k : U G l p e s mt b below meth c N (pc + 3) L (st) mx mm) : U G l p e s mt b below meth c N pc L (.int y :: .int x :: st) mx mm :=
  U.step (fun adx adm H locs ls Rm cells slots Q hS hL kk => lv_icmp_ne C.1 C.2.1 hd ht (fun g => absurd hc g) (fun _ => kk)) k
theorem U.ifeqT (C : CU G p s mt meth c b Ln xs) {x : Int32} {off : Int} (hd : decode code pc = .ok (.ifCond .eq off, 3)) (tgt : Nat) (ht : (pc : Int) + off = (tgt : Int)) (hc : x = 0) (k : U G l p e s mt b below meth c N tgt L (st) mx mm) : U G l p e s mt b below meth c N pc L (.int x :: st) mx mm :=
  U.step (fun adx adm H locs ls Rm cells slots Q hS hL kk => lv_if_eq C.1 C.2.1 hd ht (fun _ => kk) (fun g => absurd hc g)) k
theorem U.tin (C : CU G p s mt meth c b Ln xs) {dflt lo hi off : Int} {offs : Array Int} {len tgt : Nat} {x j : Int32} (hd : decode code pc = .ok (.tableswitch dflt lo hi offs, len)) (hx : x = j) (h1 : ¬ j.toInt < lo) (h2 : ¬ hi < j.toInt) (ho : offs[(j.toInt - lo).toNat]? = some off) (ht : (pc : Int) + off = (tgt : Int)) (k : U G l p e s mt b below meth c N tgt L (st) mx mm) : U G l p e s mt b below meth c N pc L (.int x :: st) mx mm :=
  U.step (fun adx adm H locs ls Rm cells slots Q hS hL kk => by subst hx; exact lv_tableIn C.1 C.2.1 hd h1 h2 ho ht kk) k
theorem U.tout (C : CU G p s mt meth c b Ln xs) {dflt lo hi : Int} {offs : Array Int} {len tgt : Nat} {x : Int32} (hd : decode code pc = .ok (.tableswitch dflt lo hi offs, len)) (h : x.toInt < lo ∨ hi < x.toInt) (ht : (pc : Int) + dflt = (tgt : Int)) (k : U G l p e s mt b below meth c N tgt L (st) mx mm) : U G l p e s mt b below meth c N pc L (.int x :: st) mx mm :=
  U.step (fun adx adm H locs ls Rm cells slots Q hS hL kk => lv_tableOut C.1 C.2.1 hd h ht kk) k
theorem U.istore_n (C : CU G p s mt meth c b Ln xs) {k0 : Fin 4} {x : Int32} {L2 : List (Nat × Value)} (hd : decode code pc = .ok (.istore_n k0, 1)) (hn : (k0 : Nat) < 4) (hl : stI L (k0 : Nat) (.int x) = L2) (k : U G l p e s mt b below meth c N (pc + 1) L2 st mx mm) : U G l p e s mt b below meth c N pc L (.int x :: st) mx mm :=
  U.stepL (fun adx adm H locs ls Rm cells slots Q h5 kk => lv_istore_n C.1 C.2.1 hd rfl h5 hn (stU_map (v := .int x) hl) (fun ls1 g5 => kk ls1 g5)) k
theorem U.iinc (C : CU G p s mt meth c b Ln xs) {i : Nat} {n : Int} {x v : Int32} {L2 : List (Nat × Value)} (hd : decode code pc = .ok (.iinc i n, 3)) (j : Nat) (hj : L[j]? = some (i, .int x)) (hv : Int32.ofInt n = v) (hn : i < 4) (hl : stI L i (.int (x + v)) = L2) (k : U G l p e s mt b below meth c N (pc + 3) L2 st mx mm) : U G l p e s mt b below meth c N pc L st mx mm :=
  U.stepL (fun adx adm H locs ls Rm cells slots Q h5 kk => lv_iinc C.1 C.2.1 hd h5 (k := j) (x := x) (by rw [List.getElem?_map, hj]; rfl) (show x + Int32.ofInt n = x + v by rw [hv]) hn (stU_map (v := .int (x + v)) hl) (fun ls1 g5 => kk ls1 g5)) k
theorem U.ret1 (C : CU G p s mt meth c b Ln xs) (hN : N ≤ 200) (hd : decode code pc = .ok (.ireturn, 1)) : U G l p e s mt b below meth c N pc L [.int 1] mx mm :=
  fun adx adm H locs ls cells slots h1 h2 h3 h4 h5 => va_forget h2.2.2 (W.widen (k := 600000) (n := 7302250) (by omega) (by omega) (lw_ret C.1 C.2.1 C.2.2.1 C.2.2.2.2.2.2.2.2.1 hd))
theorem cat_mu (b : Nat) (adx adm : Nat → Nat) (st : List Value) (h : (st.map Value.category).sum ≤ 8) : ((st.map (mu b adx adm)).map fun v => v.category).sum ≤ 8 := by
  have e1 : (List.map (fun v => Value.category v) (st.map (mu b adx adm))).sum = (st.map Value.category).sum := by
    rw [List.map_map]
    congr 1
    apply List.map_congr_left
    intro v _
    exact mu_cat b adx adm v
  rw [e1]
  exact h
def intsOnly (As : List Value) : Prop := ∀ (G : Gt) (ad : Nat → Nat) (b : Nat) (adx adm : Nat → Nat), As.map (mv G ad) = As ∧ As.map (mu b adx adm) = As
theorem wb_u (C : CU G p s mt meth c b Ln xs) {S : Nat → Sh} {R : Rf} {m : Mem} {N : Nat} {ad : Nat → Nat} {H : Heap} {locs : List Loc} (hP : va_P G.1 vwCl (wl G S ad N R m) H) (hD : va_D (Alw s) (wl G S ad N R m)) (hS : va_S (Alw s) s.heap H locs) (U1 : State) (hU : U1.heap = H) (hW : s.WarmedH U1.vm) : WB G S ad N R m H.size U1 := by
  refine ⟨by rw [hU], by rw [hU]; exact hP, va_K.moved hW.alike C.2.2.2.2.2.2.2.2.2.1, hD.weaken (fun _ _ _ _ => trivial), ?_⟩
  rw [hU]
  refine STR.warm hW ((STR.kept C.2.2.2.2.2.2.2.2.2.2 hS.2.1).narrow (fun q h => ?_))
  rcases h with ⟨k, h1, rfl⟩ | h
  · exact hD.2 k _ (wl_get h1 rfl)
  · exact Nat.le_trans hS.1 h
theorem U.callX (C : CU G p s mt meth c b Ln xs) {β : Type} {ob : β → Option Value} {f : Option (β × Mem)} {y : MethodName} {cc1 : ByteArray} {nL1 fr1 n idx : Nat} {ret1 : Option FieldType} {As : List Value} {st0 : List Value} {N1 : Nat} {r : β} {mx1 : Mem} (hc : Ct l y cc1 nL1 ret1 fr1 SX ob N N1 RX RX (.ref 0 :: As) mx f) (hf : f = some (r, mx1)) (hob : ∀ (adx adm : Nat → Nat), (ob r).toList.map (mu b adx adm) = (ob r).toList) (hAs : intsOnly As) (ck : CkV y cc1 nL1 ret1 n) (hl : Cond.methodLink RL idx y ∈ gtb) (hy : y.cls = RX11) (h0 : 0 < N) (hNN : N ≤ N1) (hN1 : N1 ≤ 200) (hz : szs SX N1 - szs SX N ≤ 10000 * (N1 - N)) (hn : As.length = n) (hst0 : As.reverse ++ .retAddr 1 :: st = st0) (hst : (st.map Value.category).sum ≤ 8) (hfr : fr1 + 1 ≤ 2048 ∧ nL1 ≤ 21) (hd : decode code pc = .ok (.invokevirtual idx, 3)) (k : U G l p e s mt b below meth c N1 (pc + 3) L ((ob r).toList ++ st) mx1 mm) : U G l p e s mt b below meth c N pc L st0 mx mm := by
  subst hst0
  intro adx adm H locs ls cells slots h1 h2 h3 h4 h5
  obtain ⟨hPx, hPm, hDx, hDm, hdis⟩ := h1
  have hM := hc G adx H.size r mx1 hf
  have hrun : va_Run p l e room_1 s mt #[Value.ref b] below meth c H locs cells slots (N1 - N) (szs SX N1 - szs SX N) (F0 mt pc ls ((As.reverse ++ .retAddr 1 :: st).map (mu b adx adm))) (st.map (mu b adx adm)) (Qx ob G SX adx N N1 RX (AS adx N H.size) r mx1 _) (AS adx N H.size) :=
    va_runV (cc := code) (nL := 4) (Ts := gtb) (own := RL) (C := y.cls) (b := adx 0) (As := As) (index := idx) (bytes := cc1) (maxL := nL1) (ret := ret1) (n := n) ⟨C.1, C.2.1, C.2.2.2.1, C.2.2.2.2.1, C.2.2.2.2.2.1⟩ hM
      ⟨callB_of n C.2.2.2.2.2.1 (ws_good ck.1.2.1) rfl rfl rfl (C.2.2.2.2.2.1 _ ck.1.1) (C.2.2.2.2.2.1 _ hl) ck.1.2.2 ⟨hfr.1, by show 8 + (nL1 + 11) + 40 * fr1 ≤ 84000; omega⟩, C.2.2.2.2.2.1 _ ck.2.1, C.2.2.2.2.2.1 _ ck.2.2⟩
      ⟨wb_blind G SX adx N RX mx H.size _, by rw [hy]; exact va_recv C.2.2.2.2.2.2.2.2.2.1 hPx (ci := 11) rfl (wl_get h0 sX0), fun U1 hU hW => ⟨by rw [List.map_cons, (hAs G adx b adx adm).1]; rfl, wb_u C hPx hDx h2 U1 hU hW⟩⟩ rfl hn h3.1 (by rw [List.map_append, List.map_reverse, List.map_cons, (hAs G adx b adx adm).2]; rfl) (lv_room (cat_mu b adx adm st hst)) hd ⟨show cells + (N1 - N) ≤ 600000 by omega, show slots + (szs SX N1 - szs SX N) ≤ 7302250 by omega⟩
  intro T hT X
  obtain ⟨v, st₀, u, T', Lc, g0, X', gL, e1, e2, ⟨⟨hv, ad2, had, hP2, hD2⟩, hz1, hk⟩, hsteps⟩ := hrun T hT X
  cases hv
  rw [g0] at hz1 hk
  have hA : ∀ q, AS adx N H.size q → Alw s q := fun q h => by
    rcases h with ⟨k, h1, rfl⟩ | h
    · exact hDx.2 k _ (wl_get h1 rfl)
    · exact Nat.le_trans h2.1 h
  have hS2 : va_S (Alw s) s.heap T'.heap (locs ++ Lc) := ⟨Nat.le_trans h2.1 (by rw [e1]; exact hz1), fun q h1 h3 => by rw [e1, hk q (Nat.lt_of_lt_of_le h1 h2.1) (fun z => h3 (hA q z))]; exact h2.2.1 q h1 h3, fun q hq => by
    rcases List.mem_append.mp hq with h | h
    · exact h2.2.2 q h
    · exact hA _ (gL q h)⟩
  have hlt : ∀ j, j < 17 → adm j < H.size := fun j hj => (hPm j _ (wl_get hj rfl)).lt
  have hnA : ∀ j, j < 17 → ¬ AS adx N H.size (adm j) := fun j hj h => by
    rcases h with ⟨k, h1, h⟩ | h
    · exact hdis k h1 j hj h
    · have := hlt j hj; omega
  have hPm2 : va_P G.1 vwCl (wl G SM adm 17 RM mm) T'.heap := hPm.kept (fun k q hq => by
    obtain ⟨h1, rfl⟩ := wl_of hq
    rw [e1]
    exact hk _ (hlt k h1) (hnA k h1))
  have hadx : ad2 0 = adx 0 := by
    rcases had with h | h
    · rw [h.2]
    · exact h.2 0 h0
  have hmu : ∀ v, mu b ad2 adm v = mu b adx adm v := fun v => by
    cases v with
    | retAddr k =>
      match k with
      | 0 => rfl
      | 1 => show Value.ref (ad2 0) = Value.ref (adx 0); rw [hadx]
      | k + 2 => rfl
    | _ => rfl
  have hw := k ad2 adm T'.heap (locs ++ Lc) ls (cells + (N1 - N)) (slots + (szs SX N1 - szs SX N)) ⟨by rw [e1]; exact hP2, hPm2, ⟨hD2.1, fun k q hq => hA _ (hD2.2 k q hq)⟩, hDm, fun i hi j hj h => by
    have h6 := hD2.2 i _ (wl_get hi rfl)
    have h6 : AS adx N H.size (ad2 i) := h6
    rw [h] at h6
    exact hnA j hj h6⟩ hS2 (by unfold Lu; rw [show L.map (fun q => (q.1, mu b ad2 adm q.2)) = L.map (fun q => (q.1, mu b adx adm q.2)) from List.map_congr_left (fun q _ => by rw [hmu])]; exact h3) (by omega) (by omega)
  rw [List.map_append, hob, show st.map (mu b ad2 adm) = st.map (mu b adx adm) from List.map_congr_left (fun v _ => hmu v)] at hw
  obtain ⟨t2, a1, b1⟩ := hw T' rfl X'
  exact ⟨t2, hsteps t2 a1, b1⟩
theorem U.callM (C : CU G p s mt meth c b Ln xs) {β : Type} {ob : β → Option Value} {f : Option (β × Mem)} {y : MethodName} {cc1 : ByteArray} {nL1 fr1 n idx : Nat} {ret1 : Option FieldType} {As : List Value} {st0 : List Value} {r : β} {mm1 : Mem} (hc : Ct l y cc1 nL1 ret1 fr1 SM ob 17 17 RM RM (.ref 0 :: As) mm f) (hf : f = some (r, mm1)) (hob : ∀ (adx adm : Nat → Nat), (ob r).toList.map (mu b adx adm) = (ob r).toList) (hAs : intsOnly As) (ck : CkV y cc1 nL1 ret1 n) (hl : Cond.methodLink RL idx y ∈ gtb) (hy : y.cls = RX12) (hN1 : N ≤ 200) (hn : As.length = n) (hst0 : As.reverse ++ .retAddr 2 :: st = st0) (hst : (st.map Value.category).sum ≤ 8) (hfr : fr1 + 1 ≤ 2048 ∧ nL1 ≤ 21) (hd : decode code pc = .ok (.invokevirtual idx, 3)) (k : U G l p e s mt b below meth c N (pc + 3) L ((ob r).toList ++ st) mx mm1) : U G l p e s mt b below meth c N pc L st0 mx mm := by
  subst hst0
  intro adx adm H locs ls cells slots h1 h2 h3 h4 h5
  obtain ⟨hPx, hPm, hDx, hDm, hdis⟩ := h1
  have hM := hc G adm H.size r mm1 hf
  rw [Nat.sub_self, Nat.sub_self] at hM
  have hrun : va_Run p l e room_1 s mt #[Value.ref b] below meth c H locs cells slots 0 0 (F0 mt pc ls ((As.reverse ++ .retAddr 2 :: st).map (mu b adx adm))) (st.map (mu b adx adm)) (Qx ob G SM adm 17 17 RM (AS adm 17 H.size) r mm1 _) (AS adm 17 H.size) :=
    va_runV (cc := code) (nL := 4) (Ts := gtb) (own := RL) (C := y.cls) (b := adm 0) (As := As) (index := idx) (bytes := cc1) (maxL := nL1) (ret := ret1) (n := n) ⟨C.1, C.2.1, C.2.2.2.1, C.2.2.2.2.1, C.2.2.2.2.2.1⟩ hM
      ⟨callB_of n C.2.2.2.2.2.1 (ws_good ck.1.2.1) rfl rfl rfl (C.2.2.2.2.2.1 _ ck.1.1) (C.2.2.2.2.2.1 _ hl) ck.1.2.2 ⟨hfr.1, by show 8 + (nL1 + 11) + 40 * fr1 ≤ 84000; omega⟩, C.2.2.2.2.2.1 _ ck.2.1, C.2.2.2.2.2.1 _ ck.2.2⟩
      ⟨wb_blind G SM adm 17 RM mm H.size _, by rw [hy]; exact va_recv C.2.2.2.2.2.2.2.2.2.1 hPm (ci := 12) rfl (wl_get (by decide) sM0), fun U1 hU hW => ⟨by rw [List.map_cons, (hAs G adm b adx adm).1]; rfl, wb_u C hPm hDm h2 U1 hU hW⟩⟩ rfl hn h3.1 (by rw [List.map_append, List.map_reverse, List.map_cons, (hAs G adm b adx adm).2]; rfl) (lv_room (cat_mu b adx adm st hst)) hd ⟨show cells + 0 ≤ 600000 by omega, show slots + 0 ≤ 7302250 by omega⟩
  intro T hT X
  obtain ⟨v, st₀, u, T', Lc, g0, X', gL, e1, e2, ⟨⟨hv, ad2, had, hP2, hD2⟩, hz1, hk⟩, hsteps⟩ := hrun T hT X
  have had2 : ad2 = adm := by
    rcases had with h | h
    · exact h.2
    · exact absurd h.1 (Nat.lt_irrefl _)
  subst had2
  cases hv
  rw [g0] at hz1 hk
  have hA : ∀ q, AS ad2 17 H.size q → Alw s q := fun q h => by
    rcases h with ⟨k, h1, rfl⟩ | h
    · exact hDm.2 k _ (wl_get h1 rfl)
    · exact Nat.le_trans h2.1 h
  have hS2 : va_S (Alw s) s.heap T'.heap (locs ++ Lc) := ⟨Nat.le_trans h2.1 (by rw [e1]; exact hz1), fun q h1 h3 => by rw [e1, hk q (Nat.lt_of_lt_of_le h1 h2.1) (fun z => h3 (hA q z))]; exact h2.2.1 q h1 h3, fun q hq => by
    rcases List.mem_append.mp hq with h | h
    · exact h2.2.2 q h
    · exact hA _ (gL q h)⟩
  have hPx2 : va_P G.1 vwCl (wl G SX adx N RX mx) T'.heap := hPx.kept (fun k q hq => by
    have hlt := (hPx k q hq).lt
    obtain ⟨h1, rfl⟩ := wl_of hq
    rw [e1]
    refine hk _ hlt (fun h => ?_)
    rcases h with ⟨j, h6, h7⟩ | h
    · exact hdis k h1 j h6 h7.symm
    · have hlt : adx k < H.size := hlt
      have h : H.size ≤ adx k := h
      omega)
  have hw := k adx ad2 T'.heap (locs ++ Lc) ls (cells + 0) (slots + 0) ⟨hPx2, by rw [e1]; exact hP2, hDx, ⟨hD2.1, fun k q hq => hA _ (hD2.2 k q hq)⟩, hdis⟩ hS2 h3 h4 h5
  rw [List.map_append, hob] at hw
  obtain ⟨t2, a1, b1⟩ := hw T' rfl X'
  exact ⟨t2, hsteps t2 a1, b1⟩
end UR
