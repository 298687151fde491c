def Ct {α : Type} (l : Launch) (y : MethodName) (cc : ByteArray) (nL : Nat) (ret : Option FieldType) (fr : Nat) (S : Nat → Sh) (ov : α → Option Value) (N Nf : Nat) (R Rz : Rf) (av : List Value) (m : Mem) (t : Option (α × Mem)) : Prop :=
  ∀ (G : Gt) (ad0 : Nat → Nat) (sz : Nat) (r : α) (mF : Mem), t = some (r, mF) → Met l y (.code y cc nL ret :: gtb) (rmk fr (Nf - N) (szs S Nf - szs S N)) (va_Pc (av.map (mv G ad0)) (WB G S ad0 N R m sz)) (Qx ov G S ad0 N Nf Rz (AS ad0 N sz) r mF) (Nf - N) (szs S Nf - szs S N) (AS ad0 N sz)
theorem sl_len (G : Gt) (ad : Nat → Nat) (vs : List Value) : (lg_sl (vs.map (mv G ad))).length = (lg_sl vs).length := by
  induction vs with
  | nil => rfl
  | cons v vs ih =>
    simp only [lg_sl, List.map_cons, List.flatMap_cons, List.length_append, mv_cat] at ih ⊢
    rw [ih]
    split <;> rfl
theorem Ct.of {α : Type} {l : Launch} {y : MethodName} {cc : ByteArray} {nL : Nat} {ret : Option FieldType} {fr : Nat} {S : Nat → Sh} {ov : α → Option Value} {N Nf : Nat} {R Rz : Rf} {av : List Value} {m : Mem} {t : Option (α × Mem)} {own nm : String} (hy : plainName y.cls = true) (hcl : y.cls = own) (hnm : y.name = nm) (hlen : (lg_sl av).length ≤ nL)
    (h : ∀ (G : Gt) (p : Program) (e : Env) (s : State) (mt : MethodId) (args : Array Value) (below : List Frame) (meth : Method) (c : Code) (A : Nat → Prop) (ad0 : Nat → Nat), Cx G p s mt args meth c own cc nL ret nm A → V G S ov l p e s mt args below meth c nL fr A ad0 N Nf Rz N R 0 (lv_args 0 av) [] m t) : Ct l y cc nL ret fr S ov N Nf R Rz av m t := by
  intro G ad0 sz r mF ht
  refine Met.ofW (cc := cc) (maxL := nL) (ret := ret) hy rfl ?_
  intro p e s mt args below meth c s₁ B hml hv
  obtain ⟨rfl, hsz, hP, hK, hD0, hST⟩ := hv
  have hts := atoms_spec (ws := .code y cc nL ret :: gtb) B.pre
  have hown : s.vm.findClass y.cls = some mt.cls := findClass_of_methodNamed B.named
  have hname : meth.name = y.name := (name_of_methodNamed B.named B.method).1
  subst hsz
  have C : Cx G p s mt (av.map (mv G ad0)).toArray meth c own cc nL ret nm (AS ad0 N s.heap.size) := ⟨B.exec, B.bytes, hml, by rw [← hcl]; exact hown, fun w h => hts w (List.mem_cons_of_mem _ h), B.notSynchronized, B.returns, by rw [hname, hnm], hK, fun q h => Or.inr h, hST⟩
  obtain ⟨k1, k2⟩ := h G p e s mt _ below meth c _ ad0 C r mF ht
  have hD : va_D (AS ad0 N s.heap.size) (wl G S ad0 N R m) := ⟨hD0.1, fun k q hq => by
    obtain ⟨h1, rfl⟩ := wl_of hq
    exact Or.inl ⟨k, h1, rfl⟩⟩
  have hl := lv_entry (av.map (mv G ad0)) (n := nL) (by rw [sl_len]; exact hlen)
  rw [lg_entry_eq]
  generalize (lg_sl (av.map (mv G ad0)) ++ List.replicate (nL - (lg_sl (av.map (mv G ad0))).length) Slot.unset).toArray = ls at hl ⊢
  rw [args_map] at hl
  have had : AdOK N Nf ad0 ad0 := by
    rcases Nat.eq_or_lt_of_le k1 with q | q
    · exact Or.inl ⟨q.symm, rfl⟩
    · exact Or.inr ⟨q, fun _ _ => rfl⟩
  have k3 := k2 ad0 s.heap [] ls (Nat.le_refl _) had hP hD va_S.rf hl
  rw [Nat.sub_self, Nat.sub_self] at k3
  exact k3
theorem ct_none {α : Type} {l : Launch} {y : MethodName} {cc : ByteArray} {nL : Nat} {ret : Option FieldType} {fr : Nat} {S : Nat → Sh} {ov : α → Option Value} {N Nf : Nat} {R Rz : Rf} {av : List Value} {m : Mem} : Ct l y cc nL ret fr S ov N Nf R Rz av m none := fun _ _ _ _ _ h => by cases h
theorem wb_blind (G : Gt) (S : Nat → Sh) (ad : Nat → Nat) (N : Nat) (R : Rf) (m : Mem) (sz : Nat) (av : List Value) : FrameBlind (va_Pc av (WB G S ad N R m sz)) := by
  intro a U g mk q
  obtain ⟨q0, q1, q2, q3, q4, q5⟩ := q
  exact ⟨q0, q1, q2, va_K.moved (u := U) (U := U.calling g mk a) (Vm.Alike.refl U.vm) q3, q4, q5.same rfl⟩
section VR
variable {α : Type} {G : Gt} {S : Nat → Sh} {ov : α → Option Value} {l : Launch} {p : Program} {e : Env} {s : State} {mt : MethodId} {args : Array Value} {below : List Frame} {meth : Method} {c : Code} {own : String} {cc : ByteArray} {nL fr : Nat} {ret : Option FieldType} {nm : String} {A : Nat → Prop} {ad0 : Nat → Nat} {N0 Nf : Nat} {Rz : Rf} {N : Nat} {R : Rf} {pc : Nat} {L : List (Nat × Value)} {st : List Value} {m : Mem} {t : Option (α × Mem)}
theorem wb_here (C : Cx G p s mt args meth c own cc nL ret nm A) {ad : Nat → Nat} {H : Heap} {locs : List Loc} (hP : va_P G.1 vwCl (wl G S ad N R m) H) (hD : va_D A (wl G S ad N R m)) (hS : va_S A s.heap H locs) (U : State) (hU : U.heap = H) (hW : s.WarmedH U.vm) : WB G S ad N R m H.size U := by
  refine ⟨by rw [hU], by rw [hU]; exact hP, va_K.moved hW.alike C.2.2.2.2.2.2.2.2.1, hD.weaken (fun _ _ _ _ => trivial), ?_⟩
  rw [hU]
  refine STR.warm hW ((STR.kept C.2.2.2.2.2.2.2.2.2.2 hS.2.1).narrow (fun q h => ?_))
  rcases h with ⟨k, h1, rfl⟩ | h
  · exact hD.2 k _ (wl_get h1 rfl)
  · exact C.2.2.2.2.2.2.2.2.2.1 q (Nat.le_trans hS.1 h)
theorem V.run {β : Type} {ob : β → Option Value} {f : Option (β × Mem)} {g : β → Mem → Option (α × Mem)} {st0 : List Value} (C : Cx G p s mt args meth c own cc nL ret nm A) (hob : ∀ (r : β) (ad : Nat → Nat), (ob r).toList.map (mv G ad) = (ob r).toList)
    (hr : ∀ (ad : Nat → Nat) (H : Heap) (locs : List Loc) (ls : Array Slot) (cells slots : Nat) (Rm : Room) (r : β) (mF : Mem), f = some (r, mF) → va_P G.1 vwCl (wl G S ad N R m) H → va_D A (wl G S ad N R m) → va_S A s.heap H locs → Lr G ad ls nL L → Rm.frames = fr → Rm.locals = 40 * fr → cells ≤ Rm.cells → slots ≤ Rm.slots → ∃ as : Array Value, va_Run p l e Rm s mt args below meth c H locs cells slots 0 0 (F0 mt pc ls (st0.map (mv G ad))) (st.map (mv G ad)) (Qx ob G S ad N N R (AS ad N H.size) r mF as) (AS ad N H.size))
    (k : ∀ (r : β) (mF : Mem), f = some (r, mF) → V G S ov l p e s mt args below meth c nL fr A ad0 N0 Nf Rz N R (pc + 3) L ((ob r).toList ++ st) mF (g r mF)) : V G S ov l p e s mt args below meth c nL fr A ad0 N0 Nf Rz N R pc L st0 m (bnd f g) := by
  intro r mF ht
  cases hf : f with
  | none => rw [hf] at ht; cases ht
  | some q =>
    obtain ⟨r1, m1⟩ := q
    rw [hf] at ht
    have ht : g r1 m1 = some (r, mF) := ht
    obtain ⟨k1, k2⟩ := k r1 m1 hf r mF ht
    refine ⟨k1, fun ad H locs ls h0 h1 h2 h3 h4 h5 => ?_⟩
    have hm := szs_mono S k1
    obtain ⟨as, h6⟩ := hr ad H locs ls (N - N0) (szs S N - szs S N0) (rmk fr (Nf - N0) (szs S Nf - szs S N0)) r1 m1 hf h2 h3 h4 h5 rfl rfl (show N - N0 ≤ Nf - N0 by omega) (show szs S N - szs S N0 ≤ szs S Nf - szs S N0 by omega)
    intro T hT X
    obtain ⟨v, st₀, u, T', Lc, g0, X', gL, e1, e2, ⟨⟨hv, ad2, had, hP2, hD2⟩, hz, hk⟩, hsteps⟩ := h6 T hT X
    have had2 : ad2 = ad := by
      rcases had with h | h
      · exact h.2
      · exact absurd h.1 (Nat.lt_irrefl _)
    subst had2
    cases hv
    rw [g0] at hz hk
    have hA : ∀ q, AS ad2 N H.size q → A q := fun q h => by
      rcases h with ⟨k, h1, rfl⟩ | h
      · exact h3.2 k _ (wl_get h1 rfl)
      · exact C.2.2.2.2.2.2.2.2.2.1 q (Nat.le_trans h4.1 h)
    have hS2 : va_S A s.heap T'.heap (locs ++ Lc) := ⟨Nat.le_trans h4.1 (by rw [e1]; exact hz), fun q h1 h2 => by rw [e1, hk q (Nat.lt_of_lt_of_le h1 h4.1) (fun z => h2 (hA q z))]; exact h4.2.1 q h1 h2, fun q hq => by
      rcases List.mem_append.mp hq with h | h
      · exact h4.2.2 q h
      · exact hA _ (gL q h)⟩
    have hw := k2 ad2 T'.heap (locs ++ Lc) ls h0 h1 (by rw [e1]; exact hP2) ⟨hD2.1, fun k q hq => hA _ (hD2.2 k q hq)⟩ hS2 h5
    rw [List.map_append, hob] at hw
    obtain ⟨t2, a1, b1⟩ := hw T' rfl X'
    exact ⟨t2, hsteps t2 a1, b1⟩
def CkB (y : MethodName) (cc : ByteArray) (nL : Nat) (ret : Option FieldType) (n : Nat) : Prop := Cond.initialized y.cls ∈ gtb ∧ Cond.code y cc nL ret ∈ gtb ∧ (y.cls ≠ "java/lang/invoke/MethodHandle" ∧ y.cls ≠ "java/lang/invoke/VarHandle" ∧ (parseMethodDescriptor y.desc).map (fun d => d.parameters.length) = some n)
def CkV (y : MethodName) (cc : ByteArray) (nL : Nat) (ret : Option FieldType) (n : Nat) : Prop := CkB y cc nL ret n ∧ Cond.instanceMethod y ∈ gtb ∧ Cond.selects y.cls y y ∈ gtb
def CkS (y : MethodName) (cc : ByteArray) (nL : Nat) (ret : Option FieldType) (n : Nat) : Prop := CkB y cc nL ret n ∧ Cond.static y ∈ gtb
theorem ws_good {y : MethodName} {cc : ByteArray} {nL : Nat} {ret : Option FieldType} (h : Cond.code y cc nL ret ∈ gtb) : GoodIn gtb (.code y cc nL ret :: gtb) := fun w hw => by
  rcases List.mem_cons.mp hw with rfl | hw
  · exact gtb_good _ h
  · exact gtb_good _ hw
theorem cat_sum (G : Gt) (ad : Nat → Nat) (st : List Value) (h : (st.map Value.category).sum ≤ 8) : ((st.map (mv G ad)).map fun v => v.category).sum ≤ 8 := by
  have e1 : (List.map (fun v => Value.category v) (st.map (mv G ad))).sum = (st.map Value.category).sum := by
    rw [List.map_map]
    congr 1
    apply List.map_congr_left
    intro v _
    exact mv_cat G ad v
  rw [e1]
  exact h
theorem V.callV {β : Type} {ob : β → Option Value} {f : Option (β × Mem)} {g : β → Mem → Option (α × Mem)} (C : Cx G p s mt args meth c own cc nL ret nm A) {y : MethodName} {cc1 : ByteArray} {nL1 fr1 n idx b ci : Nat} {ret1 : Option FieldType} {As : List Value} {st0 : List Value} {q : vw_C} (hc : Ct l y cc1 nL1 ret1 fr1 S ob N N R R (.ref b :: As) m f) (hob : ∀ (G : Gt) (r : β) (ad : Nat → Nat), (ob r).toList.map (mv G ad) = (ob r).toList) (ck : CkV y cc1 nL1 ret1 n) (hl : Cond.methodLink own idx y ∈ gtb) (hq : vwCl[ci]? = some q) (hy : y.cls = q.1) (hs : S b = .inl ci) (hk : b < N) (hn : As.length = n) (hst0 : As.reverse ++ .ref b :: st = st0) (hst : (st.map Value.category).sum ≤ 8) (hfr : fr1 + 1 ≤ fr ∧ nL1 ≤ 21) (hd : decode cc pc = .ok (.invokevirtual idx, 3))
    (k : ∀ (r : β) (mF : Mem), f = some (r, mF) → V G S ov l p e s mt args below meth c nL fr A ad0 N0 Nf Rz N R (pc + 3) L ((ob r).toList ++ st) mF (g r mF)) : V G S ov l p e s mt args below meth c nL fr A ad0 N0 Nf Rz N R pc L st0 m (bnd f g) := by
  subst hst0
  refine V.run C (hob G) (fun ad H locs ls cells slots Rm r mF hf hP hD hS hL hf1 hf2 hcl hsl => ?_) k
  have hM := hc G ad H.size r mF hf
  rw [Nat.sub_self, Nat.sub_self] at hM
  refine ⟨_, va_runV (cc := cc) (nL := nL) (Ts := gtb) (own := own) (C := y.cls) (b := ad b) (As := As.map (mv G ad)) (index := idx) (bytes := cc1) (maxL := nL1) (ret := ret1) (n := n) ⟨C.1, C.2.1, C.2.2.1, C.2.2.2.1, C.2.2.2.2.1⟩ hM ?_ ⟨wb_blind G S ad N R m H.size _, ?_, fun U hU hW => ⟨rfl, wb_here C hP hD hS U hU hW⟩⟩ rfl (by rw [List.length_map]; exact hn) hL.1 (by rw [List.map_append, List.map_reverse]; rfl) (lv_room (cat_sum G ad st hst)) hd ⟨hcl, hsl⟩⟩
  · exact ⟨callB_of n C.2.2.2.2.1 (ws_good ck.1.2.1) rfl rfl rfl (C.2.2.2.2.1 _ ck.1.1) (C.2.2.2.2.1 _ hl) ck.1.2.2 ⟨by rw [hf1]; exact hfr.1, by rw [hf2]; show 8 + (nL1 + 11) + 40 * fr1 ≤ 40 * fr; omega⟩, C.2.2.2.2.1 _ ck.2.1, C.2.2.2.2.1 _ ck.2.2⟩
  · rw [hy]
    exact va_recv C.2.2.2.2.2.2.2.2.1 hP hq (wl_get hk hs)
theorem V.callN {β : Type} {ob : β → Option Value} {f : Option (β × Mem)} {g : β → Mem → Option (α × Mem)} (C : Cx G p s mt args meth c own cc nL ret nm A) {y : MethodName} {host : String} {cc1 : ByteArray} {nL1 fr1 n idx b ci : Nat} {ret1 : Option FieldType} {As : List Value} {st0 : List Value} {q : vw_C} (hc : Ct l y cc1 nL1 ret1 fr1 S ob N N R R (.ref b :: As) m f) (hob : ∀ (G : Gt) (r : β) (ad : Nat → Nat), (ob r).toList.map (mv G ad) = (ob r).toList) (ck : CkV y cc1 nL1 ret1 n) (hl : (own, idx, y, host) ∈ nestW) (hq : vwCl[ci]? = some q) (hy : y.cls = q.1) (hs : S b = .inl ci) (hk : b < N) (hn : As.length = n) (hst0 : As.reverse ++ .ref b :: st = st0) (hst : (st.map Value.category).sum ≤ 8) (hfr : fr1 + 1 ≤ fr ∧ nL1 ≤ 21) (hd : decode cc pc = .ok (.invokevirtual idx, 3))
    (k : ∀ (r : β) (mF : Mem), f = some (r, mF) → V G S ov l p e s mt args below meth c nL fr A ad0 N0 Nf Rz N R (pc + 3) L ((ob r).toList ++ st) mF (g r mF)) : V G S ov l p e s mt args below meth c nL fr A ad0 N0 Nf Rz N R pc L st0 m (bnd f g) := by
  subst hst0
  refine V.run C (hob G) (fun ad H locs ls cells slots Rm r mF hf hP hD hS hL hf1 hf2 hcl hsl => ?_) k
  have hM := hc G ad H.size r mF hf
  rw [Nat.sub_self, Nat.sub_self] at hM
  refine ⟨_, va_runVN (cc := cc) (nL := nL) (Ts := gtb) (own := own) (host := host) (C := y.cls) (b := ad b) (As := As.map (mv G ad)) (index := idx) (bytes := cc1) (maxL := nL1) (ret := ret1) (n := n) ⟨C.1, C.2.1, C.2.2.1, C.2.2.2.1, C.2.2.2.2.1⟩ hM ?_ ⟨wb_blind G S ad N R m H.size _, ?_, fun U hU hW => ⟨rfl, wb_here C hP hD hS U hU hW⟩⟩ rfl (by rw [List.length_map]; exact hn) hL.1 (by rw [List.map_append, List.map_reverse]; rfl) (lv_room (cat_sum G ad st hst)) hd ⟨hcl, hsl⟩⟩
  · exact ⟨va_cnB n C.2.2.2.2.1 (ws_good ck.1.2.1) rfl rfl rfl (C.2.2.2.2.2.2.2.2.2.2.2.2.2.2.1 _ hl) (C.2.2.2.2.1 _ ck.1.1) ck.1.2.2 ⟨by rw [hf1]; exact hfr.1, by rw [hf2]; show 8 + (nL1 + 11) + 40 * fr1 ≤ 40 * fr; omega⟩, C.2.2.2.2.1 _ ck.2.1, C.2.2.2.2.1 _ ck.2.2⟩
  · rw [hy]
    exact va_recv C.2.2.2.2.2.2.2.2.1 hP hq (wl_get hk hs)
theorem V.callT {β : Type} {ob : β → Option Value} {f : Option (β × Mem)} {g : β → Mem → Option (α × Mem)} (C : Cx G p s mt args meth c own cc nL ret nm A) {y : MethodName} {cc1 : ByteArray} {nL1 fr1 n idx b : Nat} {ret1 : Option FieldType} {As : List Value} {st0 : List Value} (hc : Ct l y cc1 nL1 ret1 fr1 S ob N N R R (.retAddr b :: As) m f) (hob : ∀ (G : Gt) (r : β) (ad : Nat → Nat), (ob r).toList.map (mv G ad) = (ob r).toList) (ck : CkV y cc1 nL1 ret1 n) (hl : Cond.methodLink own idx y ∈ gtb) (hy : y.cls = "java/lang/String") (hk : b < 22) (hn : As.length = n) (hst0 : As.reverse ++ .retAddr b :: st = st0) (hst : (st.map Value.category).sum ≤ 8) (hfr : fr1 + 1 ≤ fr ∧ nL1 ≤ 21) (hd : decode cc pc = .ok (.invokevirtual idx, 3))
    (k : ∀ (r : β) (mF : Mem), f = some (r, mF) → V G S ov l p e s mt args below meth c nL fr A ad0 N0 Nf Rz N R (pc + 3) L ((ob r).toList ++ st) mF (g r mF)) : V G S ov l p e s mt args below meth c nL fr A ad0 N0 Nf Rz N R pc L st0 m (bnd f g) := by
  subst hst0
  refine V.run C (hob G) (fun ad H locs ls cells slots Rm r mF hf hP hD hS hL hf1 hf2 hcl hsl => ?_) k
  have hM := hc G ad H.size r mF hf
  rw [Nat.sub_self, Nat.sub_self] at hM
  have eb : mv G ad (.retAddr b) = .ref (G.2.2.1 b) := if_pos (by omega)
  rw [List.map_cons, eb] at hM
  refine ⟨_, va_runV (cc := cc) (nL := nL) (Ts := gtb) (own := own) (C := y.cls) (b := G.2.2.1 b) (As := As.map (mv G ad)) (index := idx) (bytes := cc1) (maxL := nL1) (ret := ret1) (n := n) ⟨C.1, C.2.1, C.2.2.1, C.2.2.2.1, C.2.2.2.2.1⟩ hM ?_ ⟨wb_blind G S ad N R m H.size _, ?_, fun U hU hW => ⟨rfl, wb_here C hP hD hS U hU hW⟩⟩ rfl (by rw [List.length_map]; exact hn) hL.1 (by rw [List.map_append, List.map_reverse, List.map_cons, eb]) (lv_room (cat_sum G ad st hst)) hd ⟨hcl, hsl⟩⟩
  · exact ⟨callB_of n C.2.2.2.2.1 (ws_good ck.1.2.1) rfl rfl rfl (C.2.2.2.2.1 _ ck.1.1) (C.2.2.2.2.1 _ hl) ck.1.2.2 ⟨by rw [hf1]; exact hfr.1, by rw [hf2]; show 8 + (nL1 + 11) + 40 * fr1 ≤ 40 * fr; omega⟩, C.2.2.2.2.1 _ ck.2.1, C.2.2.2.2.1 _ ck.2.2⟩
  · rw [hy]
    exact vk_recv C.2.2.2.2.2.2.2.2.2.2.1 hk hS
theorem V.callS {β : Type} {ob : β → Option Value} {f : Option (β × Mem)} {g : β → Mem → Option (α × Mem)} (C : Cx G p s mt args meth c own cc nL ret nm A) {y : MethodName} {cc1 : ByteArray} {nL1 fr1 n idx : Nat} {ret1 : Option FieldType} {As : List Value} {st0 : List Value} (hc : Ct l y cc1 nL1 ret1 fr1 S ob N N R R As m f) (hob : ∀ (G : Gt) (r : β) (ad : Nat → Nat), (ob r).toList.map (mv G ad) = (ob r).toList) (ck : CkS y cc1 nL1 ret1 n) (hl : Cond.methodLink own idx y ∈ gtb) (hn : As.length = n) (hst0 : As.reverse ++ st = st0) (hst : (st.map Value.category).sum ≤ 8) (hfr : fr1 + 1 ≤ fr ∧ nL1 ≤ 21) (hd : decode cc pc = .ok (.invokestatic idx, 3))
    (k : ∀ (r : β) (mF : Mem), f = some (r, mF) → V G S ov l p e s mt args below meth c nL fr A ad0 N0 Nf Rz N R (pc + 3) L ((ob r).toList ++ st) mF (g r mF)) : V G S ov l p e s mt args below meth c nL fr A ad0 N0 Nf Rz N R pc L st0 m (bnd f g) := by
  subst hst0
  refine V.run C (hob G) (fun ad H locs ls cells slots Rm r mF hf hP hD hS hL hf1 hf2 hcl hsl => ?_) k
  have hM := hc G ad H.size r mF hf
  rw [Nat.sub_self, Nat.sub_self] at hM
  refine ⟨_, va_runS (cc := cc) (nL := nL) (Ts := gtb) (own := own) (As := As.map (mv G ad)) (index := idx) (bytes := cc1) (maxL := nL1) (ret := ret1) (n := n) ⟨C.1, C.2.1, C.2.2.1, C.2.2.2.1, C.2.2.2.2.1⟩ hM ?_ ⟨wb_blind G S ad N R m H.size _, fun U hU hW => ⟨rfl, wb_here C hP hD hS U hU hW⟩⟩ rfl (by rw [List.length_map]; exact hn) hL.1 (by rw [List.map_append, List.map_reverse]) (lv_room (cat_sum G ad st hst)) hd ⟨hcl, hsl⟩⟩
  exact ⟨callB_of n C.2.2.2.2.1 (ws_good ck.1.2.1) rfl rfl rfl (C.2.2.2.2.1 _ ck.1.1) (C.2.2.2.2.1 _ hl) ck.1.2.2 ⟨by rw [hf1]; exact hfr.1, by rw [hf2]; show 8 + (nL1 + 11) + 40 * fr1 ≤ 40 * fr; omega⟩, C.2.2.2.2.1 _ ck.2⟩
theorem V.genc {pc2 : Nat} {st2 : List Value} (hw : ∀ (ad : Nat → Nat) (H : Heap) (locs : List Loc) (ls : Array Slot) (Rm : Room) (cells slots : Nat) (Q : State → Prop), Lr G ad ls nL L → Rm.frames = fr → Rm.locals = 40 * fr → cells ≤ Rm.cells → slots ≤ Rm.slots → W p l e Rm s mt args below meth c H locs cells slots Q (F0 mt pc2 ls (st2.map (mv G ad))) → W p l e Rm s mt args below meth c H locs cells slots Q (F0 mt pc ls (st.map (mv G ad)))) (k : V G S ov l p e s mt args below meth c nL fr A ad0 N0 Nf Rz N R pc2 L st2 m t) : V G S ov l p e s mt args below meth c nL fr A ad0 N0 Nf Rz N R pc L st m t := by
  intro r mF ht
  obtain ⟨hp, k⟩ := k r mF ht
  have hm := szs_mono S hp
  exact ⟨hp, fun ad H locs ls h0 h1 h2 h3 h4 h5 => hw ad H locs ls _ _ _ _ h5 rfl rfl (show N - N0 ≤ Nf - N0 by omega) (show szs S N - szs S N0 ≤ szs S Nf - szs S N0 by omega) (k ad H locs ls h0 h1 h2 h3 h4 h5)⟩
theorem V.mmax (C : Cx G p s mt args meth c own cc nL ret nm A) {idx : Nat} {x y : Int32} (hl : Cond.methodLink own idx Lib.Math.max.name ∈ gtb) (hs : Cond.static Lib.Math.max.name ∈ gtb) (hini : Cond.initialized "java/lang/Math" ∈ gtb) (hc : Cond.code Lib.Math.max.name Lib.Math.max.code 2 (some .int) ∈ gtb) (hfr : 1 ≤ fr) (hst : (st.map Value.category).sum ≤ 8) (hd : decode cc pc = .ok (.invokestatic idx, 3)) (k : V G S ov l p e s mt args below meth c nL fr A ad0 N0 Nf Rz N R (pc + 3) L (.int (if x < y then y else x) :: st) m t) : V G S ov l p e s mt args below meth c nL fr A ad0 N0 Nf Rz N R pc L (.int y :: .int x :: st) m t :=
  V.genc (fun ad H locs ls Rm cells slots Q hL hf1 hf2 h3 h4 kk => va_mmax C.1 C.2.1 (by rw [C.2.2.1]; exact hL.1.symm) C.2.2.2.1 (C.2.2.2.2.1 _ hl) (C.2.2.2.2.1 _ hs) (C.2.2.2.2.1 _ hini) (C.2.2.2.2.1 _ hc) (by omega) (by have := cat_sum G ad st hst; omega) h3 h4 hd kk) k
theorem V.mmin (C : Cx G p s mt args meth c own cc nL ret nm A) {idx : Nat} {x y : Int32} (hl : Cond.methodLink own idx Lib.Math.min.name ∈ gtb) (hs : Cond.static Lib.Math.min.name ∈ gtb) (hini : Cond.initialized "java/lang/Math" ∈ gtb) (hc : Cond.code Lib.Math.min.name Lib.Math.min.code 2 (some .int) ∈ gtb) (hfr : 1 ≤ fr) (hst : (st.map Value.category).sum ≤ 8) (hd : decode cc pc = .ok (.invokestatic idx, 3)) (k : V G S ov l p e s mt args below meth c nL fr A ad0 N0 Nf Rz N R (pc + 3) L (.int (if y < x then y else x) :: st) m t) : V G S ov l p e s mt args below meth c nL fr A ad0 N0 Nf Rz N R pc L (.int y :: .int x :: st) m t :=
  V.genc (fun ad H locs ls Rm cells slots Q hL hf1 hf2 h3 h4 kk => va_mmin C.1 C.2.1 (by rw [C.2.2.1]; exact hL.1.symm) C.2.2.2.1 (C.2.2.2.2.1 _ hl) (C.2.2.2.2.1 _ hs) (C.2.2.2.2.1 _ hini) (C.2.2.2.2.1 _ hc) (by omega) (by have := cat_sum G ad st hst; omega) h3 h4 hd kk) k
theorem V.mabs (C : Cx G p s mt args meth c own cc nL ret nm A) {idx : Nat} {x : Int32} (hl : Cond.methodLink own idx Lib.Math.abs.name ∈ gtb) (hs : Cond.static Lib.Math.abs.name ∈ gtb) (hini : Cond.initialized "java/lang/Math" ∈ gtb) (hc : Cond.code Lib.Math.abs.name Lib.Math.abs.code 1 (some .int) ∈ gtb) (hfr : 1 ≤ fr) (hst : (st.map Value.category).sum ≤ 8) (hd : decode cc pc = .ok (.invokestatic idx, 3)) (k : V G S ov l p e s mt args below meth c nL fr A ad0 N0 Nf Rz N R (pc + 3) L (.int (if 0 ≤ x then x else 0 - x) :: st) m t) : V G S ov l p e s mt args below meth c nL fr A ad0 N0 Nf Rz N R pc L (.int x :: st) m t :=
  V.genc (fun ad H locs ls Rm cells slots Q hL hf1 hf2 h3 h4 kk => va_mabs C.1 C.2.1 (by rw [C.2.2.1]; exact hL.1.symm) C.2.2.2.1 (C.2.2.2.2.1 _ hl) (C.2.2.2.2.1 _ hs) (C.2.2.2.2.1 _ hini) (C.2.2.2.2.1 _ hc) (by omega) (by have := cat_sum G ad st hst; omega) h3 h4 hd kk) k
theorem obI (G : Gt) (r : Int32) (ad : Nat → Nat) : (oI r).toList.map (mv G ad) = (oI r).toList := rfl
theorem obL (G : Gt) (r : Int64) (ad : Nat → Nat) : (oL r).toList.map (mv G ad) = (oL r).toList := rfl
theorem obV (G : Gt) (r : Unit) (ad : Nat → Nat) : (oV r).toList.map (mv G ad) = (oV r).toList := rfl
end VR
