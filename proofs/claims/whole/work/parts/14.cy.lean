def isLawR (R : Rf) (N a : Nat) : Prop := a + 1 < N ∧ SX a = .inl 4 ∧ SX (a + 1) = .inr (0, 900) ∧ R a 0 = some (a + 1)
def isRulesR (R : Rf) (N a : Nat) : Prop := a + 6 < N ∧ SX a = .inl 8 ∧ SX (a + 1) = .inr (0, 14) ∧ SX (a + 2) = .inr (0, 8) ∧ R a 5 = some (a + 1) ∧ R a 6 = some (a + 2) ∧ R a 7 = some (a + 3) ∧ R a 8 = some (a + 5) ∧ isLawR R N (a + 3) ∧ isLawR R N (a + 5)
theorem isLawR.s {R : Rf} {N a : Nat} (h : isLawR R N a) : SX a = .inl 4 := h.2.1
theorem isLawR.s1 {R : Rf} {N a : Nat} (h : isLawR R N a) : SX (a + 1) = .inr (0, 900) := h.2.2.1
theorem isLawR.r0 {R : Rf} {N a : Nat} (h : isLawR R N a) : R a 0 = some (a + 1) := h.2.2.2
theorem isLawR.k {R : Rf} {N a : Nat} (h : isLawR R N a) : a < N := by have := h.1; omega
theorem isLawR.k1 {R : Rf} {N a : Nat} (h : isLawR R N a) : a + 1 < N := h.1
theorem isRulesR.s {R : Rf} {N a : Nat} (h : isRulesR R N a) : SX a = .inl 8 := h.2.1
theorem isRulesR.k {R : Rf} {N a : Nat} (h : isRulesR R N a) : a < N := by have := h.1; omega
theorem isRulesR.r7 {R : Rf} {N a : Nat} (h : isRulesR R N a) : R a 7 = some (a + 3) := h.2.2.2.2.2.2.1
theorem isRulesR.r8 {R : Rf} {N a : Nat} (h : isRulesR R N a) : R a 8 = some (a + 5) := h.2.2.2.2.2.2.2.1
theorem isRulesR.l7 {R : Rf} {N a : Nat} (h : isRulesR R N a) : isLawR R N (a + 3) := h.2.2.2.2.2.2.2.2.1
theorem isRulesR.l8 {R : Rf} {N a : Nat} (h : isRulesR R N a) : isLawR R N (a + 5) := h.2.2.2.2.2.2.2.2.2
set_option maxRecDepth 100000 in
set_option maxHeartbeats 4000000 in
theorem vY_X4_ofTerm {l : Launch} {p : Program} {e : Env} {s : State} {mt : MethodId} {args : Array Value} {below : List Frame} {meth : Method} {c : Code} {A : Nat → Prop} {ad0 : Nat → Nat} {G : Gt} {N : Nat} {R : Rf} (C : Cx G p s mt args meth c RX4 cX4_ofTerm 1 (some .int) "ofTerm" A)  (x1 : Int32) (m : Mem) : V G SX oI l p e s mt args below meth c 1 1 A ad0 N N R N R 0 [(0, .int x1)] [] m (X4_ofTerm  x1 m) := by
  rw [X4_ofTerm]
  refine V.iconst (pc := 0) C dX4_ofTerm_0 (v := (-1)) (by decide) ?_
  refine V.iload_n (pc := 1) C dX4_ofTerm_1 0 rfl ?_
  refine V.isub (pc := 2) C dX4_ofTerm_2 ?_
  exact V.iret C dX4_ofTerm_3
theorem cY_X4_ofTerm (l : Launch) {N : Nat} {R : Rf}  (x1 : Int32) (m : Mem) : Ct l yX4_ofTerm cX4_ofTerm 1 (some .int) 1 SX oI N N R R [.int x1] m (X4_ofTerm  x1 m) :=
  Ct.of (own := RX4) (nm := "ofTerm") (by decide) rfl rfl (Nat.le_of_ble_eq_true rfl) (fun _ _ _ _ _ _ _ _ _ _ _ C => vY_X4_ofTerm C x1 m)
set_option maxRecDepth 100000 in
set_option maxHeartbeats 4000000 in
theorem vY_X4_add {l : Launch} {p : Program} {e : Env} {s : State} {mt : MethodId} {args : Array Value} {below : List Frame} {meth : Method} {c : Code} {A : Nat → Prop} {ad0 : Nat → Nat} {G : Gt} {N : Nat} {R : Rf} (C : Cx G p s mt args meth c RX4 cX4_add 2 none "add" A)  (a : Nat) (ha : isLawR R N a) (x1 : Int32) (m : Mem) : V G SX oV l p e s mt args below meth c 2 1 A ad0 N N R N R 0 [(0, .ref a), (1, .int x1)] [] m (X4_add a x1 m) := by
  rw [X4_add]
  refine V.aload_n (pc := 0) C dX4_add_0 0 rfl ?_
  refine V.geti (pc := 1) C fl_RX4_15 ha.s ha.k rfl dX4_add_1 ?_
  refine V.sipush (pc := 4) C dX4_add_4 (v := 900) (by decide) ?_
  refine V.icmp_ge (pc := 7) C dX4_add_7 30 (by decide) (fun _ => ?_) (fun _ => ?_)
  · exact V.vret C dX4_add_30
  · refine V.aload_n (pc := 10) C dX4_add_10 0 rfl ?_
    refine V.getr (pc := 11) C fl_RX4_9 ha.s ha.k rfl ha.r0 dX4_add_11 ?_
    refine V.aload_n (pc := 14) C dX4_add_14 0 rfl ?_
    refine V.geti (pc := 15) C fl_RX4_15 ha.s ha.k rfl dX4_add_15 ?_
    refine V.iload_n (pc := 18) C dX4_add_18 1 rfl ?_
    refine V.iast (pc := 19) C ha.s1 ha.k1 dX4_add_19 (fun _ => ?_)
    refine V.ltm (fun m_1 => ?_)
    refine V.aload_n (pc := 20) C dX4_add_20 0 rfl ?_
    refine V.dup (pc := 21) C dX4_add_21 rfl ?_
    refine V.geti (pc := 22) C fl_RX4_15 ha.s ha.k rfl dX4_add_22 ?_
    refine V.iconst (pc := 25) C dX4_add_25 (v := 1) (by decide) ?_
    refine V.iadd (pc := 26) C dX4_add_26 ?_
    refine V.puti (pc := 27) C fp_RX4_15 ha.s ha.k rfl dX4_add_27 ?_
    refine V.ltm (fun m_2 => ?_)
    exact V.vret C dX4_add_30
theorem cY_X4_add (l : Launch) {N : Nat} {R : Rf}  (a : Nat) (ha : isLawR R N a) (x1 : Int32) (m : Mem) : Ct l yX4_add cX4_add 2 none 1 SX oV N N R R [.ref a, .int x1] m (X4_add a x1 m) :=
  Ct.of (own := RX4) (nm := "add") (by decide) rfl rfl (Nat.le_of_ble_eq_true rfl) (fun _ _ _ _ _ _ _ _ _ _ _ C => vY_X4_add C a ha x1 m)
set_option maxRecDepth 100000 in
set_option maxHeartbeats 4000000 in
theorem vY_X8_setFirstLaws {l : Launch} {p : Program} {e : Env} {s : State} {mt : MethodId} {args : Array Value} {below : List Frame} {meth : Method} {c : Code} {A : Nat → Prop} {ad0 : Nat → Nat} {G : Gt} {N : Nat} {R : Rf} (C : Cx G p s mt args meth c RX8 cX8_setFirstLaws 1 none "setFirstLaws" A)  (a : Nat) (ha : isRulesR R N a) (m : Mem) : V G SX oV l p e s mt args below meth c 1 2 A ad0 N N R N R 0 [(0, .ref a)] [] m (X8_setFirstLaws a  m) := by
  rw [X8_setFirstLaws]
  refine V.aload_n (pc := 0) C dX8_setFirstLaws_0 0 rfl ?_
  refine V.getr (pc := 1) C fl_RX8_21 ha.s ha.k rfl ha.r7 dX8_setFirstLaws_1 ?_
  refine V.iconst (pc := 4) C dX8_setFirstLaws_4 (v := 0) (by decide) ?_
  refine V.puti (pc := 5) C fp_RX8_47 ha.l7.s ha.l7.k rfl dX8_setFirstLaws_5 ?_
  refine V.ltm (fun m_1 => ?_)
  refine V.aload_n (pc := 8) C dX8_setFirstLaws_8 0 rfl ?_
  refine V.getr (pc := 9) C fl_RX8_21 ha.s ha.k rfl ha.r7 dX8_setFirstLaws_9 ?_
  refine V.iconst (pc := 12) C dX8_setFirstLaws_12 (v := 1) (by decide) ?_
  refine V.callS (pc := 13) (st := [.ref (a + 3)]) C (cY_X4_ofTerm l 1 m_1) obI ck_X4_ofTerm ml_RX8_52 rfl rfl (Nat.le_of_ble_eq_true rfl) ⟨by decide, by decide⟩ dX8_setFirstLaws_13 (fun r_2 m_3 _ => ?_)
  refine V.callV (pc := 16) (st := []) C (cY_X4_add l (a + 3) ha.l7 r_2 m_3) obV ck_X4_add ml_RX8_56 rfl rfl ha.l7.s ha.l7.k rfl rfl (Nat.le_of_ble_eq_true rfl) ⟨by decide, by decide⟩ dX8_setFirstLaws_16 (fun r_4 m_5 _ => ?_)
  refine V.aload_n (pc := 19) C dX8_setFirstLaws_19 0 rfl ?_
  refine V.getr (pc := 20) C fl_RX8_21 ha.s ha.k rfl ha.r7 dX8_setFirstLaws_20 ?_
  refine V.iconst (pc := 23) C dX8_setFirstLaws_23 (v := 2) (by decide) ?_
  refine V.callS (pc := 24) (st := [.ref (a + 3)]) C (cY_X4_ofTerm l 2 m_5) obI ck_X4_ofTerm ml_RX8_52 rfl rfl (Nat.le_of_ble_eq_true rfl) ⟨by decide, by decide⟩ dX8_setFirstLaws_24 (fun r_6 m_7 _ => ?_)
  refine V.callV (pc := 27) (st := []) C (cY_X4_add l (a + 3) ha.l7 r_6 m_7) obV ck_X4_add ml_RX8_56 rfl rfl ha.l7.s ha.l7.k rfl rfl (Nat.le_of_ble_eq_true rfl) ⟨by decide, by decide⟩ dX8_setFirstLaws_27 (fun r_8 m_9 _ => ?_)
  refine V.aload_n (pc := 30) C dX8_setFirstLaws_30 0 rfl ?_
  refine V.getr (pc := 31) C fl_RX8_21 ha.s ha.k rfl ha.r7 dX8_setFirstLaws_31 ?_
  refine V.iconst (pc := 34) C dX8_setFirstLaws_34 (v := 2) (by decide) ?_
  refine V.callV (pc := 35) (st := []) C (cY_X4_add l (a + 3) ha.l7 2 m_9) obV ck_X4_add ml_RX8_56 rfl rfl ha.l7.s ha.l7.k rfl rfl (Nat.le_of_ble_eq_true rfl) ⟨by decide, by decide⟩ dX8_setFirstLaws_35 (fun r_10 m_11 _ => ?_)
  refine V.aload_n (pc := 38) C dX8_setFirstLaws_38 0 rfl ?_
  refine V.getr (pc := 39) C fl_RX8_21 ha.s ha.k rfl ha.r7 dX8_setFirstLaws_39 ?_
  refine V.bipush (pc := 42) C dX8_setFirstLaws_42 (v := (-10)) (by decide) ?_
  refine V.callV (pc := 44) (st := []) C (cY_X4_add l (a + 3) ha.l7 (-10) m_11) obV ck_X4_add ml_RX8_56 rfl rfl ha.l7.s ha.l7.k rfl rfl (Nat.le_of_ble_eq_true rfl) ⟨by decide, by decide⟩ dX8_setFirstLaws_44 (fun r_12 m_13 _ => ?_)
  refine V.aload_n (pc := 47) C dX8_setFirstLaws_47 0 rfl ?_
  refine V.getr (pc := 48) C fl_RX8_21 ha.s ha.k rfl ha.r7 dX8_setFirstLaws_48 ?_
  refine V.bipush (pc := 51) C dX8_setFirstLaws_51 (v := (-9)) (by decide) ?_
  refine V.callV (pc := 53) (st := []) C (cY_X4_add l (a + 3) ha.l7 (-9) m_13) obV ck_X4_add ml_RX8_56 rfl rfl ha.l7.s ha.l7.k rfl rfl (Nat.le_of_ble_eq_true rfl) ⟨by decide, by decide⟩ dX8_setFirstLaws_53 (fun r_14 m_15 _ => ?_)
  refine V.aload_n (pc := 56) C dX8_setFirstLaws_56 0 rfl ?_
  refine V.getr (pc := 57) C fl_RX8_25 ha.s ha.k rfl ha.r8 dX8_setFirstLaws_57 ?_
  refine V.iconst (pc := 60) C dX8_setFirstLaws_60 (v := 0) (by decide) ?_
  refine V.puti (pc := 61) C fp_RX8_47 ha.l8.s ha.l8.k rfl dX8_setFirstLaws_61 ?_
  refine V.ltm (fun m_16 => ?_)
  refine V.aload_n (pc := 64) C dX8_setFirstLaws_64 0 rfl ?_
  refine V.getr (pc := 65) C fl_RX8_25 ha.s ha.k rfl ha.r8 dX8_setFirstLaws_65 ?_
  refine V.iconst (pc := 68) C dX8_setFirstLaws_68 (v := 1) (by decide) ?_
  refine V.callV (pc := 69) (st := []) C (cY_X4_add l (a + 5) ha.l8 1 m_16) obV ck_X4_add ml_RX8_56 rfl rfl ha.l8.s ha.l8.k rfl rfl (Nat.le_of_ble_eq_true rfl) ⟨by decide, by decide⟩ dX8_setFirstLaws_69 (fun r_17 m_18 _ => ?_)
  exact V.vret C dX8_setFirstLaws_72
theorem cY_X8_setFirstLaws (l : Launch) {N : Nat} {R : Rf}  (a : Nat) (ha : isRulesR R N a) (m : Mem) : Ct l yX8_setFirstLaws cX8_setFirstLaws 1 none 2 SX oV N N R R [.ref a] m (X8_setFirstLaws a  m) :=
  Ct.of (own := RX8) (nm := "setFirstLaws") (by decide) rfl rfl (Nat.le_of_ble_eq_true rfl) (fun _ _ _ _ _ _ _ _ _ _ _ C => vY_X8_setFirstLaws C a ha  m)
theorem nk_add {Nx a N : Nat} (ha : isLaw Nx a) {R : Rf} {x : Int32} {m mF : Mem} {r : Unit} (hk : NK SX N R m) (hf : X4_add a x m = some (r, mF)) : NK SX N R mF := by
  rw [X4_add] at hf
  split at hf
  · cases hf; exact hk
  · simp only [chk_eq, lt] at hf
    split at hf
    · cases hf
      exact NK.si (NK.si hk (by rw [ha.s1]; exact fun q => q (by decide))) (by rw [ha.s]; exact fun q => q.1 rfl)
    · cases hf
theorem ofTerm_eq (x : Int32) (m : Mem) : X4_ofTerm x m = some (-1 - x, m) := rfl
theorem nk_setFirst {Nx a N : Nat} (ha : isRules Nx a) {R : Rf} {m mF : Mem} {r : Unit} (hk : NK SX N R m) (hf : X8_setFirstLaws a m = some (r, mF)) : NK SX N R mF := by
  rw [X8_setFirstLaws] at hf
  simp only [lt, ofTerm_eq] at hf
  obtain ⟨_, m1, e1, hf⟩ := bnd_some hf
  cases e1
  obtain ⟨_, m2, e2, hf⟩ := bnd_some hf
  have k2 := nk_add ha.l7 (NK.si hk (by rw [ha.l7.s]; exact fun q => q.1 rfl)) e2
  obtain ⟨_, m3, e3, hf⟩ := bnd_some hf
  cases e3
  obtain ⟨_, m4, e4, hf⟩ := bnd_some hf
  have k4 := nk_add ha.l7 k2 e4
  obtain ⟨_, m5, e5, hf⟩ := bnd_some hf
  have k5 := nk_add ha.l7 k4 e5
  obtain ⟨_, m6, e6, hf⟩ := bnd_some hf
  have k6 := nk_add ha.l7 k5 e6
  obtain ⟨_, m7, e7, hf⟩ := bnd_some hf
  have k7 := nk_add ha.l7 k6 e7
  obtain ⟨_, m8, e8, hf⟩ := bnd_some hf
  have k8 := nk_add ha.l8 (NK.si k7 (by rw [ha.l8.s]; exact fun q => q.1 rfl)) e8
  cases hf
  exact k8
