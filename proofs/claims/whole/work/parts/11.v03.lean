theorem dX10_passYearAround_0 : decode cX10_passYearAround 0 = .ok (.aload_n 0, 1) := by decide +kernel
theorem dX10_passYearAround_1 : decode cX10_passYearAround 1 = .ok (.getfield 22, 3) := by decide +kernel
theorem dX10_passYearAround_4 : decode cX10_passYearAround 4 = .ok (.getfield 98, 3) := by decide +kernel
theorem dX10_passYearAround_7 : decode cX10_passYearAround 7 = .ok (.iload_n 1, 1) := by decide +kernel
theorem dX10_passYearAround_8 : decode cX10_passYearAround 8 = .ok (.iaload, 1) := by decide +kernel
theorem dX10_passYearAround_9 : decode cX10_passYearAround 9 = .ok (.istore_n 2, 1) := by decide +kernel
theorem dX10_passYearAround_10 : decode cX10_passYearAround 10 = .ok (.aload_n 0, 1) := by decide +kernel
theorem dX10_passYearAround_11 : decode cX10_passYearAround 11 = .ok (.iload_n 2, 1) := by decide +kernel
theorem dX10_passYearAround_12 : decode cX10_passYearAround 12 = .ok (.invokevirtual 35, 3) := by decide +kernel
theorem dX10_passYearAround_15 : decode cX10_passYearAround 15 = .ok (.ifCond .eq 12, 3) := by decide +kernel
theorem dX10_passYearAround_18 : decode cX10_passYearAround 18 = .ok (.aload_n 0, 1) := by decide +kernel
theorem dX10_passYearAround_19 : decode cX10_passYearAround 19 = .ok (.iload_n 1, 1) := by decide +kernel
theorem dX10_passYearAround_20 : decode cX10_passYearAround 20 = .ok (.iload_n 2, 1) := by decide +kernel
theorem dX10_passYearAround_21 : decode cX10_passYearAround 21 = .ok (.invokevirtual 166, 3) := by decide +kernel
theorem dX10_passYearAround_24 : decode cX10_passYearAround 24 = .ok (.goto 9, 3) := by decide +kernel
theorem dX10_passYearAround_27 : decode cX10_passYearAround 27 = .ok (.aload_n 0, 1) := by decide +kernel
theorem dX10_passYearAround_28 : decode cX10_passYearAround 28 = .ok (.iload_n 1, 1) := by decide +kernel
theorem dX10_passYearAround_29 : decode cX10_passYearAround 29 = .ok (.invokevirtual 160, 3) := by decide +kernel
theorem dX10_passYearAround_32 : decode cX10_passYearAround 32 = .ok (.pop, 1) := by decide +kernel
theorem dX10_passYearAround_33 : decode cX10_passYearAround 33 = .ok (.return_, 1) := by decide +kernel
set_option maxRecDepth 100000 in
set_option maxHeartbeats 4000000 in
theorem v_X10_passYearAround {l : Launch} {p : Program} {e : Env} {s : State} {mt : MethodId} {args : Array Value} {below : List Frame} {meth : Method} {c : Code} {A : Nat → Prop} {ad0 : Nat → Nat} {G : Gt} {N : Nat} (C : Cx G p s mt args meth c RX10 cX10_passYearAround 3 none "passYearAround" A) (hN : 109 ≤ N) (a : Nat) (ha : isWorld N a) (x1 : Int32) (m : Mem) : V G SX oV l p e s mt args below meth c 3 6 A ad0 N N RX N RX 0 [(0, .ref a), (1, .int x1)] [] m (X10_passYearAround a x1 m) := by
  rw [X10_passYearAround]
  refine V.aload_n (pc := 0) C dX10_passYearAround_0 0 rfl ?_
  refine V.getr (pc := 1) C fl_RX10_22 ha.s ha.k rfl ha.r2 dX10_passYearAround_1 ?_
  refine V.getr (pc := 4) C fl_RX10_98 ha.life.s ha.life.k rfl ha.life.r2 dX10_passYearAround_4 ?_
  refine V.iload_n (pc := 7) C dX10_passYearAround_7 1 rfl ?_
  refine V.iald (pc := 8) C ha.life.s2 ha.life.k2 dX10_passYearAround_8 (fun _ => ?_)
  refine V.lti (fun x_1 _ => ?_)
  refine V.istore_n (pc := 9) C dX10_passYearAround_9 (L2 := [(2, .int x_1), (0, .ref a), (1, .int x1)]) (by decide) rfl ?_
  refine V.aload_n (pc := 10) C dX10_passYearAround_10 1 rfl ?_
  refine V.iload_n (pc := 11) C dX10_passYearAround_11 0 rfl ?_
  refine V.callV (pc := 12) (st := []) C (c_X10_isPerson l hN a ha x_1 m) obI ck_X10_isPerson ml_RX10_35 rfl rfl ha.s ha.k rfl rfl (Nat.le_of_ble_eq_true rfl) ⟨by decide, by decide⟩ dX10_passYearAround_12 (fun r_2 m_3 _ => ?_)
  refine V.if_eq (pc := 15) C dX10_passYearAround_15 27 (by decide) (fun _ => ?_) (fun _ => ?_)
  · refine V.aload_n (pc := 27) C dX10_passYearAround_27 1 rfl ?_
    refine V.iload_n (pc := 28) C dX10_passYearAround_28 2 rfl ?_
    refine V.callV (pc := 29) (st := []) C (c_X10_growOlder l hN a ha x1 m_3) obI ck_X10_growOlder ml_RX10_160 rfl rfl ha.s ha.k rfl rfl (Nat.le_of_ble_eq_true rfl) ⟨by decide, by decide⟩ dX10_passYearAround_29 (fun r_4 m_5 _ => ?_)
    refine V.pop (pc := 32) C dX10_passYearAround_32 rfl ?_
    exact V.vret C dX10_passYearAround_33
  · refine V.aload_n (pc := 18) C dX10_passYearAround_18 1 rfl ?_
    refine V.iload_n (pc := 19) C dX10_passYearAround_19 2 rfl ?_
    refine V.iload_n (pc := 20) C dX10_passYearAround_20 0 rfl ?_
    refine V.callV (pc := 21) (st := []) C (c_X10_passYearOfTwo l hN a ha x1 x_1 m_3) obV ck_X10_passYearOfTwo ml_RX10_166 rfl rfl ha.s ha.k rfl rfl (Nat.le_of_ble_eq_true rfl) ⟨by decide, by decide⟩ dX10_passYearAround_21 (fun r_6 m_7 _ => ?_)
    refine V.goto (pc := 24) C dX10_passYearAround_24 33 (by decide) ?_
    exact V.vret C dX10_passYearAround_33
theorem c_X10_passYearAround (l : Launch) {N : Nat} (hN : 109 ≤ N) (a : Nat) (ha : isWorld N a) (x1 : Int32) (m : Mem) : Ct l yX10_passYearAround cX10_passYearAround 3 none 6 SX oV N N RX RX [.ref a, .int x1] m (X10_passYearAround a x1 m) :=
  Ct.of (own := RX10) (nm := "passYearAround") (by decide) rfl rfl (Nat.le_of_ble_eq_true rfl) (fun _ _ _ _ _ _ _ _ _ _ _ C => v_X10_passYearAround C hN a ha x1 m)
theorem dX10_rarity_0 : decode cX10_rarity 0 = .ok (.aload_n 0, 1) := by decide +kernel
theorem dX10_rarity_1 : decode cX10_rarity 1 = .ok (.getfield 9, 3) := by decide +kernel
theorem dX10_rarity_4 : decode cX10_rarity 4 = .ok (.getfield 26, 3) := by decide +kernel
theorem dX10_rarity_7 : decode cX10_rarity 7 = .ok (.aload_n 0, 1) := by decide +kernel
theorem dX10_rarity_8 : decode cX10_rarity 8 = .ok (.getfield 22, 3) := by decide +kernel
theorem dX10_rarity_11 : decode cX10_rarity 11 = .ok (.getfield 39, 3) := by decide +kernel
theorem dX10_rarity_14 : decode cX10_rarity 14 = .ok (.iload_n 1, 1) := by decide +kernel
theorem dX10_rarity_15 : decode cX10_rarity 15 = .ok (.iaload, 1) := by decide +kernel
theorem dX10_rarity_16 : decode cX10_rarity 16 = .ok (.invokestatic 43, 3) := by decide +kernel
theorem dX10_rarity_19 : decode cX10_rarity 19 = .ok (.isub, 1) := by decide +kernel
theorem dX10_rarity_20 : decode cX10_rarity 20 = .ok (.iconst 1, 1) := by decide +kernel
theorem dX10_rarity_21 : decode cX10_rarity 21 = .ok (.iadd, 1) := by decide +kernel
theorem dX10_rarity_22 : decode cX10_rarity 22 = .ok (.ireturn, 1) := by decide +kernel
set_option maxRecDepth 100000 in
set_option maxHeartbeats 4000000 in
theorem v_X10_rarity {l : Launch} {p : Program} {e : Env} {s : State} {mt : MethodId} {args : Array Value} {below : List Frame} {meth : Method} {c : Code} {A : Nat → Prop} {ad0 : Nat → Nat} {G : Gt} {N : Nat} (C : Cx G p s mt args meth c RX10 cX10_rarity 2 (some .int) "rarity" A) (hN : 109 ≤ N) (a : Nat) (ha : isWorld N a) (x1 : Int32) (m : Mem) : V G SX oI l p e s mt args below meth c 2 2 A ad0 N N RX N RX 0 [(0, .ref a), (1, .int x1)] [] m (X10_rarity a x1 m) := by
  rw [X10_rarity]
  refine V.aload_n (pc := 0) C dX10_rarity_0 0 rfl ?_
  refine V.getr (pc := 1) C fl_RX10_9 ha.s ha.k rfl ha.r0 dX10_rarity_1 ?_
  refine V.geti (pc := 4) C fl_RX10_26 sX2 (kX2 hN) rfl dX10_rarity_4 ?_
  refine V.aload_n (pc := 7) C dX10_rarity_7 0 rfl ?_
  refine V.getr (pc := 8) C fl_RX10_22 ha.s ha.k rfl ha.r2 dX10_rarity_8 ?_
  refine V.getr (pc := 11) C fl_RX10_39 ha.life.s ha.life.k rfl ha.life.r4 dX10_rarity_11 ?_
  refine V.iload_n (pc := 14) C dX10_rarity_14 1 rfl ?_
  refine V.iald (pc := 15) C ha.life.s4 ha.life.k4 dX10_rarity_15 (fun _ => ?_)
  refine V.callS (pc := 16) (st := [.int (gi m 2 1)]) C (c_J6_bitCount_0f7a4 l (gi m ((a + 1) + 4) (ix x1)) m) obI ck_J6_bitCount_0f7a4 ml_RX10_43 rfl rfl (Nat.le_of_ble_eq_true rfl) ⟨by decide, by decide⟩ dX10_rarity_16 (fun r_1 m_2 _ => ?_)
  refine V.isub (pc := 19) C dX10_rarity_19 ?_
  refine V.iconst (pc := 20) C dX10_rarity_20 (v := 1) (by decide) ?_
  refine V.iadd (pc := 21) C dX10_rarity_21 ?_
  exact V.iret C dX10_rarity_22
theorem c_X10_rarity (l : Launch) {N : Nat} (hN : 109 ≤ N) (a : Nat) (ha : isWorld N a) (x1 : Int32) (m : Mem) : Ct l yX10_rarity cX10_rarity 2 (some .int) 2 SX oI N N RX RX [.ref a, .int x1] m (X10_rarity a x1 m) :=
  Ct.of (own := RX10) (nm := "rarity") (by decide) rfl rfl (Nat.le_of_ble_eq_true rfl) (fun _ _ _ _ _ _ _ _ _ _ _ C => v_X10_rarity C hN a ha x1 m)
theorem dX5_become_0 : decode cX5_become 0 = .ok (.aload_n 0, 1) := by decide +kernel
theorem dX5_become_1 : decode cX5_become 1 = .ok (.aload_n 1, 1) := by decide +kernel
theorem dX5_become_2 : decode cX5_become 2 = .ok (.getfield 27, 3) := by decide +kernel
theorem dX5_become_5 : decode cX5_become 5 = .ok (.putfield 27, 3) := by decide +kernel
theorem dX5_become_8 : decode cX5_become 8 = .ok (.aload_n 1, 1) := by decide +kernel
theorem dX5_become_9 : decode cX5_become 9 = .ok (.getfield 9, 3) := by decide +kernel
theorem dX5_become_12 : decode cX5_become 12 = .ok (.iconst 0, 1) := by decide +kernel
theorem dX5_become_13 : decode cX5_become 13 = .ok (.aload_n 0, 1) := by decide +kernel
theorem dX5_become_14 : decode cX5_become 14 = .ok (.getfield 9, 3) := by decide +kernel
theorem dX5_become_17 : decode cX5_become 17 = .ok (.iconst 0, 1) := by decide +kernel
theorem dX5_become_18 : decode cX5_become 18 = .ok (.bipush 8, 2) := by decide +kernel
theorem dX5_become_20 : decode cX5_become 20 = .ok (.invokestatic 31, 3) := by decide +kernel
theorem dX5_become_23 : decode cX5_become 23 = .ok (.aload_n 1, 1) := by decide +kernel
theorem dX5_become_24 : decode cX5_become 24 = .ok (.getfield 15, 3) := by decide +kernel
theorem dX5_become_27 : decode cX5_become 27 = .ok (.iconst 0, 1) := by decide +kernel
theorem dX5_become_28 : decode cX5_become 28 = .ok (.aload_n 0, 1) := by decide +kernel
theorem dX5_become_29 : decode cX5_become 29 = .ok (.getfield 15, 3) := by decide +kernel
theorem dX5_become_32 : decode cX5_become 32 = .ok (.iconst 0, 1) := by decide +kernel
theorem dX5_become_33 : decode cX5_become 33 = .ok (.bipush 8, 2) := by decide +kernel
theorem dX5_become_35 : decode cX5_become 35 = .ok (.invokestatic 31, 3) := by decide +kernel
theorem dX5_become_38 : decode cX5_become 38 = .ok (.aload_n 1, 1) := by decide +kernel
theorem dX5_become_39 : decode cX5_become 39 = .ok (.getfield 18, 3) := by decide +kernel
theorem dX5_become_42 : decode cX5_become 42 = .ok (.iconst 0, 1) := by decide +kernel
theorem dX5_become_43 : decode cX5_become 43 = .ok (.aload_n 0, 1) := by decide +kernel
theorem dX5_become_44 : decode cX5_become 44 = .ok (.getfield 18, 3) := by decide +kernel
theorem dX5_become_47 : decode cX5_become 47 = .ok (.iconst 0, 1) := by decide +kernel
theorem dX5_become_48 : decode cX5_become 48 = .ok (.bipush 8, 2) := by decide +kernel
theorem dX5_become_50 : decode cX5_become 50 = .ok (.invokestatic 31, 3) := by decide +kernel
theorem dX5_become_53 : decode cX5_become 53 = .ok (.aload_n 1, 1) := by decide +kernel
theorem dX5_become_54 : decode cX5_become 54 = .ok (.getfield 21, 3) := by decide +kernel
theorem dX5_become_57 : decode cX5_become 57 = .ok (.iconst 0, 1) := by decide +kernel
theorem dX5_become_58 : decode cX5_become 58 = .ok (.aload_n 0, 1) := by decide +kernel
theorem dX5_become_59 : decode cX5_become 59 = .ok (.getfield 21, 3) := by decide +kernel
theorem dX5_become_62 : decode cX5_become 62 = .ok (.iconst 0, 1) := by decide +kernel
theorem dX5_become_63 : decode cX5_become 63 = .ok (.bipush 14, 2) := by decide +kernel
theorem dX5_become_65 : decode cX5_become 65 = .ok (.invokestatic 31, 3) := by decide +kernel
theorem dX5_become_68 : decode cX5_become 68 = .ok (.aload_n 1, 1) := by decide +kernel
theorem dX5_become_69 : decode cX5_become 69 = .ok (.getfield 24, 3) := by decide +kernel
theorem dX5_become_72 : decode cX5_become 72 = .ok (.iconst 0, 1) := by decide +kernel
theorem dX5_become_73 : decode cX5_become 73 = .ok (.aload_n 0, 1) := by decide +kernel
theorem dX5_become_74 : decode cX5_become 74 = .ok (.getfield 24, 3) := by decide +kernel
theorem dX5_become_77 : decode cX5_become 77 = .ok (.iconst 0, 1) := by decide +kernel
theorem dX5_become_78 : decode cX5_become 78 = .ok (.bipush 112, 2) := by decide +kernel
theorem dX5_become_80 : decode cX5_become 80 = .ok (.invokestatic 31, 3) := by decide +kernel
theorem dX5_become_83 : decode cX5_become 83 = .ok (.return_, 1) := by decide +kernel
set_option maxRecDepth 100000 in
set_option maxHeartbeats 4000000 in
theorem v_X5_become {l : Launch} {p : Program} {e : Env} {s : State} {mt : MethodId} {args : Array Value} {below : List Frame} {meth : Method} {c : Code} {A : Nat → Prop} {ad0 : Nat → Nat} {G : Gt} {N : Nat} (C : Cx G p s mt args meth c RX5 cX5_become 2 none "become" A) (hN : 109 ≤ N) (a : Nat) (ha : isLife N a) (b1 : Nat) (hb1 : isLife N b1) (m : Mem) : V G SX oV l p e s mt args below meth c 2 2 A ad0 N N RX N RX 0 [(0, .ref a), (1, .ref b1)] [] m (X5_become a b1  m) := by
  rw [X5_become]
  refine V.aload_n (pc := 0) C dX5_become_0 0 rfl ?_
  refine V.aload_n (pc := 1) C dX5_become_1 1 rfl ?_
  refine V.geti (pc := 2) C fl_RX5_27 hb1.s hb1.k rfl dX5_become_2 ?_
  refine V.puti (pc := 5) C fp_RX5_27 ha.s ha.k rfl dX5_become_5 ?_
  refine V.ltm (fun m_1 => ?_)
  refine V.aload_n (pc := 8) C dX5_become_8 1 rfl ?_
  refine V.getr (pc := 9) C fl_RX5_9 hb1.s hb1.k rfl hb1.r1 dX5_become_9 ?_
  refine V.iconst (pc := 12) C dX5_become_12 (v := 0) (by decide) ?_
  refine V.aload_n (pc := 13) C dX5_become_13 0 rfl ?_
  refine V.getr (pc := 14) C fl_RX5_9 ha.s ha.k rfl ha.r1 dX5_become_14 ?_
  refine V.iconst (pc := 17) C dX5_become_17 (v := 0) (by decide) ?_
  refine V.bipush (pc := 18) C dX5_become_18 (v := 8) (by decide) ?_
  refine V.copy (pc := 20) (st := []) C hb1.s1 hb1.k1 ha.s1 ha.k1 (by decide) (Nat.le_of_ble_eq_true rfl) ml_RX5_31 acN acS acI dX5_become_20 ?_
  refine V.ltm (fun m_2 => ?_)
  refine V.aload_n (pc := 23) C dX5_become_23 1 rfl ?_
  refine V.getr (pc := 24) C fl_RX5_15 hb1.s hb1.k rfl hb1.r2 dX5_become_24 ?_
  refine V.iconst (pc := 27) C dX5_become_27 (v := 0) (by decide) ?_
  refine V.aload_n (pc := 28) C dX5_become_28 0 rfl ?_
  refine V.getr (pc := 29) C fl_RX5_15 ha.s ha.k rfl ha.r2 dX5_become_29 ?_
  refine V.iconst (pc := 32) C dX5_become_32 (v := 0) (by decide) ?_
  refine V.bipush (pc := 33) C dX5_become_33 (v := 8) (by decide) ?_
  refine V.copy (pc := 35) (st := []) C hb1.s2 hb1.k2 ha.s2 ha.k2 (by decide) (Nat.le_of_ble_eq_true rfl) ml_RX5_31 acN acS acI dX5_become_35 ?_
  refine V.ltm (fun m_3 => ?_)
  refine V.aload_n (pc := 38) C dX5_become_38 1 rfl ?_
  refine V.getr (pc := 39) C fl_RX5_18 hb1.s hb1.k rfl hb1.r3 dX5_become_39 ?_
  refine V.iconst (pc := 42) C dX5_become_42 (v := 0) (by decide) ?_
  refine V.aload_n (pc := 43) C dX5_become_43 0 rfl ?_
  refine V.getr (pc := 44) C fl_RX5_18 ha.s ha.k rfl ha.r3 dX5_become_44 ?_
  refine V.iconst (pc := 47) C dX5_become_47 (v := 0) (by decide) ?_
  refine V.bipush (pc := 48) C dX5_become_48 (v := 8) (by decide) ?_
  refine V.copy (pc := 50) (st := []) C hb1.s3 hb1.k3 ha.s3 ha.k3 (by decide) (Nat.le_of_ble_eq_true rfl) ml_RX5_31 acN acS acI dX5_become_50 ?_
  refine V.ltm (fun m_4 => ?_)
  refine V.aload_n (pc := 53) C dX5_become_53 1 rfl ?_
  refine V.getr (pc := 54) C fl_RX5_21 hb1.s hb1.k rfl hb1.r4 dX5_become_54 ?_
  refine V.iconst (pc := 57) C dX5_become_57 (v := 0) (by decide) ?_
  refine V.aload_n (pc := 58) C dX5_become_58 0 rfl ?_
  refine V.getr (pc := 59) C fl_RX5_21 ha.s ha.k rfl ha.r4 dX5_become_59 ?_
  refine V.iconst (pc := 62) C dX5_become_62 (v := 0) (by decide) ?_
  refine V.bipush (pc := 63) C dX5_become_63 (v := 14) (by decide) ?_
  refine V.copy (pc := 65) (st := []) C hb1.s4 hb1.k4 ha.s4 ha.k4 (by decide) (Nat.le_of_ble_eq_true rfl) ml_RX5_31 acN acS acI dX5_become_65 ?_
  refine V.ltm (fun m_5 => ?_)
  refine V.aload_n (pc := 68) C dX5_become_68 1 rfl ?_
  refine V.getr (pc := 69) C fl_RX5_24 hb1.s hb1.k rfl hb1.r5 dX5_become_69 ?_
  refine V.iconst (pc := 72) C dX5_become_72 (v := 0) (by decide) ?_
  refine V.aload_n (pc := 73) C dX5_become_73 0 rfl ?_
  refine V.getr (pc := 74) C fl_RX5_24 ha.s ha.k rfl ha.r5 dX5_become_74 ?_
  refine V.iconst (pc := 77) C dX5_become_77 (v := 0) (by decide) ?_
  refine V.bipush (pc := 78) C dX5_become_78 (v := 112) (by decide) ?_
  refine V.copy (pc := 80) (st := []) C hb1.s5 hb1.k5 ha.s5 ha.k5 (by decide) (Nat.le_of_ble_eq_true rfl) ml_RX5_31 acN acS acI dX5_become_80 ?_
  refine V.ltm (fun m_6 => ?_)
  exact V.vret C dX5_become_83
theorem c_X5_become (l : Launch) {N : Nat} (hN : 109 ≤ N) (a : Nat) (ha : isLife N a) (b1 : Nat) (hb1 : isLife N b1) (m : Mem) : Ct l yX5_become cX5_become 2 none 2 SX oV N N RX RX [.ref a, .ref b1] m (X5_become a b1  m) :=
  Ct.of (own := RX5) (nm := "become") (by decide) rfl rfl (Nat.le_of_ble_eq_true rfl) (fun _ _ _ _ _ _ _ _ _ _ _ C => v_X5_become C hN a ha b1 hb1  m)
theorem dX2_keep_0 : decode cX2_keep 0 = .ok (.aload_n 0, 1) := by decide +kernel
theorem dX2_keep_1 : decode cX2_keep 1 = .ok (.getfield 18, 3) := by decide +kernel
theorem dX2_keep_4 : decode cX2_keep 4 = .ok (.bipush 8, 2) := by decide +kernel
theorem dX2_keep_6 : decode cX2_keep 6 = .ok (.if_icmp .ne 26, 3) := by decide +kernel
theorem dX2_keep_9 : decode cX2_keep 9 = .ok (.aload_n 0, 1) := by decide +kernel
theorem dX2_keep_10 : decode cX2_keep 10 = .ok (.aload_n 0, 1) := by decide +kernel
theorem dX2_keep_11 : decode cX2_keep 11 = .ok (.getfield 22, 3) := by decide +kernel
theorem dX2_keep_14 : decode cX2_keep 14 = .ok (.iconst 1, 1) := by decide +kernel
theorem dX2_keep_15 : decode cX2_keep 15 = .ok (.iadd, 1) := by decide +kernel
theorem dX2_keep_16 : decode cX2_keep 16 = .ok (.bipush 8, 2) := by decide +kernel
theorem dX2_keep_18 : decode cX2_keep 18 = .ok (.irem, 1) := by decide +kernel
theorem dX2_keep_19 : decode cX2_keep 19 = .ok (.putfield 22, 3) := by decide +kernel
theorem dX2_keep_22 : decode cX2_keep 22 = .ok (.aload_n 0, 1) := by decide +kernel
theorem dX2_keep_23 : decode cX2_keep 23 = .ok (.dup, 1) := by decide +kernel
theorem dX2_keep_24 : decode cX2_keep 24 = .ok (.getfield 18, 3) := by decide +kernel
theorem dX2_keep_27 : decode cX2_keep 27 = .ok (.iconst 1, 1) := by decide +kernel
theorem dX2_keep_28 : decode cX2_keep 28 = .ok (.isub, 1) := by decide +kernel
theorem dX2_keep_29 : decode cX2_keep 29 = .ok (.putfield 18, 3) := by decide +kernel
theorem dX2_keep_32 : decode cX2_keep 32 = .ok (.aload_n 0, 1) := by decide +kernel
theorem dX2_keep_33 : decode cX2_keep 33 = .ok (.getfield 11, 3) := by decide +kernel
theorem dX2_keep_36 : decode cX2_keep 36 = .ok (.aload_n 0, 1) := by decide +kernel
theorem dX2_keep_37 : decode cX2_keep 37 = .ok (.getfield 22, 3) := by decide +kernel
theorem dX2_keep_40 : decode cX2_keep 40 = .ok (.aload_n 0, 1) := by decide +kernel
theorem dX2_keep_41 : decode cX2_keep 41 = .ok (.getfield 18, 3) := by decide +kernel
theorem dX2_keep_44 : decode cX2_keep 44 = .ok (.iadd, 1) := by decide +kernel
theorem dX2_keep_45 : decode cX2_keep 45 = .ok (.bipush 8, 2) := by decide +kernel
theorem dX2_keep_47 : decode cX2_keep 47 = .ok (.irem, 1) := by decide +kernel
theorem dX2_keep_48 : decode cX2_keep 48 = .ok (.aaload, 1) := by decide +kernel
theorem dX2_keep_49 : decode cX2_keep 49 = .ok (.aload_n 1, 1) := by decide +kernel
theorem dX2_keep_50 : decode cX2_keep 50 = .ok (.invokevirtual 25, 3) := by decide +kernel
theorem dX2_keep_53 : decode cX2_keep 53 = .ok (.aload_n 0, 1) := by decide +kernel
theorem dX2_keep_54 : decode cX2_keep 54 = .ok (.dup, 1) := by decide +kernel
theorem dX2_keep_55 : decode cX2_keep 55 = .ok (.getfield 18, 3) := by decide +kernel
theorem dX2_keep_58 : decode cX2_keep 58 = .ok (.iconst 1, 1) := by decide +kernel
theorem dX2_keep_59 : decode cX2_keep 59 = .ok (.iadd, 1) := by decide +kernel
theorem dX2_keep_60 : decode cX2_keep 60 = .ok (.putfield 18, 3) := by decide +kernel
theorem dX2_keep_63 : decode cX2_keep 63 = .ok (.return_, 1) := by decide +kernel
set_option maxRecDepth 100000 in
set_option maxHeartbeats 4000000 in
theorem v_X2_keep_b32 {l : Launch} {p : Program} {e : Env} {s : State} {mt : MethodId} {args : Array Value} {below : List Frame} {meth : Method} {c : Code} {A : Nat → Prop} {ad0 : Nat → Nat} {G : Gt} {N : Nat} (C : Cx G p s mt args meth c RX2 cX2_keep 2 none "keep" A) (hN : 109 ≤ N) (b1 : Nat) (hb1 : isLife N b1) (m : Mem) : V G SX oV l p e s mt args below meth c 2 3 A ad0 N N RX N RX 32 [(0, .ref 40), (1, .ref b1)] [] m (X2_keep_b32 b1  m) := by
  rw [X2_keep_b32]
  refine V.aload_n (pc := 32) C dX2_keep_32 0 rfl ?_
  refine V.getr (pc := 33) C fl_RX2_11 sX40 (kX40 hN) rfl rX40_0 dX2_keep_33 ?_
  refine V.aload_n (pc := 36) C dX2_keep_36 0 rfl ?_
  refine V.geti (pc := 37) C fl_RX2_22 sX40 (kX40 hN) rfl dX2_keep_37 ?_
  refine V.aload_n (pc := 40) C dX2_keep_40 0 rfl ?_
  refine V.geti (pc := 41) C fl_RX2_18 sX40 (kX40 hN) rfl dX2_keep_41 ?_
  refine V.iadd (pc := 44) C dX2_keep_44 ?_
  refine V.bipush (pc := 45) C dX2_keep_45 (v := 8) (by decide) ?_
  refine V.irem (pc := 47) C dX2_keep_47 (by decide) ?_
  refine V.aald (pc := 48) (f := fun j => 42 + 6 * j) C sX41 (Or.inl rfl) (kX41 hN) rPast dX2_keep_48 (fun h_2 => ?_)
  refine V.ltr (fun b_1 eb_1 => ?_)
  have hb_1 : isLife N b_1 := by rw [eb_1]; exact lifePast hN h_2
  refine V.aload_n (pc := 49) C dX2_keep_49 1 rfl ?_
  refine V.callV (pc := 50) (st := []) C (c_X5_become l hN b_1 hb_1 b1 hb1 m) obV ck_X5_become ml_RX2_25 rfl rfl hb_1.s hb_1.k rfl rfl (Nat.le_of_ble_eq_true rfl) ⟨by decide, by decide⟩ dX2_keep_50 (fun r_3 m_4 _ => ?_)
  refine V.aload_n (pc := 53) C dX2_keep_53 0 rfl ?_
  refine V.dup (pc := 54) C dX2_keep_54 rfl ?_
  refine V.geti (pc := 55) C fl_RX2_18 sX40 (kX40 hN) rfl dX2_keep_55 ?_
  refine V.iconst (pc := 58) C dX2_keep_58 (v := 1) (by decide) ?_
  refine V.iadd (pc := 59) C dX2_keep_59 ?_
  refine V.puti (pc := 60) C fp_RX2_18 sX40 (kX40 hN) rfl dX2_keep_60 ?_
  refine V.ltm (fun m_5 => ?_)
  exact V.vret C dX2_keep_63
set_option maxRecDepth 100000 in
set_option maxHeartbeats 4000000 in
theorem v_X2_keep {l : Launch} {p : Program} {e : Env} {s : State} {mt : MethodId} {args : Array Value} {below : List Frame} {meth : Method} {c : Code} {A : Nat → Prop} {ad0 : Nat → Nat} {G : Gt} {N : Nat} (C : Cx G p s mt args meth c RX2 cX2_keep 2 none "keep" A) (hN : 109 ≤ N) (b1 : Nat) (hb1 : isLife N b1) (m : Mem) : V G SX oV l p e s mt args below meth c 2 3 A ad0 N N RX N RX 0 [(0, .ref 40), (1, .ref b1)] [] m (X2_keep b1  m) := by
  rw [X2_keep]
  refine V.aload_n (pc := 0) C dX2_keep_0 0 rfl ?_
  refine V.geti (pc := 1) C fl_RX2_18 sX40 (kX40 hN) rfl dX2_keep_1 ?_
  refine V.bipush (pc := 4) C dX2_keep_4 (v := 8) (by decide) ?_
  refine V.icmp_ne (pc := 6) C dX2_keep_6 32 (by decide) (fun _ => ?_) (fun _ => ?_)
  · refine V.wk [0, 1] rfl ?_
    exact v_X2_keep_b32 C hN b1 hb1  m
  · refine V.aload_n (pc := 9) C dX2_keep_9 0 rfl ?_
    refine V.aload_n (pc := 10) C dX2_keep_10 0 rfl ?_
    refine V.geti (pc := 11) C fl_RX2_22 sX40 (kX40 hN) rfl dX2_keep_11 ?_
    refine V.iconst (pc := 14) C dX2_keep_14 (v := 1) (by decide) ?_
    refine V.iadd (pc := 15) C dX2_keep_15 ?_
    refine V.bipush (pc := 16) C dX2_keep_16 (v := 8) (by decide) ?_
    refine V.irem (pc := 18) C dX2_keep_18 (by decide) ?_
    refine V.puti (pc := 19) C fp_RX2_22 sX40 (kX40 hN) rfl dX2_keep_19 ?_
    refine V.ltm (fun m_6 => ?_)
    refine V.aload_n (pc := 22) C dX2_keep_22 0 rfl ?_
    refine V.dup (pc := 23) C dX2_keep_23 rfl ?_
    refine V.geti (pc := 24) C fl_RX2_18 sX40 (kX40 hN) rfl dX2_keep_24 ?_
    refine V.iconst (pc := 27) C dX2_keep_27 (v := 1) (by decide) ?_
    refine V.isub (pc := 28) C dX2_keep_28 ?_
    refine V.puti (pc := 29) C fp_RX2_18 sX40 (kX40 hN) rfl dX2_keep_29 ?_
    refine V.ltm (fun m_7 => ?_)
    refine V.wk [0, 1] rfl ?_
    exact v_X2_keep_b32 C hN b1 hb1  m_7
theorem c_X2_keep (l : Launch) {N : Nat} (hN : 109 ≤ N) (b1 : Nat) (hb1 : isLife N b1) (m : Mem) : Ct l yX2_keep cX2_keep 2 none 3 SX oV N N RX RX [.ref 40, .ref b1] m (X2_keep b1  m) :=
  Ct.of (own := RX2) (nm := "keep") (by decide) rfl rfl (Nat.le_of_ble_eq_true rfl) (fun _ _ _ _ _ _ _ _ _ _ _ C => v_X2_keep C hN b1 hb1  m)
theorem dX11_acceptTrial_0 : decode cX11_acceptTrial 0 = .ok (.iload_n 1, 1) := by decide +kernel
theorem dX11_acceptTrial_1 : decode cX11_acceptTrial 1 = .ok (.ifCond .le 34, 3) := by decide +kernel
theorem dX11_acceptTrial_4 : decode cX11_acceptTrial 4 = .ok (.aload_n 0, 1) := by decide +kernel
theorem dX11_acceptTrial_5 : decode cX11_acceptTrial 5 = .ok (.getfield 57, 3) := by decide +kernel
theorem dX11_acceptTrial_8 : decode cX11_acceptTrial 8 = .ok (.aload_n 0, 1) := by decide +kernel
theorem dX11_acceptTrial_9 : decode cX11_acceptTrial 9 = .ok (.getfield 38, 3) := by decide +kernel
theorem dX11_acceptTrial_12 : decode cX11_acceptTrial 12 = .ok (.getfield 108, 3) := by decide +kernel
theorem dX11_acceptTrial_15 : decode cX11_acceptTrial 15 = .ok (.invokevirtual 188, 3) := by decide +kernel
theorem dX11_acceptTrial_18 : decode cX11_acceptTrial 18 = .ok (.aload_n 0, 1) := by decide +kernel
theorem dX11_acceptTrial_19 : decode cX11_acceptTrial 19 = .ok (.getfield 38, 3) := by decide +kernel
theorem dX11_acceptTrial_22 : decode cX11_acceptTrial 22 = .ok (.getfield 108, 3) := by decide +kernel
theorem dX11_acceptTrial_25 : decode cX11_acceptTrial 25 = .ok (.aload_n 0, 1) := by decide +kernel
theorem dX11_acceptTrial_26 : decode cX11_acceptTrial 26 = .ok (.getfield 42, 3) := by decide +kernel
theorem dX11_acceptTrial_29 : decode cX11_acceptTrial 29 = .ok (.getfield 108, 3) := by decide +kernel
theorem dX11_acceptTrial_32 : decode cX11_acceptTrial 32 = .ok (.invokevirtual 111, 3) := by decide +kernel
theorem dX11_acceptTrial_35 : decode cX11_acceptTrial 35 = .ok (.return_, 1) := by decide +kernel
set_option maxRecDepth 100000 in
set_option maxHeartbeats 4000000 in
theorem v_X11_acceptTrial {l : Launch} {p : Program} {e : Env} {s : State} {mt : MethodId} {args : Array Value} {below : List Frame} {meth : Method} {c : Code} {A : Nat → Prop} {ad0 : Nat → Nat} {G : Gt} {N : Nat} (C : Cx G p s mt args meth c RX11 cX11_acceptTrial 2 none "acceptTrial" A) (hN : 109 ≤ N) (x1 : Int32) (m : Mem) : V G SX oV l p e s mt args below meth c 2 4 A ad0 N N RX N RX 0 [(0, .ref 0), (1, .int x1)] [] m (X11_acceptTrial  x1 m) := by
  rw [X11_acceptTrial]
  refine V.iload_n (pc := 0) C dX11_acceptTrial_0 1 rfl ?_
  refine V.if_le (pc := 1) C dX11_acceptTrial_1 35 (by decide) (fun _ => ?_) (fun _ => ?_)
  · exact V.vret C dX11_acceptTrial_35
  · refine V.aload_n (pc := 4) C dX11_acceptTrial_4 0 rfl ?_
    refine V.getr (pc := 5) C fl_RX11_57 sX0 (kX0 hN) rfl rX0_9 dX11_acceptTrial_5 ?_
    refine V.aload_n (pc := 8) C dX11_acceptTrial_8 0 rfl ?_
    refine V.getr (pc := 9) C fl_RX11_38 sX0 (kX0 hN) rfl rX0_6 dX11_acceptTrial_9 ?_
    refine V.getr (pc := 12) C fl_RX11_108 sX25 (kX25 hN) rfl rX25_2 dX11_acceptTrial_12 ?_
    refine V.callV (pc := 15) (st := []) C (c_X2_keep l hN 26 (iX26 hN) m) obV ck_X2_keep ml_RX11_188 rfl rfl sX40 (kX40 hN) rfl rfl (Nat.le_of_ble_eq_true rfl) ⟨by decide, by decide⟩ dX11_acceptTrial_15 (fun r_1 m_2 _ => ?_)
    refine V.aload_n (pc := 18) C dX11_acceptTrial_18 0 rfl ?_
    refine V.getr (pc := 19) C fl_RX11_38 sX0 (kX0 hN) rfl rX0_6 dX11_acceptTrial_19 ?_
    refine V.getr (pc := 22) C fl_RX11_108 sX25 (kX25 hN) rfl rX25_2 dX11_acceptTrial_22 ?_
    refine V.aload_n (pc := 25) C dX11_acceptTrial_25 0 rfl ?_
    refine V.getr (pc := 26) C fl_RX11_42 sX0 (kX0 hN) rfl rX0_7 dX11_acceptTrial_26 ?_
    refine V.getr (pc := 29) C fl_RX11_108 sX32 (kX32 hN) rfl rX32_2 dX11_acceptTrial_29 ?_
    refine V.callV (pc := 32) (st := []) C (c_X5_become l hN 26 (iX26 hN) 33 (iX33 hN) m_2) obV ck_X5_become ml_RX11_111 rfl rfl sX26 (kX26 hN) rfl rfl (Nat.le_of_ble_eq_true rfl) ⟨by decide, by decide⟩ dX11_acceptTrial_32 (fun r_3 m_4 _ => ?_)
    exact V.vret C dX11_acceptTrial_35
theorem c_X11_acceptTrial (l : Launch) {N : Nat} (hN : 109 ≤ N) (x1 : Int32) (m : Mem) : Ct l yX11_acceptTrial cX11_acceptTrial 2 none 4 SX oV N N RX RX [.ref 0, .int x1] m (X11_acceptTrial  x1 m) :=
  Ct.of (own := RX11) (nm := "acceptTrial") (by decide) rfl rfl (Nat.le_of_ble_eq_true rfl) (fun _ _ _ _ _ _ _ _ _ _ _ C => v_X11_acceptTrial C hN x1 m)
theorem dX8_traitsBut_0 : decode cX8_traitsBut 0 = .ok (.iconst 0, 1) := by decide +kernel
theorem dX8_traitsBut_1 : decode cX8_traitsBut 1 = .ok (.istore_n 2, 1) := by decide +kernel
theorem dX8_traitsBut_2 : decode cX8_traitsBut 2 = .ok (.iconst 0, 1) := by decide +kernel
theorem dX8_traitsBut_3 : decode cX8_traitsBut 3 = .ok (.istore_n 3, 1) := by decide +kernel
theorem dX8_traitsBut_4 : decode cX8_traitsBut 4 = .ok (.iload_n 3, 1) := by decide +kernel
theorem dX8_traitsBut_5 : decode cX8_traitsBut 5 = .ok (.aload_n 0, 1) := by decide +kernel
theorem dX8_traitsBut_6 : decode cX8_traitsBut 6 = .ok (.getfield 41, 3) := by decide +kernel
theorem dX8_traitsBut_9 : decode cX8_traitsBut 9 = .ok (.if_icmp .ge 23, 3) := by decide +kernel
theorem dX8_traitsBut_12 : decode cX8_traitsBut 12 = .ok (.iload_n 3, 1) := by decide +kernel
theorem dX8_traitsBut_13 : decode cX8_traitsBut 13 = .ok (.iload_n 1, 1) := by decide +kernel
theorem dX8_traitsBut_14 : decode cX8_traitsBut 14 = .ok (.if_icmp .eq 12, 3) := by decide +kernel
theorem dX8_traitsBut_17 : decode cX8_traitsBut 17 = .ok (.iload_n 2, 1) := by decide +kernel
theorem dX8_traitsBut_18 : decode cX8_traitsBut 18 = .ok (.aload_n 0, 1) := by decide +kernel
theorem dX8_traitsBut_19 : decode cX8_traitsBut 19 = .ok (.getfield 15, 3) := by decide +kernel
theorem dX8_traitsBut_22 : decode cX8_traitsBut 22 = .ok (.iload_n 3, 1) := by decide +kernel
theorem dX8_traitsBut_23 : decode cX8_traitsBut 23 = .ok (.iaload, 1) := by decide +kernel
theorem dX8_traitsBut_24 : decode cX8_traitsBut 24 = .ok (.ior, 1) := by decide +kernel
theorem dX8_traitsBut_25 : decode cX8_traitsBut 25 = .ok (.istore_n 2, 1) := by decide +kernel
theorem dX8_traitsBut_26 : decode cX8_traitsBut 26 = .ok (.iinc 3 1, 3) := by decide +kernel
theorem dX8_traitsBut_29 : decode cX8_traitsBut 29 = .ok (.goto (-25), 3) := by decide +kernel
theorem dX8_traitsBut_32 : decode cX8_traitsBut 32 = .ok (.iload_n 2, 1) := by decide +kernel
theorem dX8_traitsBut_33 : decode cX8_traitsBut 33 = .ok (.ireturn, 1) := by decide +kernel
set_option maxRecDepth 100000 in
set_option maxHeartbeats 4000000 in
theorem v_X8_traitsBut_b4 {l : Launch} {p : Program} {e : Env} {s : State} {mt : MethodId} {args : Array Value} {below : List Frame} {meth : Method} {c : Code} {A : Nat → Prop} {ad0 : Nat → Nat} {G : Gt} {N : Nat} (C : Cx G p s mt args meth c RX8 cX8_traitsBut 4 (some .int) "traitsBut" A) (hN : 109 ≤ N) (a : Nat) (ha : isRules N a) : ∀ (n : Nat) (y1 : Int32) (y2 : Int32) (y3 : Int32) (m : Mem), V G SX oI l p e s mt args below meth c 4 1 A ad0 N N RX N RX 4 [(0, .ref a), (1, .int y1), (2, .int y2), (3, .int y3)] [] m (X8_traitsBut_b4 a n y1 y2 y3 m) := by
  intro n
  induction n with
  | zero =>
    intro y1 y2 y3 m
    rw [X8_traitsBut_b4]
    exact V.nil
  | succ n ih =>
    intro y1 y2 y3 m
    rw [X8_traitsBut_b4]
    refine V.iload_n (pc := 4) C dX8_traitsBut_4 3 rfl ?_
    refine V.aload_n (pc := 5) C dX8_traitsBut_5 0 rfl ?_
    refine V.geti (pc := 6) C fl_RX8_41 ha.s ha.k rfl dX8_traitsBut_6 ?_
    refine V.icmp_ge (pc := 9) C dX8_traitsBut_9 32 (by decide) (fun _ => ?_) (fun _ => ?_)
    · refine V.iload_n (pc := 32) C dX8_traitsBut_32 2 rfl ?_
      exact V.iret C dX8_traitsBut_33
    · refine V.iload_n (pc := 12) C dX8_traitsBut_12 3 rfl ?_
      refine V.iload_n (pc := 13) C dX8_traitsBut_13 1 rfl ?_
      refine V.icmp_eq (pc := 14) C dX8_traitsBut_14 26 (by decide) (fun _ => ?_) (fun _ => ?_)
      · refine V.iinc (pc := 26) C dX8_traitsBut_26 (v := 1) (L2 := [(3, .int (y3 + 1)), (0, .ref a), (1, .int y1), (2, .int y2)]) 3 rfl (by decide) (by decide) rfl ?_
        refine V.goto (pc := 29) C dX8_traitsBut_29 4 (by decide) ?_
        refine V.wk [1, 2, 3, 0] rfl ?_
        exact ih y1 y2 (y3 + 1) m
      · refine V.iload_n (pc := 17) C dX8_traitsBut_17 2 rfl ?_
        refine V.aload_n (pc := 18) C dX8_traitsBut_18 0 rfl ?_
        refine V.getr (pc := 19) C fl_RX8_15 ha.s ha.k rfl ha.r6 dX8_traitsBut_19 ?_
        refine V.iload_n (pc := 22) C dX8_traitsBut_22 3 rfl ?_
        refine V.iald (pc := 23) C ha.s2 ha.k2 dX8_traitsBut_23 (fun _ => ?_)
        refine V.ior (pc := 24) C dX8_traitsBut_24 ?_
        refine V.lti (fun x_1 _ => ?_)
        refine V.istore_n (pc := 25) C dX8_traitsBut_25 (L2 := [(2, .int x_1), (0, .ref a), (1, .int y1), (3, .int y3)]) (by decide) rfl ?_
        refine V.iinc (pc := 26) C dX8_traitsBut_26 (v := 1) (L2 := [(3, .int (y3 + 1)), (2, .int x_1), (0, .ref a), (1, .int y1)]) 3 rfl (by decide) (by decide) rfl ?_
        refine V.goto (pc := 29) C dX8_traitsBut_29 4 (by decide) ?_
        refine V.wk [2, 3, 1, 0] rfl ?_
        exact ih y1 x_1 (y3 + 1) m
set_option maxRecDepth 100000 in
set_option maxHeartbeats 4000000 in
theorem v_X8_traitsBut {l : Launch} {p : Program} {e : Env} {s : State} {mt : MethodId} {args : Array Value} {below : List Frame} {meth : Method} {c : Code} {A : Nat → Prop} {ad0 : Nat → Nat} {G : Gt} {N : Nat} (C : Cx G p s mt args meth c RX8 cX8_traitsBut 4 (some .int) "traitsBut" A) (hN : 109 ≤ N) (a : Nat) (ha : isRules N a) (x1 : Int32) (m : Mem) : V G SX oI l p e s mt args below meth c 4 1 A ad0 N N RX N RX 0 [(0, .ref a), (1, .int x1)] [] m (X8_traitsBut a x1 m) := by
  rw [X8_traitsBut]
  refine V.iconst (pc := 0) C dX8_traitsBut_0 (v := 0) (by decide) ?_
  refine V.istore_n (pc := 1) C dX8_traitsBut_1 (L2 := [(2, .int 0), (0, .ref a), (1, .int x1)]) (by decide) rfl ?_
  refine V.iconst (pc := 2) C dX8_traitsBut_2 (v := 0) (by decide) ?_
  refine V.istore_n (pc := 3) C dX8_traitsBut_3 (L2 := [(3, .int 0), (2, .int 0), (0, .ref a), (1, .int x1)]) (by decide) rfl ?_
  refine V.wk [2, 3, 1, 0] rfl ?_
  exact v_X8_traitsBut_b4 C hN a ha FU x1 0 0 m
theorem c_X8_traitsBut (l : Launch) {N : Nat} (hN : 109 ≤ N) (a : Nat) (ha : isRules N a) (x1 : Int32) (m : Mem) : Ct l yX8_traitsBut cX8_traitsBut 4 (some .int) 1 SX oI N N RX RX [.ref a, .int x1] m (X8_traitsBut a x1 m) :=
  Ct.of (own := RX8) (nm := "traitsBut") (by decide) rfl rfl (Nat.le_of_ble_eq_true rfl) (fun _ _ _ _ _ _ _ _ _ _ _ C => v_X8_traitsBut C hN a ha x1 m)
theorem dX11_angry_0 : decode cX11_angry 0 = .ok (.iconst 0, 1) := by decide +kernel
theorem dX11_angry_1 : decode cX11_angry 1 = .ok (.istore_n 1, 1) := by decide +kernel
theorem dX11_angry_2 : decode cX11_angry 2 = .ok (.iconst 0, 1) := by decide +kernel
theorem dX11_angry_3 : decode cX11_angry 3 = .ok (.istore_n 2, 1) := by decide +kernel
theorem dX11_angry_4 : decode cX11_angry 4 = .ok (.iload_n 2, 1) := by decide +kernel
theorem dX11_angry_5 : decode cX11_angry 5 = .ok (.aload_n 0, 1) := by decide +kernel
theorem dX11_angry_6 : decode cX11_angry 6 = .ok (.getfield 16, 3) := by decide +kernel
theorem dX11_angry_9 : decode cX11_angry 9 = .ok (.getfield 249, 3) := by decide +kernel
theorem dX11_angry_12 : decode cX11_angry 12 = .ok (.if_icmp .ge 39, 3) := by decide +kernel
theorem dX11_angry_15 : decode cX11_angry 15 = .ok (.aload_n 0, 1) := by decide +kernel
theorem dX11_angry_16 : decode cX11_angry 16 = .ok (.getfield 38, 3) := by decide +kernel
theorem dX11_angry_19 : decode cX11_angry 19 = .ok (.getfield 108, 3) := by decide +kernel
theorem dX11_angry_22 : decode cX11_angry 22 = .ok (.getfield 134, 3) := by decide +kernel
theorem dX11_angry_25 : decode cX11_angry 25 = .ok (.iload_n 2, 1) := by decide +kernel
theorem dX11_angry_26 : decode cX11_angry 26 = .ok (.iaload, 1) := by decide +kernel
theorem dX11_angry_27 : decode cX11_angry 27 = .ok (.aload_n 0, 1) := by decide +kernel
theorem dX11_angry_28 : decode cX11_angry 28 = .ok (.getfield 16, 3) := by decide +kernel
theorem dX11_angry_31 : decode cX11_angry 31 = .ok (.iload_n 2, 1) := by decide +kernel
theorem dX11_angry_32 : decode cX11_angry 32 = .ok (.invokevirtual 338, 3) := by decide +kernel
theorem dX11_angry_35 : decode cX11_angry 35 = .ok (.iand, 1) := by decide +kernel
theorem dX11_angry_36 : decode cX11_angry 36 = .ok (.ifCond .eq 9, 3) := by decide +kernel
theorem dX11_angry_39 : decode cX11_angry 39 = .ok (.iload_n 1, 1) := by decide +kernel
theorem dX11_angry_40 : decode cX11_angry 40 = .ok (.iconst 1, 1) := by decide +kernel
theorem dX11_angry_41 : decode cX11_angry 41 = .ok (.iload_n 2, 1) := by decide +kernel
theorem dX11_angry_42 : decode cX11_angry 42 = .ok (.ishl, 1) := by decide +kernel
theorem dX11_angry_43 : decode cX11_angry 43 = .ok (.ior, 1) := by decide +kernel
theorem dX11_angry_44 : decode cX11_angry 44 = .ok (.istore_n 1, 1) := by decide +kernel
theorem dX11_angry_45 : decode cX11_angry 45 = .ok (.iinc 2 1, 3) := by decide +kernel
theorem dX11_angry_48 : decode cX11_angry 48 = .ok (.goto (-44), 3) := by decide +kernel
theorem dX11_angry_51 : decode cX11_angry 51 = .ok (.iload_n 1, 1) := by decide +kernel
theorem dX11_angry_52 : decode cX11_angry 52 = .ok (.ireturn, 1) := by decide +kernel
set_option maxRecDepth 100000 in
set_option maxHeartbeats 4000000 in
theorem v_X11_angry_b4 {l : Launch} {p : Program} {e : Env} {s : State} {mt : MethodId} {args : Array Value} {below : List Frame} {meth : Method} {c : Code} {A : Nat → Prop} {ad0 : Nat → Nat} {G : Gt} {N : Nat} (C : Cx G p s mt args meth c RX11 cX11_angry 3 (some .int) "angry" A) (hN : 109 ≤ N) : ∀ (n : Nat) (y1 : Int32) (y2 : Int32) (m : Mem), V G SX oI l p e s mt args below meth c 3 2 A ad0 N N RX N RX 4 [(0, .ref 0), (1, .int y1), (2, .int y2)] [] m (X11_angry_b4  n y1 y2 m) := by
  intro n
  induction n with
  | zero =>
    intro y1 y2 m
    rw [X11_angry_b4]
    exact V.nil
  | succ n ih =>
    intro y1 y2 m
    rw [X11_angry_b4]
    refine V.iload_n (pc := 4) C dX11_angry_4 2 rfl ?_
    refine V.aload_n (pc := 5) C dX11_angry_5 0 rfl ?_
    refine V.getr (pc := 6) C fl_RX11_16 sX0 (kX0 hN) rfl rX0_3 dX11_angry_6 ?_
    refine V.geti (pc := 9) C fl_RX11_249 sX2 (kX2 hN) rfl dX11_angry_9 ?_
    refine V.icmp_ge (pc := 12) C dX11_angry_12 51 (by decide) (fun _ => ?_) (fun _ => ?_)
    · refine V.iload_n (pc := 51) C dX11_angry_51 1 rfl ?_
      exact V.iret C dX11_angry_52
    · refine V.aload_n (pc := 15) C dX11_angry_15 0 rfl ?_
      refine V.getr (pc := 16) C fl_RX11_38 sX0 (kX0 hN) rfl rX0_6 dX11_angry_16 ?_
      refine V.getr (pc := 19) C fl_RX11_108 sX25 (kX25 hN) rfl rX25_2 dX11_angry_19 ?_
      refine V.getr (pc := 22) C fl_RX11_134 sX26 (kX26 hN) rfl rX26_3 dX11_angry_22 ?_
      refine V.iload_n (pc := 25) C dX11_angry_25 2 rfl ?_
      refine V.iald (pc := 26) C sX29 (kX29 hN) dX11_angry_26 (fun _ => ?_)
      refine V.aload_n (pc := 27) C dX11_angry_27 0 rfl ?_
      refine V.getr (pc := 28) C fl_RX11_16 sX0 (kX0 hN) rfl rX0_3 dX11_angry_28 ?_
      refine V.iload_n (pc := 31) C dX11_angry_31 2 rfl ?_
      refine V.callV (pc := 32) (st := [.int (gi m 29 (ix y2))]) C (c_X8_traitsBut l hN 2 (iX2 hN) y2 m) obI ck_X8_traitsBut ml_RX11_338 rfl rfl sX2 (kX2 hN) rfl rfl (Nat.le_of_ble_eq_true rfl) ⟨by decide, by decide⟩ dX11_angry_32 (fun r_1 m_2 _ => ?_)
      refine V.iand (pc := 35) C dX11_angry_35 ?_
      refine V.if_eq (pc := 36) C dX11_angry_36 45 (by decide) (fun _ => ?_) (fun _ => ?_)
      · refine V.iinc (pc := 45) C dX11_angry_45 (v := 1) (L2 := [(2, .int (y2 + 1)), (0, .ref 0), (1, .int y1)]) 2 rfl (by decide) (by decide) rfl ?_
        refine V.goto (pc := 48) C dX11_angry_48 4 (by decide) ?_
        refine V.wk [1, 2, 0] rfl ?_
        exact ih y1 (y2 + 1) m_2
      · refine V.iload_n (pc := 39) C dX11_angry_39 1 rfl ?_
        refine V.iconst (pc := 40) C dX11_angry_40 (v := 1) (by decide) ?_
        refine V.iload_n (pc := 41) C dX11_angry_41 2 rfl ?_
        refine V.ishl (pc := 42) C dX11_angry_42 ?_
        refine V.ior (pc := 43) C dX11_angry_43 ?_
        refine V.lti (fun x_3 _ => ?_)
        refine V.istore_n (pc := 44) C dX11_angry_44 (L2 := [(1, .int x_3), (0, .ref 0), (2, .int y2)]) (by decide) rfl ?_
        refine V.iinc (pc := 45) C dX11_angry_45 (v := 1) (L2 := [(2, .int (y2 + 1)), (1, .int x_3), (0, .ref 0)]) 2 rfl (by decide) (by decide) rfl ?_
        refine V.goto (pc := 48) C dX11_angry_48 4 (by decide) ?_
        refine V.wk [2, 1, 0] rfl ?_
        exact ih x_3 (y2 + 1) m_2
set_option maxRecDepth 100000 in
set_option maxHeartbeats 4000000 in
theorem v_X11_angry {l : Launch} {p : Program} {e : Env} {s : State} {mt : MethodId} {args : Array Value} {below : List Frame} {meth : Method} {c : Code} {A : Nat → Prop} {ad0 : Nat → Nat} {G : Gt} {N : Nat} (C : Cx G p s mt args meth c RX11 cX11_angry 3 (some .int) "angry" A) (hN : 109 ≤ N) (m : Mem) : V G SX oI l p e s mt args below meth c 3 2 A ad0 N N RX N RX 0 [(0, .ref 0)] [] m (X11_angry   m) := by
  rw [X11_angry]
  refine V.iconst (pc := 0) C dX11_angry_0 (v := 0) (by decide) ?_
  refine V.istore_n (pc := 1) C dX11_angry_1 (L2 := [(1, .int 0), (0, .ref 0)]) (by decide) rfl ?_
  refine V.iconst (pc := 2) C dX11_angry_2 (v := 0) (by decide) ?_
  refine V.istore_n (pc := 3) C dX11_angry_3 (L2 := [(2, .int 0), (1, .int 0), (0, .ref 0)]) (by decide) rfl ?_
  refine V.wk [2, 1, 0] rfl ?_
  exact v_X11_angry_b4 C hN FU 0 0 m
theorem c_X11_angry (l : Launch) {N : Nat} (hN : 109 ≤ N) (m : Mem) : Ct l yX11_angry cX11_angry 3 (some .int) 2 SX oI N N RX RX [.ref 0] m (X11_angry   m) :=
  Ct.of (own := RX11) (nm := "angry") (by decide) rfl rfl (Nat.le_of_ble_eq_true rfl) (fun _ _ _ _ _ _ _ _ _ _ _ C => v_X11_angry C hN  m)
theorem dX11_isEither_0 : decode cX11_isEither 0 = .ok (.iload_n 0, 1) := by decide +kernel
theorem dX11_isEither_1 : decode cX11_isEither 1 = .ok (.ifCond .eq 8, 3) := by decide +kernel
theorem dX11_isEither_4 : decode cX11_isEither 4 = .ok (.iload_n 0, 1) := by decide +kernel
theorem dX11_isEither_5 : decode cX11_isEither 5 = .ok (.iconst 1, 1) := by decide +kernel
theorem dX11_isEither_6 : decode cX11_isEither 6 = .ok (.if_icmp .ne 7, 3) := by decide +kernel
theorem dX11_isEither_9 : decode cX11_isEither 9 = .ok (.iconst 1, 1) := by decide +kernel
theorem dX11_isEither_10 : decode cX11_isEither 10 = .ok (.goto 4, 3) := by decide +kernel
theorem dX11_isEither_13 : decode cX11_isEither 13 = .ok (.iconst 0, 1) := by decide +kernel
theorem dX11_isEither_14 : decode cX11_isEither 14 = .ok (.ireturn, 1) := by decide +kernel
set_option maxRecDepth 100000 in
set_option maxHeartbeats 4000000 in
theorem v_X11_isEither {l : Launch} {p : Program} {e : Env} {s : State} {mt : MethodId} {args : Array Value} {below : List Frame} {meth : Method} {c : Code} {A : Nat → Prop} {ad0 : Nat → Nat} {G : Gt} {N : Nat} (C : Cx G p s mt args meth c RX11 cX11_isEither 1 (some .boolean) "isEither" A) (hN : 109 ≤ N) (x1 : Int32) (m : Mem) : V G SX oI l p e s mt args below meth c 1 1 A ad0 N N RX N RX 0 [(0, .int x1)] [] m (X11_isEither  x1 m) := by
  rw [X11_isEither]
  refine V.iload_n (pc := 0) C dX11_isEither_0 0 rfl ?_
  refine V.if_eq (pc := 1) C dX11_isEither_1 9 (by decide) (fun _ => ?_) (fun _ => ?_)
  · refine V.iconst (pc := 9) C dX11_isEither_9 (v := 1) (by decide) ?_
    refine V.goto (pc := 10) C dX11_isEither_10 14 (by decide) ?_
    exact V.zret rfl C dX11_isEither_14
  · refine V.iload_n (pc := 4) C dX11_isEither_4 0 rfl ?_
    refine V.iconst (pc := 5) C dX11_isEither_5 (v := 1) (by decide) ?_
    refine V.icmp_ne (pc := 6) C dX11_isEither_6 13 (by decide) (fun _ => ?_) (fun _ => ?_)
    · refine V.iconst (pc := 13) C dX11_isEither_13 (v := 0) (by decide) ?_
      exact V.zret rfl C dX11_isEither_14
    · refine V.iconst (pc := 9) C dX11_isEither_9 (v := 1) (by decide) ?_
      refine V.goto (pc := 10) C dX11_isEither_10 14 (by decide) ?_
      exact V.zret rfl C dX11_isEither_14
theorem c_X11_isEither (l : Launch) {N : Nat} (hN : 109 ≤ N) (x1 : Int32) (m : Mem) : Ct l yX11_isEither cX11_isEither 1 (some .boolean) 1 SX oI N N RX RX [.int x1] m (X11_isEither  x1 m) :=
  Ct.of (own := RX11) (nm := "isEither") (by decide) rfl rfl (Nat.le_of_ble_eq_true rfl) (fun _ _ _ _ _ _ _ _ _ _ _ C => v_X11_isEither C hN x1 m)
theorem dX8_everybody_0 : decode cX8_everybody 0 = .ok (.iconst 1, 1) := by decide +kernel
theorem dX8_everybody_1 : decode cX8_everybody 1 = .ok (.aload_n 0, 1) := by decide +kernel
theorem dX8_everybody_2 : decode cX8_everybody 2 = .ok (.getfield 41, 3) := by decide +kernel
theorem dX8_everybody_5 : decode cX8_everybody 5 = .ok (.ishl, 1) := by decide +kernel
theorem dX8_everybody_6 : decode cX8_everybody 6 = .ok (.iconst 1, 1) := by decide +kernel
theorem dX8_everybody_7 : decode cX8_everybody 7 = .ok (.isub, 1) := by decide +kernel
theorem dX8_everybody_8 : decode cX8_everybody 8 = .ok (.ireturn, 1) := by decide +kernel
set_option maxRecDepth 100000 in
set_option maxHeartbeats 4000000 in
theorem v_X8_everybody {l : Launch} {p : Program} {e : Env} {s : State} {mt : MethodId} {args : Array Value} {below : List Frame} {meth : Method} {c : Code} {A : Nat → Prop} {ad0 : Nat → Nat} {G : Gt} {N : Nat} (C : Cx G p s mt args meth c RX8 cX8_everybody 1 (some .int) "everybody" A) (hN : 109 ≤ N) (a : Nat) (ha : isRules N a) (m : Mem) : V G SX oI l p e s mt args below meth c 1 1 A ad0 N N RX N RX 0 [(0, .ref a)] [] m (X8_everybody a  m) := by
  rw [X8_everybody]
  refine V.iconst (pc := 0) C dX8_everybody_0 (v := 1) (by decide) ?_
  refine V.aload_n (pc := 1) C dX8_everybody_1 0 rfl ?_
  refine V.geti (pc := 2) C fl_RX8_41 ha.s ha.k rfl dX8_everybody_2 ?_
  refine V.ishl (pc := 5) C dX8_everybody_5 ?_
  refine V.iconst (pc := 6) C dX8_everybody_6 (v := 1) (by decide) ?_
  refine V.isub (pc := 7) C dX8_everybody_7 ?_
  exact V.iret C dX8_everybody_8
theorem c_X8_everybody (l : Launch) {N : Nat} (hN : 109 ≤ N) (a : Nat) (ha : isRules N a) (m : Mem) : Ct l yX8_everybody cX8_everybody 1 (some .int) 1 SX oI N N RX RX [.ref a] m (X8_everybody a  m) :=
  Ct.of (own := RX8) (nm := "everybody") (by decide) rfl rfl (Nat.le_of_ble_eq_true rfl) (fun _ _ _ _ _ _ _ _ _ _ _ C => v_X8_everybody C hN a ha  m)
theorem dX11_isHouse_0 : decode cX11_isHouse 0 = .ok (.aload_n 0, 1) := by decide +kernel
theorem dX11_isHouse_1 : decode cX11_isHouse 1 = .ok (.getfield 38, 3) := by decide +kernel
theorem dX11_isHouse_4 : decode cX11_isHouse 4 = .ok (.iload_n 1, 1) := by decide +kernel
theorem dX11_isHouse_5 : decode cX11_isHouse 5 = .ok (.invokevirtual 384, 3) := by decide +kernel
theorem dX11_isHouse_8 : decode cX11_isHouse 8 = .ok (.invokestatic 204, 3) := by decide +kernel
theorem dX11_isHouse_11 : decode cX11_isHouse 11 = .ok (.iload_n 2, 1) := by decide +kernel
theorem dX11_isHouse_12 : decode cX11_isHouse 12 = .ok (.if_icmp .lt 7, 3) := by decide +kernel
theorem dX11_isHouse_15 : decode cX11_isHouse 15 = .ok (.iconst 1, 1) := by decide +kernel
theorem dX11_isHouse_16 : decode cX11_isHouse 16 = .ok (.goto 4, 3) := by decide +kernel
theorem dX11_isHouse_19 : decode cX11_isHouse 19 = .ok (.iconst 0, 1) := by decide +kernel
theorem dX11_isHouse_20 : decode cX11_isHouse 20 = .ok (.ireturn, 1) := by decide +kernel
set_option maxRecDepth 100000 in
set_option maxHeartbeats 4000000 in
theorem v_X11_isHouse {l : Launch} {p : Program} {e : Env} {s : State} {mt : MethodId} {args : Array Value} {below : List Frame} {meth : Method} {c : Code} {A : Nat → Prop} {ad0 : Nat → Nat} {G : Gt} {N : Nat} (C : Cx G p s mt args meth c RX11 cX11_isHouse 3 (some .boolean) "isHouse" A) (hN : 109 ≤ N) (x1 : Int32) (x2 : Int32) (m : Mem) : V G SX oI l p e s mt args below meth c 3 2 A ad0 N N RX N RX 0 [(0, .ref 0), (1, .int x1), (2, .int x2)] [] m (X11_isHouse  x1 x2 m) := by
  rw [X11_isHouse]
  refine V.aload_n (pc := 0) C dX11_isHouse_0 0 rfl ?_
  refine V.getr (pc := 1) C fl_RX11_38 sX0 (kX0 hN) rfl rX0_6 dX11_isHouse_1 ?_
  refine V.iload_n (pc := 4) C dX11_isHouse_4 1 rfl ?_
  refine V.callV (pc := 5) (st := []) C (c_X10_allOf l hN 25 (iX25 hN) x1 m) obI ck_X10_allOf ml_RX11_384 rfl rfl sX25 (kX25 hN) rfl rfl (Nat.le_of_ble_eq_true rfl) ⟨by decide, by decide⟩ dX11_isHouse_5 (fun r_1 m_2 _ => ?_)
  refine V.callS (pc := 8) (st := []) C (c_J6_bitCount_0f7a4 l r_1 m_2) obI ck_J6_bitCount_0f7a4 ml_RX11_204 rfl rfl (Nat.le_of_ble_eq_true rfl) ⟨by decide, by decide⟩ dX11_isHouse_8 (fun r_3 m_4 _ => ?_)
  refine V.iload_n (pc := 11) C dX11_isHouse_11 2 rfl ?_
  refine V.icmp_lt (pc := 12) C dX11_isHouse_12 19 (by decide) (fun _ => ?_) (fun _ => ?_)
  · refine V.iconst (pc := 19) C dX11_isHouse_19 (v := 0) (by decide) ?_
    exact V.zret rfl C dX11_isHouse_20
  · refine V.iconst (pc := 15) C dX11_isHouse_15 (v := 1) (by decide) ?_
    refine V.goto (pc := 16) C dX11_isHouse_16 20 (by decide) ?_
    exact V.zret rfl C dX11_isHouse_20
theorem c_X11_isHouse (l : Launch) {N : Nat} (hN : 109 ≤ N) (x1 : Int32) (x2 : Int32) (m : Mem) : Ct l yX11_isHouse cX11_isHouse 3 (some .boolean) 2 SX oI N N RX RX [.ref 0, .int x1, .int x2] m (X11_isHouse  x1 x2 m) :=
  Ct.of (own := RX11) (nm := "isHouse") (by decide) rfl rfl (Nat.le_of_ble_eq_true rfl) (fun _ _ _ _ _ _ _ _ _ _ _ C => v_X11_isHouse C hN x1 x2 m)
theorem dX11_biggest_0 : decode cX11_biggest 0 = .ok (.iload_n 2, 1) := by decide +kernel
theorem dX11_biggest_1 : decode cX11_biggest 1 = .ok (.invokestatic 315, 3) := by decide +kernel
theorem dX11_biggest_4 : decode cX11_biggest 4 = .ok (.ifCond .ne 6, 3) := by decide +kernel
theorem dX11_biggest_7 : decode cX11_biggest 7 = .ok (.bipush (-2), 2) := by decide +kernel
theorem dX11_biggest_9 : decode cX11_biggest 9 = .ok (.ireturn, 1) := by decide +kernel
theorem dX11_biggest_10 : decode cX11_biggest 10 = .ok (.iload_n 1, 1) := by decide +kernel
theorem dX11_biggest_11 : decode cX11_biggest 11 = .ok (.ifCond .lt 9, 3) := by decide +kernel
theorem dX11_biggest_14 : decode cX11_biggest 14 = .ok (.iload_n 1, 1) := by decide +kernel
theorem dX11_biggest_15 : decode cX11_biggest 15 = .ok (.bipush 14, 2) := by decide +kernel
theorem dX11_biggest_17 : decode cX11_biggest 17 = .ok (.if_icmp .le 6, 3) := by decide +kernel
theorem dX11_biggest_20 : decode cX11_biggest 20 = .ok (.bipush (-3), 2) := by decide +kernel
theorem dX11_biggest_22 : decode cX11_biggest 22 = .ok (.ireturn, 1) := by decide +kernel
theorem dX11_biggest_23 : decode cX11_biggest 23 = .ok (.iconst 0, 1) := by decide +kernel
theorem dX11_biggest_24 : decode cX11_biggest 24 = .ok (.istore_n 3, 1) := by decide +kernel
theorem dX11_biggest_25 : decode cX11_biggest 25 = .ok (.iconst 0, 1) := by decide +kernel
theorem dX11_biggest_26 : decode cX11_biggest 26 = .ok (.istore 4, 2) := by decide +kernel
theorem dX11_biggest_28 : decode cX11_biggest 28 = .ok (.aload_n 0, 1) := by decide +kernel
theorem dX11_biggest_29 : decode cX11_biggest 29 = .ok (.getfield 16, 3) := by decide +kernel
theorem dX11_biggest_32 : decode cX11_biggest 32 = .ok (.invokevirtual 265, 3) := by decide +kernel
theorem dX11_biggest_35 : decode cX11_biggest 35 = .ok (.istore 5, 2) := by decide +kernel
theorem dX11_biggest_37 : decode cX11_biggest 37 = .ok (.iconst 1, 1) := by decide +kernel
theorem dX11_biggest_38 : decode cX11_biggest 38 = .ok (.istore 6, 2) := by decide +kernel
theorem dX11_biggest_40 : decode cX11_biggest 40 = .ok (.iload 6, 2) := by decide +kernel
theorem dX11_biggest_42 : decode cX11_biggest 42 = .ok (.iload 5, 2) := by decide +kernel
theorem dX11_biggest_44 : decode cX11_biggest 44 = .ok (.if_icmp .gt 38, 3) := by decide +kernel
theorem dX11_biggest_47 : decode cX11_biggest 47 = .ok (.iload 6, 2) := by decide +kernel
theorem dX11_biggest_49 : decode cX11_biggest 49 = .ok (.invokestatic 204, 3) := by decide +kernel
theorem dX11_biggest_52 : decode cX11_biggest 52 = .ok (.iload_n 3, 1) := by decide +kernel
theorem dX11_biggest_53 : decode cX11_biggest 53 = .ok (.if_icmp .le 23, 3) := by decide +kernel
theorem dX11_biggest_56 : decode cX11_biggest 56 = .ok (.aload_n 0, 1) := by decide +kernel
theorem dX11_biggest_57 : decode cX11_biggest 57 = .ok (.iload 6, 2) := by decide +kernel
theorem dX11_biggest_59 : decode cX11_biggest 59 = .ok (.iload_n 1, 1) := by decide +kernel
theorem dX11_biggest_60 : decode cX11_biggest 60 = .ok (.invokevirtual 335, 3) := by decide +kernel
theorem dX11_biggest_63 : decode cX11_biggest 63 = .ok (.ifCond .eq 13, 3) := by decide +kernel
theorem dX11_biggest_66 : decode cX11_biggest 66 = .ok (.iload 6, 2) := by decide +kernel
theorem dX11_biggest_68 : decode cX11_biggest 68 = .ok (.invokestatic 204, 3) := by decide +kernel
theorem dX11_biggest_71 : decode cX11_biggest 71 = .ok (.istore_n 3, 1) := by decide +kernel
theorem dX11_biggest_72 : decode cX11_biggest 72 = .ok (.iload 6, 2) := by decide +kernel
theorem dX11_biggest_74 : decode cX11_biggest 74 = .ok (.istore 4, 2) := by decide +kernel
theorem dX11_biggest_76 : decode cX11_biggest 76 = .ok (.iinc 6 1, 3) := by decide +kernel
theorem dX11_biggest_79 : decode cX11_biggest 79 = .ok (.goto (-39), 3) := by decide +kernel
theorem dX11_biggest_82 : decode cX11_biggest 82 = .ok (.iload_n 2, 1) := by decide +kernel
theorem dX11_biggest_83 : decode cX11_biggest 83 = .ok (.ifCond .ne 7, 3) := by decide +kernel
theorem dX11_biggest_86 : decode cX11_biggest 86 = .ok (.iload_n 3, 1) := by decide +kernel
theorem dX11_biggest_87 : decode cX11_biggest 87 = .ok (.goto 5, 3) := by decide +kernel
theorem dX11_biggest_90 : decode cX11_biggest 90 = .ok (.iload 4, 2) := by decide +kernel
theorem dX11_biggest_92 : decode cX11_biggest 92 = .ok (.ireturn, 1) := by decide +kernel
set_option maxRecDepth 100000 in
set_option maxHeartbeats 4000000 in
theorem v_X11_biggest_b40 {l : Launch} {p : Program} {e : Env} {s : State} {mt : MethodId} {args : Array Value} {below : List Frame} {meth : Method} {c : Code} {A : Nat → Prop} {ad0 : Nat → Nat} {G : Gt} {N : Nat} (C : Cx G p s mt args meth c RX11 cX11_biggest 7 (some .int) "biggest" A) (hN : 109 ≤ N) : ∀ (n : Nat) (y1 : Int32) (y2 : Int32) (y3 : Int32) (y4 : Int32) (y5 : Int32) (y6 : Int32) (m : Mem), V G SX oI l p e s mt args below meth c 7 3 A ad0 N N RX N RX 40 [(0, .ref 0), (1, .int y1), (2, .int y2), (3, .int y3), (4, .int y4), (5, .int y5), (6, .int y6)] [] m (X11_biggest_b40  n y1 y2 y3 y4 y5 y6 m) := by
  intro n
  induction n with
  | zero =>
    intro y1 y2 y3 y4 y5 y6 m
    rw [X11_biggest_b40]
    exact V.nil
  | succ n ih =>
    intro y1 y2 y3 y4 y5 y6 m
    rw [X11_biggest_b40]
    refine V.iload (pc := 40) C dX11_biggest_40 6 rfl ?_
    refine V.iload (pc := 42) C dX11_biggest_42 5 rfl ?_
    refine V.icmp_gt (pc := 44) C dX11_biggest_44 82 (by decide) (fun _ => ?_) (fun _ => ?_)
    · refine V.iload_n (pc := 82) C dX11_biggest_82 2 rfl ?_
      refine V.if_ne (pc := 83) C dX11_biggest_83 90 (by decide) (fun _ => ?_) (fun _ => ?_)
      · refine V.iload (pc := 90) C dX11_biggest_90 4 rfl ?_
        exact V.iret C dX11_biggest_92
      · refine V.iload_n (pc := 86) C dX11_biggest_86 3 rfl ?_
        refine V.goto (pc := 87) C dX11_biggest_87 92 (by decide) ?_
        exact V.iret C dX11_biggest_92
    · refine V.iload (pc := 47) C dX11_biggest_47 6 rfl ?_
      refine V.callS (pc := 49) (st := []) C (c_J6_bitCount_0f7a4 l y6 m) obI ck_J6_bitCount_0f7a4 ml_RX11_204 rfl rfl (Nat.le_of_ble_eq_true rfl) ⟨by decide, by decide⟩ dX11_biggest_49 (fun r_5 m_6 _ => ?_)
      refine V.iload_n (pc := 52) C dX11_biggest_52 3 rfl ?_
      refine V.icmp_le (pc := 53) C dX11_biggest_53 76 (by decide) (fun _ => ?_) (fun _ => ?_)
      · refine V.iinc (pc := 76) C dX11_biggest_76 (v := 1) (L2 := [(6, .int (y6 + 1)), (0, .ref 0), (1, .int y1), (2, .int y2), (3, .int y3), (4, .int y4), (5, .int y5)]) 6 rfl (by decide) (by decide) rfl ?_
        refine V.goto (pc := 79) C dX11_biggest_79 40 (by decide) ?_
        refine V.wk [1, 2, 3, 4, 5, 6, 0] rfl ?_
        exact ih y1 y2 y3 y4 y5 (y6 + 1) m_6
      · refine V.aload_n (pc := 56) C dX11_biggest_56 0 rfl ?_
        refine V.iload (pc := 57) C dX11_biggest_57 6 rfl ?_
        refine V.iload_n (pc := 59) C dX11_biggest_59 1 rfl ?_
        refine V.callV (pc := 60) (st := []) C (c_X11_isHouse l hN y6 y1 m_6) obI ck_X11_isHouse ml_RX11_335 rfl rfl sX0 (kX0 hN) rfl rfl (Nat.le_of_ble_eq_true rfl) ⟨by decide, by decide⟩ dX11_biggest_60 (fun r_7 m_8 _ => ?_)
        refine V.if_eq (pc := 63) C dX11_biggest_63 76 (by decide) (fun _ => ?_) (fun _ => ?_)
        · refine V.iinc (pc := 76) C dX11_biggest_76 (v := 1) (L2 := [(6, .int (y6 + 1)), (0, .ref 0), (1, .int y1), (2, .int y2), (3, .int y3), (4, .int y4), (5, .int y5)]) 6 rfl (by decide) (by decide) rfl ?_
          refine V.goto (pc := 79) C dX11_biggest_79 40 (by decide) ?_
          refine V.wk [1, 2, 3, 4, 5, 6, 0] rfl ?_
          exact ih y1 y2 y3 y4 y5 (y6 + 1) m_8
        · refine V.iload (pc := 66) C dX11_biggest_66 6 rfl ?_
          refine V.callS (pc := 68) (st := []) C (c_J6_bitCount_0f7a4 l y6 m_8) obI ck_J6_bitCount_0f7a4 ml_RX11_204 rfl rfl (Nat.le_of_ble_eq_true rfl) ⟨by decide, by decide⟩ dX11_biggest_68 (fun r_9 m_10 _ => ?_)
          refine V.istore_n (pc := 71) C dX11_biggest_71 (L2 := [(3, .int r_9), (0, .ref 0), (1, .int y1), (2, .int y2), (4, .int y4), (5, .int y5), (6, .int y6)]) (by decide) rfl ?_
          refine V.iload (pc := 72) C dX11_biggest_72 6 rfl ?_
          refine V.istore (pc := 74) C dX11_biggest_74 (L2 := [(4, .int y6), (3, .int r_9), (0, .ref 0), (1, .int y1), (2, .int y2), (5, .int y5), (6, .int y6)]) (by decide) rfl ?_
          refine V.iinc (pc := 76) C dX11_biggest_76 (v := 1) (L2 := [(6, .int (y6 + 1)), (4, .int y6), (3, .int r_9), (0, .ref 0), (1, .int y1), (2, .int y2), (5, .int y5)]) 6 rfl (by decide) (by decide) rfl ?_
          refine V.goto (pc := 79) C dX11_biggest_79 40 (by decide) ?_
          refine V.wk [3, 4, 5, 2, 1, 6, 0] rfl ?_
          exact ih y1 y2 r_9 y6 y5 (y6 + 1) m_10
set_option maxRecDepth 100000 in
set_option maxHeartbeats 4000000 in
theorem v_X11_biggest {l : Launch} {p : Program} {e : Env} {s : State} {mt : MethodId} {args : Array Value} {below : List Frame} {meth : Method} {c : Code} {A : Nat → Prop} {ad0 : Nat → Nat} {G : Gt} {N : Nat} (C : Cx G p s mt args meth c RX11 cX11_biggest 7 (some .int) "biggest" A) (hN : 109 ≤ N) (x1 : Int32) (x2 : Int32) (m : Mem) : V G SX oI l p e s mt args below meth c 7 3 A ad0 N N RX N RX 0 [(0, .ref 0), (1, .int x1), (2, .int x2)] [] m (X11_biggest  x1 x2 m) := by
  rw [X11_biggest]
  refine V.iload_n (pc := 0) C dX11_biggest_0 2 rfl ?_
  refine V.callS (pc := 1) (st := []) C (c_X11_isEither l hN x2 m) obI ck_X11_isEither ml_RX11_315 rfl rfl (Nat.le_of_ble_eq_true rfl) ⟨by decide, by decide⟩ dX11_biggest_1 (fun r_1 m_2 _ => ?_)
  refine V.if_ne (pc := 4) C dX11_biggest_4 10 (by decide) (fun _ => ?_) (fun _ => ?_)
  · refine V.iload_n (pc := 10) C dX11_biggest_10 1 rfl ?_
    refine V.if_lt (pc := 11) C dX11_biggest_11 20 (by decide) (fun _ => ?_) (fun _ => ?_)
    · refine V.bipush (pc := 20) C dX11_biggest_20 (v := (-3)) (by decide) ?_
      exact V.iret C dX11_biggest_22
    · refine V.iload_n (pc := 14) C dX11_biggest_14 1 rfl ?_
      refine V.bipush (pc := 15) C dX11_biggest_15 (v := 14) (by decide) ?_
      refine V.icmp_le (pc := 17) C dX11_biggest_17 23 (by decide) (fun _ => ?_) (fun _ => ?_)
      · refine V.iconst (pc := 23) C dX11_biggest_23 (v := 0) (by decide) ?_
        refine V.istore_n (pc := 24) C dX11_biggest_24 (L2 := [(3, .int 0), (0, .ref 0), (1, .int x1), (2, .int x2)]) (by decide) rfl ?_
        refine V.iconst (pc := 25) C dX11_biggest_25 (v := 0) (by decide) ?_
        refine V.istore (pc := 26) C dX11_biggest_26 (L2 := [(4, .int 0), (3, .int 0), (0, .ref 0), (1, .int x1), (2, .int x2)]) (by decide) rfl ?_
        refine V.aload_n (pc := 28) C dX11_biggest_28 2 rfl ?_
        refine V.getr (pc := 29) C fl_RX11_16 sX0 (kX0 hN) rfl rX0_3 dX11_biggest_29 ?_
        refine V.callV (pc := 32) (st := []) C (c_X8_everybody l hN 2 (iX2 hN) m_2) obI ck_X8_everybody ml_RX11_265 rfl rfl sX2 (kX2 hN) rfl rfl (Nat.le_of_ble_eq_true rfl) ⟨by decide, by decide⟩ dX11_biggest_32 (fun r_3 m_4 _ => ?_)
        refine V.istore (pc := 35) C dX11_biggest_35 (L2 := [(5, .int r_3), (4, .int 0), (3, .int 0), (0, .ref 0), (1, .int x1), (2, .int x2)]) (by decide) rfl ?_
        refine V.iconst (pc := 37) C dX11_biggest_37 (v := 1) (by decide) ?_
        refine V.istore (pc := 38) C dX11_biggest_38 (L2 := [(6, .int 1), (5, .int r_3), (4, .int 0), (3, .int 0), (0, .ref 0), (1, .int x1), (2, .int x2)]) (by decide) rfl ?_
        refine V.wk [4, 5, 6, 3, 2, 1, 0] rfl ?_
        exact v_X11_biggest_b40 C hN FU x1 x2 0 0 r_3 1 m_4
      · refine V.bipush (pc := 20) C dX11_biggest_20 (v := (-3)) (by decide) ?_
        exact V.iret C dX11_biggest_22
  · refine V.bipush (pc := 7) C dX11_biggest_7 (v := (-2)) (by decide) ?_
    exact V.iret C dX11_biggest_9
theorem c_X11_biggest (l : Launch) {N : Nat} (hN : 109 ≤ N) (x1 : Int32) (x2 : Int32) (m : Mem) : Ct l yX11_biggest cX11_biggest 7 (some .int) 3 SX oI N N RX RX [.ref 0, .int x1, .int x2] m (X11_biggest  x1 x2 m) :=
  Ct.of (own := RX11) (nm := "biggest") (by decide) rfl rfl (Nat.le_of_ble_eq_true rfl) (fun _ _ _ _ _ _ _ _ _ _ _ C => v_X11_biggest C hN x1 x2 m)
theorem dX6_survey_0 : decode cX6_survey 0 = .ok (.aload_n 0, 1) := by decide +kernel
theorem dX6_survey_1 : decode cX6_survey 1 = .ok (.aload_n 1, 1) := by decide +kernel
theorem dX6_survey_2 : decode cX6_survey 2 = .ok (.getfield 28, 3) := by decide +kernel
theorem dX6_survey_5 : decode cX6_survey 5 = .ok (.getfield 34, 3) := by decide +kernel
theorem dX6_survey_8 : decode cX6_survey 8 = .ok (.putfield 40, 3) := by decide +kernel
theorem dX6_survey_11 : decode cX6_survey 11 = .ok (.iconst 0, 1) := by decide +kernel
theorem dX6_survey_12 : decode cX6_survey 12 = .ok (.istore_n 2, 1) := by decide +kernel
theorem dX6_survey_13 : decode cX6_survey 13 = .ok (.iload_n 2, 1) := by decide +kernel
theorem dX6_survey_14 : decode cX6_survey 14 = .ok (.aload_n 0, 1) := by decide +kernel
theorem dX6_survey_15 : decode cX6_survey 15 = .ok (.getfield 40, 3) := by decide +kernel
theorem dX6_survey_18 : decode cX6_survey 18 = .ok (.if_icmp .ge 95, 3) := by decide +kernel
theorem dX6_survey_21 : decode cX6_survey 21 = .ok (.iload_n 2, 1) := by decide +kernel
theorem dX6_survey_22 : decode cX6_survey 22 = .ok (.iconst 1, 1) := by decide +kernel
theorem dX6_survey_23 : decode cX6_survey 23 = .ok (.iadd, 1) := by decide +kernel
theorem dX6_survey_24 : decode cX6_survey 24 = .ok (.istore_n 3, 1) := by decide +kernel
theorem dX6_survey_25 : decode cX6_survey 25 = .ok (.iload_n 3, 1) := by decide +kernel
theorem dX6_survey_26 : decode cX6_survey 26 = .ok (.aload_n 0, 1) := by decide +kernel
theorem dX6_survey_27 : decode cX6_survey 27 = .ok (.getfield 40, 3) := by decide +kernel
theorem dX6_survey_30 : decode cX6_survey 30 = .ok (.if_icmp .ge 77, 3) := by decide +kernel
theorem dX6_survey_33 : decode cX6_survey 33 = .ok (.aload_n 1, 1) := by decide +kernel
theorem dX6_survey_34 : decode cX6_survey 34 = .ok (.iload_n 2, 1) := by decide +kernel
theorem dX6_survey_35 : decode cX6_survey 35 = .ok (.iload_n 3, 1) := by decide +kernel
theorem dX6_survey_36 : decode cX6_survey 36 = .ok (.invokevirtual 41, 3) := by decide +kernel
theorem dX6_survey_39 : decode cX6_survey 39 = .ok (.istore 4, 2) := by decide +kernel
theorem dX6_survey_41 : decode cX6_survey 41 = .ok (.aload_n 1, 1) := by decide +kernel
theorem dX6_survey_42 : decode cX6_survey 42 = .ok (.iload_n 2, 1) := by decide +kernel
theorem dX6_survey_43 : decode cX6_survey 43 = .ok (.iload_n 3, 1) := by decide +kernel
theorem dX6_survey_44 : decode cX6_survey 44 = .ok (.invokevirtual 45, 3) := by decide +kernel
theorem dX6_survey_47 : decode cX6_survey 47 = .ok (.istore 5, 2) := by decide +kernel
theorem dX6_survey_49 : decode cX6_survey 49 = .ok (.aload_n 0, 1) := by decide +kernel
theorem dX6_survey_50 : decode cX6_survey 50 = .ok (.getfield 15, 3) := by decide +kernel
theorem dX6_survey_53 : decode cX6_survey 53 = .ok (.iload_n 2, 1) := by decide +kernel
theorem dX6_survey_54 : decode cX6_survey 54 = .ok (.bipush 8, 2) := by decide +kernel
theorem dX6_survey_56 : decode cX6_survey 56 = .ok (.imul, 1) := by decide +kernel
theorem dX6_survey_57 : decode cX6_survey 57 = .ok (.iload_n 3, 1) := by decide +kernel
theorem dX6_survey_58 : decode cX6_survey 58 = .ok (.iadd, 1) := by decide +kernel
theorem dX6_survey_59 : decode cX6_survey 59 = .ok (.iload 4, 2) := by decide +kernel
theorem dX6_survey_61 : decode cX6_survey 61 = .ok (.iastore, 1) := by decide +kernel
theorem dX6_survey_62 : decode cX6_survey 62 = .ok (.aload_n 0, 1) := by decide +kernel
theorem dX6_survey_63 : decode cX6_survey 63 = .ok (.getfield 15, 3) := by decide +kernel
theorem dX6_survey_66 : decode cX6_survey 66 = .ok (.iload_n 3, 1) := by decide +kernel
theorem dX6_survey_67 : decode cX6_survey 67 = .ok (.bipush 8, 2) := by decide +kernel
theorem dX6_survey_69 : decode cX6_survey 69 = .ok (.imul, 1) := by decide +kernel
theorem dX6_survey_70 : decode cX6_survey 70 = .ok (.iload_n 2, 1) := by decide +kernel
theorem dX6_survey_71 : decode cX6_survey 71 = .ok (.iadd, 1) := by decide +kernel
theorem dX6_survey_72 : decode cX6_survey 72 = .ok (.iload 4, 2) := by decide +kernel
theorem dX6_survey_74 : decode cX6_survey 74 = .ok (.iastore, 1) := by decide +kernel
theorem dX6_survey_75 : decode cX6_survey 75 = .ok (.aload_n 0, 1) := by decide +kernel
theorem dX6_survey_76 : decode cX6_survey 76 = .ok (.getfield 9, 3) := by decide +kernel
theorem dX6_survey_79 : decode cX6_survey 79 = .ok (.iload_n 2, 1) := by decide +kernel
theorem dX6_survey_80 : decode cX6_survey 80 = .ok (.bipush 8, 2) := by decide +kernel
theorem dX6_survey_82 : decode cX6_survey 82 = .ok (.imul, 1) := by decide +kernel
theorem dX6_survey_83 : decode cX6_survey 83 = .ok (.iload_n 3, 1) := by decide +kernel
theorem dX6_survey_84 : decode cX6_survey 84 = .ok (.iadd, 1) := by decide +kernel
theorem dX6_survey_85 : decode cX6_survey 85 = .ok (.iload 5, 2) := by decide +kernel
theorem dX6_survey_87 : decode cX6_survey 87 = .ok (.bastore, 1) := by decide +kernel
theorem dX6_survey_88 : decode cX6_survey 88 = .ok (.aload_n 0, 1) := by decide +kernel
theorem dX6_survey_89 : decode cX6_survey 89 = .ok (.getfield 9, 3) := by decide +kernel
theorem dX6_survey_92 : decode cX6_survey 92 = .ok (.iload_n 3, 1) := by decide +kernel
theorem dX6_survey_93 : decode cX6_survey 93 = .ok (.bipush 8, 2) := by decide +kernel
theorem dX6_survey_95 : decode cX6_survey 95 = .ok (.imul, 1) := by decide +kernel
theorem dX6_survey_96 : decode cX6_survey 96 = .ok (.iload_n 2, 1) := by decide +kernel
theorem dX6_survey_97 : decode cX6_survey 97 = .ok (.iadd, 1) := by decide +kernel
theorem dX6_survey_98 : decode cX6_survey 98 = .ok (.iload 5, 2) := by decide +kernel
theorem dX6_survey_100 : decode cX6_survey 100 = .ok (.bastore, 1) := by decide +kernel
theorem dX6_survey_101 : decode cX6_survey 101 = .ok (.iinc 3 1, 3) := by decide +kernel
theorem dX6_survey_104 : decode cX6_survey 104 = .ok (.goto (-79), 3) := by decide +kernel
theorem dX6_survey_107 : decode cX6_survey 107 = .ok (.iinc 2 1, 3) := by decide +kernel
theorem dX6_survey_110 : decode cX6_survey 110 = .ok (.goto (-97), 3) := by decide +kernel
theorem dX6_survey_113 : decode cX6_survey 113 = .ok (.return_, 1) := by decide +kernel
set_option maxRecDepth 100000 in
set_option maxHeartbeats 4000000 in
theorem v_X6_survey_b25 {l : Launch} {p : Program} {e : Env} {s : State} {mt : MethodId} {args : Array Value} {below : List Frame} {meth : Method} {c : Code} {A : Nat → Prop} {ad0 : Nat → Nat} {G : Gt} {N : Nat} (C : Cx G p s mt args meth c RX6 cX6_survey 6 none "survey" A) (hN : 109 ≤ N) (b1 : Nat) (hb1 : isWorld N b1) (k13 : Int32 → Mem → Option (Unit × Mem)) (h13 : ∀ (y2 : Int32) (m : Mem), V G SX oV l p e s mt args below meth c 6 5 A ad0 N N RX N RX 13 [(0, .ref 90), (1, .ref b1), (2, .int y2)] [] m (k13 y2 m)) : ∀ (n : Nat) (y2 : Int32) (y3 : Int32) (m : Mem), V G SX oV l p e s mt args below meth c 6 5 A ad0 N N RX N RX 25 [(0, .ref 90), (1, .ref b1), (2, .int y2), (3, .int y3)] [] m (X6_survey_b25 b1 k13 n y2 y3 m) := by
  intro n
  induction n with
  | zero =>
    intro y2 y3 m
    rw [X6_survey_b25]
    exact V.nil
  | succ n ih =>
    intro y2 y3 m
    rw [X6_survey_b25]
    refine V.iload_n (pc := 25) C dX6_survey_25 3 rfl ?_
    refine V.aload_n (pc := 26) C dX6_survey_26 0 rfl ?_
    refine V.geti (pc := 27) C fl_RX6_40 sX90 (kX90 hN) rfl dX6_survey_27 ?_
    refine V.icmp_ge (pc := 30) C dX6_survey_30 107 (by decide) (fun _ => ?_) (fun _ => ?_)
    · refine V.iinc (pc := 107) C dX6_survey_107 (v := 1) (L2 := [(2, .int (y2 + 1)), (0, .ref 90), (1, .ref b1), (3, .int y3)]) 2 rfl (by decide) (by decide) rfl ?_
      refine V.goto (pc := 110) C dX6_survey_110 13 (by decide) ?_
      refine V.wk [1, 2, 0] rfl ?_
      exact h13 (y2 + 1) m
    · refine V.aload_n (pc := 33) C dX6_survey_33 1 rfl ?_
      refine V.iload_n (pc := 34) C dX6_survey_34 2 rfl ?_
      refine V.iload_n (pc := 35) C dX6_survey_35 3 rfl ?_
      refine V.callV (pc := 36) (st := []) C (c_X10_goodness l hN b1 hb1 y2 y3 m) obI ck_X10_goodness ml_RX6_41 rfl rfl hb1.s hb1.k rfl rfl (Nat.le_of_ble_eq_true rfl) ⟨by decide, by decide⟩ dX6_survey_36 (fun r_3 m_4 _ => ?_)
      refine V.istore (pc := 39) C dX6_survey_39 (L2 := [(4, .int r_3), (0, .ref 90), (1, .ref b1), (2, .int y2), (3, .int y3)]) (by decide) rfl ?_
      refine V.aload_n (pc := 41) C dX6_survey_41 2 rfl ?_
      refine V.iload_n (pc := 42) C dX6_survey_42 3 rfl ?_
      refine V.iload_n (pc := 43) C dX6_survey_43 4 rfl ?_
      refine V.callV (pc := 44) (st := []) C (c_X10_isAllowed l hN b1 hb1 y2 y3 m_4) obI ck_X10_isAllowed ml_RX6_45 rfl rfl hb1.s hb1.k rfl rfl (Nat.le_of_ble_eq_true rfl) ⟨by decide, by decide⟩ dX6_survey_44 (fun r_5 m_6 _ => ?_)
      refine V.istore (pc := 47) C dX6_survey_47 (L2 := [(5, .int r_5), (4, .int r_3), (0, .ref 90), (1, .ref b1), (2, .int y2), (3, .int y3)]) (by decide) rfl ?_
      refine V.aload_n (pc := 49) C dX6_survey_49 2 rfl ?_
      refine V.getr (pc := 50) C fl_RX6_15 sX90 (kX90 hN) rfl rX90_2 dX6_survey_50 ?_
      refine V.iload_n (pc := 53) C dX6_survey_53 4 rfl ?_
      refine V.bipush (pc := 54) C dX6_survey_54 (v := 8) (by decide) ?_
      refine V.imul (pc := 56) C dX6_survey_56 ?_
      refine V.iload_n (pc := 57) C dX6_survey_57 5 rfl ?_
      refine V.iadd (pc := 58) C dX6_survey_58 ?_
      refine V.iload (pc := 59) C dX6_survey_59 1 rfl ?_
      refine V.iast (pc := 61) C sX92 (kX92 hN) dX6_survey_61 (fun _ => ?_)
      refine V.ltm (fun m_7 => ?_)
      refine V.aload_n (pc := 62) C dX6_survey_62 2 rfl ?_
      refine V.getr (pc := 63) C fl_RX6_15 sX90 (kX90 hN) rfl rX90_2 dX6_survey_63 ?_
      refine V.iload_n (pc := 66) C dX6_survey_66 5 rfl ?_
      refine V.bipush (pc := 67) C dX6_survey_67 (v := 8) (by decide) ?_
      refine V.imul (pc := 69) C dX6_survey_69 ?_
      refine V.iload_n (pc := 70) C dX6_survey_70 4 rfl ?_
      refine V.iadd (pc := 71) C dX6_survey_71 ?_
      refine V.iload (pc := 72) C dX6_survey_72 1 rfl ?_
      refine V.iast (pc := 74) C sX92 (kX92 hN) dX6_survey_74 (fun _ => ?_)
      refine V.ltm (fun m_8 => ?_)
      refine V.aload_n (pc := 75) C dX6_survey_75 2 rfl ?_
      refine V.getr (pc := 76) C fl_RX6_9 sX90 (kX90 hN) rfl rX90_1 dX6_survey_76 ?_
      refine V.iload_n (pc := 79) C dX6_survey_79 4 rfl ?_
      refine V.bipush (pc := 80) C dX6_survey_80 (v := 8) (by decide) ?_
      refine V.imul (pc := 82) C dX6_survey_82 ?_
      refine V.iload_n (pc := 83) C dX6_survey_83 5 rfl ?_
      refine V.iadd (pc := 84) C dX6_survey_84 ?_
      refine V.iload (pc := 85) C dX6_survey_85 0 rfl ?_
      refine V.zast (pc := 87) C sX91 (kX91 hN) dX6_survey_87 (fun _ => ?_)
      refine V.ltm (fun m_9 => ?_)
      refine V.aload_n (pc := 88) C dX6_survey_88 2 rfl ?_
      refine V.getr (pc := 89) C fl_RX6_9 sX90 (kX90 hN) rfl rX90_1 dX6_survey_89 ?_
      refine V.iload_n (pc := 92) C dX6_survey_92 5 rfl ?_
      refine V.bipush (pc := 93) C dX6_survey_93 (v := 8) (by decide) ?_
      refine V.imul (pc := 95) C dX6_survey_95 ?_
      refine V.iload_n (pc := 96) C dX6_survey_96 4 rfl ?_
      refine V.iadd (pc := 97) C dX6_survey_97 ?_
      refine V.iload (pc := 98) C dX6_survey_98 0 rfl ?_
      refine V.zast (pc := 100) C sX91 (kX91 hN) dX6_survey_100 (fun _ => ?_)
      refine V.ltm (fun m_10 => ?_)
      refine V.iinc (pc := 101) C dX6_survey_101 (v := 1) (L2 := [(3, .int (y3 + 1)), (5, .int r_5), (4, .int r_3), (0, .ref 90), (1, .ref b1), (2, .int y2)]) 5 rfl (by decide) (by decide) rfl ?_
      refine V.goto (pc := 104) C dX6_survey_104 25 (by decide) ?_
      refine V.wk [3, 4, 5, 0] rfl ?_
      exact ih y2 (y3 + 1) m_10
set_option maxRecDepth 100000 in
set_option maxHeartbeats 4000000 in
theorem v_X6_survey_b13 {l : Launch} {p : Program} {e : Env} {s : State} {mt : MethodId} {args : Array Value} {below : List Frame} {meth : Method} {c : Code} {A : Nat → Prop} {ad0 : Nat → Nat} {G : Gt} {N : Nat} (C : Cx G p s mt args meth c RX6 cX6_survey 6 none "survey" A) (hN : 109 ≤ N) (b1 : Nat) (hb1 : isWorld N b1) : ∀ (n : Nat) (y2 : Int32) (m : Mem), V G SX oV l p e s mt args below meth c 6 5 A ad0 N N RX N RX 13 [(0, .ref 90), (1, .ref b1), (2, .int y2)] [] m (X6_survey_b13 b1 n y2 m) := by
  intro n
  induction n with
  | zero =>
    intro y2 m
    rw [X6_survey_b13]
    exact V.nil
  | succ n ih =>
    intro y2 m
    rw [X6_survey_b13]
    refine V.iload_n (pc := 13) C dX6_survey_13 2 rfl ?_
    refine V.aload_n (pc := 14) C dX6_survey_14 0 rfl ?_
    refine V.geti (pc := 15) C fl_RX6_40 sX90 (kX90 hN) rfl dX6_survey_15 ?_
    refine V.icmp_ge (pc := 18) C dX6_survey_18 113 (by decide) (fun _ => ?_) (fun _ => ?_)
    · exact V.vret C dX6_survey_113
    · refine V.iload_n (pc := 21) C dX6_survey_21 2 rfl ?_
      refine V.iconst (pc := 22) C dX6_survey_22 (v := 1) (by decide) ?_
      refine V.iadd (pc := 23) C dX6_survey_23 ?_
      refine V.lti (fun x_2 _ => ?_)
      refine V.istore_n (pc := 24) C dX6_survey_24 (L2 := [(3, .int x_2), (0, .ref 90), (1, .ref b1), (2, .int y2)]) (by decide) rfl ?_
      refine V.wk [1, 2, 3, 0] rfl ?_
      exact v_X6_survey_b25 C hN b1 hb1 (X6_survey_b13 b1 n) ih FU y2 x_2 m
set_option maxRecDepth 100000 in
set_option maxHeartbeats 4000000 in
theorem v_X6_survey {l : Launch} {p : Program} {e : Env} {s : State} {mt : MethodId} {args : Array Value} {below : List Frame} {meth : Method} {c : Code} {A : Nat → Prop} {ad0 : Nat → Nat} {G : Gt} {N : Nat} (C : Cx G p s mt args meth c RX6 cX6_survey 6 none "survey" A) (hN : 109 ≤ N) (b1 : Nat) (hb1 : isWorld N b1) (m : Mem) : V G SX oV l p e s mt args below meth c 6 5 A ad0 N N RX N RX 0 [(0, .ref 90), (1, .ref b1)] [] m (X6_survey b1  m) := by
  rw [X6_survey]
  refine V.aload_n (pc := 0) C dX6_survey_0 0 rfl ?_
  refine V.aload_n (pc := 1) C dX6_survey_1 1 rfl ?_
  refine V.getr (pc := 2) C fl_RX6_28 hb1.s hb1.k rfl hb1.r0 dX6_survey_2 ?_
  refine V.geti (pc := 5) C fl_RX6_34 sX2 (kX2 hN) rfl dX6_survey_5 ?_
  refine V.puti (pc := 8) C fp_RX6_40 sX90 (kX90 hN) rfl dX6_survey_8 ?_
  refine V.ltm (fun m_1 => ?_)
  refine V.iconst (pc := 11) C dX6_survey_11 (v := 0) (by decide) ?_
  refine V.istore_n (pc := 12) C dX6_survey_12 (L2 := [(2, .int 0), (0, .ref 90), (1, .ref b1)]) (by decide) rfl ?_
  refine V.wk [1, 2, 0] rfl ?_
  exact v_X6_survey_b13 C hN b1 hb1 FU 0 m_1
theorem c_X6_survey (l : Launch) {N : Nat} (hN : 109 ≤ N) (b1 : Nat) (hb1 : isWorld N b1) (m : Mem) : Ct l yX6_survey cX6_survey 6 none 5 SX oV N N RX RX [.ref 90, .ref b1] m (X6_survey b1  m) :=
  Ct.of (own := RX6) (nm := "survey") (by decide) rfl rfl (Nat.le_of_ble_eq_true rfl) (fun _ _ _ _ _ _ _ _ _ _ _ C => v_X6_survey C hN b1 hb1  m)
theorem dX6_leaveAlone_0 : decode cX6_leaveAlone 0 = .ok (.iconst 0, 1) := by decide +kernel
theorem dX6_leaveAlone_1 : decode cX6_leaveAlone 1 = .ok (.istore_n 1, 1) := by decide +kernel
theorem dX6_leaveAlone_2 : decode cX6_leaveAlone 2 = .ok (.iload_n 1, 1) := by decide +kernel
theorem dX6_leaveAlone_3 : decode cX6_leaveAlone 3 = .ok (.bipush 8, 2) := by decide +kernel
theorem dX6_leaveAlone_5 : decode cX6_leaveAlone 5 = .ok (.if_icmp .ge 16, 3) := by decide +kernel
theorem dX6_leaveAlone_8 : decode cX6_leaveAlone 8 = .ok (.aload_n 0, 1) := by decide +kernel
theorem dX6_leaveAlone_9 : decode cX6_leaveAlone 9 = .ok (.getfield 25, 3) := by decide +kernel
theorem dX6_leaveAlone_12 : decode cX6_leaveAlone 12 = .ok (.iload_n 1, 1) := by decide +kernel
theorem dX6_leaveAlone_13 : decode cX6_leaveAlone 13 = .ok (.iconst (-1), 1) := by decide +kernel
theorem dX6_leaveAlone_14 : decode cX6_leaveAlone 14 = .ok (.iastore, 1) := by decide +kernel
theorem dX6_leaveAlone_15 : decode cX6_leaveAlone 15 = .ok (.iinc 1 1, 3) := by decide +kernel
theorem dX6_leaveAlone_18 : decode cX6_leaveAlone 18 = .ok (.goto (-16), 3) := by decide +kernel
theorem dX6_leaveAlone_21 : decode cX6_leaveAlone 21 = .ok (.return_, 1) := by decide +kernel
set_option maxRecDepth 100000 in
set_option maxHeartbeats 4000000 in
theorem v_X6_leaveAlone_b2 {l : Launch} {p : Program} {e : Env} {s : State} {mt : MethodId} {args : Array Value} {below : List Frame} {meth : Method} {c : Code} {A : Nat → Prop} {ad0 : Nat → Nat} {G : Gt} {N : Nat} (C : Cx G p s mt args meth c RX6 cX6_leaveAlone 2 none "leaveAlone" A) (hN : 109 ≤ N) : ∀ (n : Nat) (y1 : Int32) (m : Mem), V G SX oV l p e s mt args below meth c 2 1 A ad0 N N RX N RX 2 [(0, .ref 90), (1, .int y1)] [] m (X6_leaveAlone_b2  n y1 m) := by
  intro n
  induction n with
  | zero =>
    intro y1 m
    rw [X6_leaveAlone_b2]
    exact V.nil
  | succ n ih =>
    intro y1 m
    rw [X6_leaveAlone_b2]
    refine V.iload_n (pc := 2) C dX6_leaveAlone_2 1 rfl ?_
    refine V.bipush (pc := 3) C dX6_leaveAlone_3 (v := 8) (by decide) ?_
    refine V.icmp_ge (pc := 5) C dX6_leaveAlone_5 21 (by decide) (fun _ => ?_) (fun _ => ?_)
    · exact V.vret C dX6_leaveAlone_21
    · refine V.aload_n (pc := 8) C dX6_leaveAlone_8 0 rfl ?_
      refine V.getr (pc := 9) C fl_RX6_25 sX90 (kX90 hN) rfl rX90_5 dX6_leaveAlone_9 ?_
      refine V.iload_n (pc := 12) C dX6_leaveAlone_12 1 rfl ?_
      refine V.iconst (pc := 13) C dX6_leaveAlone_13 (v := (-1)) (by decide) ?_
      refine V.iast (pc := 14) C sX95 (kX95 hN) dX6_leaveAlone_14 (fun _ => ?_)
      refine V.ltm (fun m_1 => ?_)
      refine V.iinc (pc := 15) C dX6_leaveAlone_15 (v := 1) (L2 := [(1, .int (y1 + 1)), (0, .ref 90)]) 1 rfl (by decide) (by decide) rfl ?_
      refine V.goto (pc := 18) C dX6_leaveAlone_18 2 (by decide) ?_
      refine V.wk [1, 0] rfl ?_
      exact ih (y1 + 1) m_1
set_option maxRecDepth 100000 in
set_option maxHeartbeats 4000000 in
theorem v_X6_leaveAlone {l : Launch} {p : Program} {e : Env} {s : State} {mt : MethodId} {args : Array Value} {below : List Frame} {meth : Method} {c : Code} {A : Nat → Prop} {ad0 : Nat → Nat} {G : Gt} {N : Nat} (C : Cx G p s mt args meth c RX6 cX6_leaveAlone 2 none "leaveAlone" A) (hN : 109 ≤ N) (m : Mem) : V G SX oV l p e s mt args below meth c 2 1 A ad0 N N RX N RX 0 [(0, .ref 90)] [] m (X6_leaveAlone   m) := by
  rw [X6_leaveAlone]
  refine V.iconst (pc := 0) C dX6_leaveAlone_0 (v := 0) (by decide) ?_
  refine V.istore_n (pc := 1) C dX6_leaveAlone_1 (L2 := [(1, .int 0), (0, .ref 90)]) (by decide) rfl ?_
  refine V.wk [1, 0] rfl ?_
  exact v_X6_leaveAlone_b2 C hN FU 0 m
theorem c_X6_leaveAlone (l : Launch) {N : Nat} (hN : 109 ≤ N) (m : Mem) : Ct l yX6_leaveAlone cX6_leaveAlone 2 none 1 SX oV N N RX RX [.ref 90] m (X6_leaveAlone   m) :=
  Ct.of (own := RX6) (nm := "leaveAlone") (by decide) rfl rfl (Nat.le_of_ble_eq_true rfl) (fun _ _ _ _ _ _ _ _ _ _ _ C => v_X6_leaveAlone C hN  m)
theorem dX6_seat_0 : decode cX6_seat 0 = .ok (.aload_n 0, 1) := by decide +kernel
theorem dX6_seat_1 : decode cX6_seat 1 = .ok (.invokevirtual 64, 3) := by decide +kernel
theorem dX6_seat_4 : decode cX6_seat 4 = .ok (.iconst 0, 1) := by decide +kernel
theorem dX6_seat_5 : decode cX6_seat 5 = .ok (.istore_n 2, 1) := by decide +kernel
theorem dX6_seat_6 : decode cX6_seat 6 = .ok (.iload_n 2, 1) := by decide +kernel
theorem dX6_seat_7 : decode cX6_seat 7 = .ok (.aload_n 0, 1) := by decide +kernel
theorem dX6_seat_8 : decode cX6_seat 8 = .ok (.getfield 40, 3) := by decide +kernel
theorem dX6_seat_11 : decode cX6_seat 11 = .ok (.if_icmp .ge 24, 3) := by decide +kernel
theorem dX6_seat_14 : decode cX6_seat 14 = .ok (.iload_n 2, 1) := by decide +kernel
theorem dX6_seat_15 : decode cX6_seat 15 = .ok (.aload_n 1, 1) := by decide +kernel
theorem dX6_seat_16 : decode cX6_seat 16 = .ok (.arraylength, 1) := by decide +kernel
theorem dX6_seat_17 : decode cX6_seat 17 = .ok (.if_icmp .ge 18, 3) := by decide +kernel
theorem dX6_seat_20 : decode cX6_seat 20 = .ok (.aload_n 0, 1) := by decide +kernel
theorem dX6_seat_21 : decode cX6_seat 21 = .ok (.getfield 25, 3) := by decide +kernel
theorem dX6_seat_24 : decode cX6_seat 24 = .ok (.iload_n 2, 1) := by decide +kernel
theorem dX6_seat_25 : decode cX6_seat 25 = .ok (.aload_n 1, 1) := by decide +kernel
theorem dX6_seat_26 : decode cX6_seat 26 = .ok (.iload_n 2, 1) := by decide +kernel
theorem dX6_seat_27 : decode cX6_seat 27 = .ok (.iaload, 1) := by decide +kernel
theorem dX6_seat_28 : decode cX6_seat 28 = .ok (.iastore, 1) := by decide +kernel
theorem dX6_seat_29 : decode cX6_seat 29 = .ok (.iinc 2 1, 3) := by decide +kernel
theorem dX6_seat_32 : decode cX6_seat 32 = .ok (.goto (-26), 3) := by decide +kernel
theorem dX6_seat_35 : decode cX6_seat 35 = .ok (.return_, 1) := by decide +kernel
set_option maxRecDepth 100000 in
set_option maxHeartbeats 4000000 in
theorem v_X6_seat_b6 {l : Launch} {p : Program} {e : Env} {s : State} {mt : MethodId} {args : Array Value} {below : List Frame} {meth : Method} {c : Code} {A : Nat → Prop} {ad0 : Nat → Nat} {G : Gt} {N : Nat} (C : Cx G p s mt args meth c RX6 cX6_seat 3 none "seat" A) (hN : 109 ≤ N) (b1 : Nat) (hs1 : SX b1 = .inr (0, 8)) (hb1 : b1 < N) : ∀ (n : Nat) (y2 : Int32) (m : Mem), V G SX oV l p e s mt args below meth c 3 2 A ad0 N N RX N RX 6 [(0, .ref 90), (1, .ref b1), (2, .int y2)] [] m (X6_seat_b6 b1 n y2 m) := by
  intro n
  induction n with
  | zero =>
    intro y2 m
    rw [X6_seat_b6]
    exact V.nil
  | succ n ih =>
    intro y2 m
    rw [X6_seat_b6]
    refine V.iload_n (pc := 6) C dX6_seat_6 2 rfl ?_
    refine V.aload_n (pc := 7) C dX6_seat_7 0 rfl ?_
    refine V.geti (pc := 8) C fl_RX6_40 sX90 (kX90 hN) rfl dX6_seat_8 ?_
    refine V.icmp_ge (pc := 11) C dX6_seat_11 35 (by decide) (fun _ => ?_) (fun _ => ?_)
    · exact V.vret C dX6_seat_35
    · refine V.iload_n (pc := 14) C dX6_seat_14 2 rfl ?_
      refine V.aload_n (pc := 15) C dX6_seat_15 1 rfl ?_
      refine V.alen (pc := 16) (v := 8) C hs1 (by decide) hb1 rfl dX6_seat_16 ?_
      refine V.icmp_ge (pc := 17) C dX6_seat_17 35 (by decide) (fun _ => ?_) (fun _ => ?_)
      · exact V.vret C dX6_seat_35
      · refine V.aload_n (pc := 20) C dX6_seat_20 0 rfl ?_
        refine V.getr (pc := 21) C fl_RX6_25 sX90 (kX90 hN) rfl rX90_5 dX6_seat_21 ?_
        refine V.iload_n (pc := 24) C dX6_seat_24 2 rfl ?_
        refine V.aload_n (pc := 25) C dX6_seat_25 1 rfl ?_
        refine V.iload_n (pc := 26) C dX6_seat_26 2 rfl ?_
        refine V.iald (pc := 27) C hs1 hb1 dX6_seat_27 (fun _ => ?_)
        refine V.iast (pc := 28) C sX95 (kX95 hN) dX6_seat_28 (fun _ => ?_)
        refine V.ltm (fun m_3 => ?_)
        refine V.iinc (pc := 29) C dX6_seat_29 (v := 1) (L2 := [(2, .int (y2 + 1)), (0, .ref 90), (1, .ref b1)]) 2 rfl (by decide) (by decide) rfl ?_
        refine V.goto (pc := 32) C dX6_seat_32 6 (by decide) ?_
        refine V.wk [1, 2, 0] rfl ?_
        exact ih (y2 + 1) m_3
set_option maxRecDepth 100000 in
set_option maxHeartbeats 4000000 in
theorem v_X6_seat {l : Launch} {p : Program} {e : Env} {s : State} {mt : MethodId} {args : Array Value} {below : List Frame} {meth : Method} {c : Code} {A : Nat → Prop} {ad0 : Nat → Nat} {G : Gt} {N : Nat} (C : Cx G p s mt args meth c RX6 cX6_seat 3 none "seat" A) (hN : 109 ≤ N) (b1 : Nat) (hs1 : SX b1 = .inr (0, 8)) (hb1 : b1 < N) (m : Mem) : V G SX oV l p e s mt args below meth c 3 2 A ad0 N N RX N RX 0 [(0, .ref 90), (1, .ref b1)] [] m (X6_seat b1  m) := by
  rw [X6_seat]
  refine V.aload_n (pc := 0) C dX6_seat_0 0 rfl ?_
  refine V.callV (pc := 1) (st := []) C (c_X6_leaveAlone l hN m) obV ck_X6_leaveAlone ml_RX6_64 rfl rfl sX90 (kX90 hN) rfl rfl (Nat.le_of_ble_eq_true rfl) ⟨by decide, by decide⟩ dX6_seat_1 (fun r_1 m_2 _ => ?_)
  refine V.iconst (pc := 4) C dX6_seat_4 (v := 0) (by decide) ?_
  refine V.istore_n (pc := 5) C dX6_seat_5 (L2 := [(2, .int 0), (0, .ref 90), (1, .ref b1)]) (by decide) rfl ?_
  refine V.wk [1, 2, 0] rfl ?_
  exact v_X6_seat_b6 C hN b1 hs1 hb1 FU 0 m_2
theorem c_X6_seat (l : Launch) {N : Nat} (hN : 109 ≤ N) (b1 : Nat) (hs1 : SX b1 = .inr (0, 8)) (hb1 : b1 < N) (m : Mem) : Ct l yX6_seat cX6_seat 3 none 2 SX oV N N RX RX [.ref 90, .ref b1] m (X6_seat b1  m) :=
  Ct.of (own := RX6) (nm := "seat") (by decide) rfl rfl (Nat.le_of_ble_eq_true rfl) (fun _ _ _ _ _ _ _ _ _ _ _ C => v_X6_seat C hN b1 hs1 hb1  m)
theorem dX6_isOpen_0 : decode cX6_isOpen 0 = .ok (.aload_n 0, 1) := by decide +kernel
theorem dX6_isOpen_1 : decode cX6_isOpen 1 = .ok (.getfield 9, 3) := by decide +kernel
theorem dX6_isOpen_4 : decode cX6_isOpen 4 = .ok (.iload_n 1, 1) := by decide +kernel
theorem dX6_isOpen_5 : decode cX6_isOpen 5 = .ok (.bipush 8, 2) := by decide +kernel
theorem dX6_isOpen_7 : decode cX6_isOpen 7 = .ok (.imul, 1) := by decide +kernel
theorem dX6_isOpen_8 : decode cX6_isOpen 8 = .ok (.iload_n 2, 1) := by decide +kernel
theorem dX6_isOpen_9 : decode cX6_isOpen 9 = .ok (.iadd, 1) := by decide +kernel
theorem dX6_isOpen_10 : decode cX6_isOpen 10 = .ok (.baload, 1) := by decide +kernel
theorem dX6_isOpen_11 : decode cX6_isOpen 11 = .ok (.ireturn, 1) := by decide +kernel
set_option maxRecDepth 100000 in
set_option maxHeartbeats 4000000 in
theorem v_X6_isOpen {l : Launch} {p : Program} {e : Env} {s : State} {mt : MethodId} {args : Array Value} {below : List Frame} {meth : Method} {c : Code} {A : Nat → Prop} {ad0 : Nat → Nat} {G : Gt} {N : Nat} (C : Cx G p s mt args meth c RX6 cX6_isOpen 3 (some .boolean) "isOpen" A) (hN : 109 ≤ N) (x1 : Int32) (x2 : Int32) (m : Mem) : V G SX oI l p e s mt args below meth c 3 1 A ad0 N N RX N RX 0 [(0, .ref 90), (1, .int x1), (2, .int x2)] [] m (X6_isOpen  x1 x2 m) := by
  rw [X6_isOpen]
  refine V.aload_n (pc := 0) C dX6_isOpen_0 0 rfl ?_
  refine V.getr (pc := 1) C fl_RX6_9 sX90 (kX90 hN) rfl rX90_1 dX6_isOpen_1 ?_
  refine V.iload_n (pc := 4) C dX6_isOpen_4 1 rfl ?_
  refine V.bipush (pc := 5) C dX6_isOpen_5 (v := 8) (by decide) ?_
  refine V.imul (pc := 7) C dX6_isOpen_7 ?_
  refine V.iload_n (pc := 8) C dX6_isOpen_8 2 rfl ?_
  refine V.iadd (pc := 9) C dX6_isOpen_9 ?_
  refine V.zald (pc := 10) C sX91 (kX91 hN) dX6_isOpen_10 (fun _ => ?_)
  exact V.bret C dX6_isOpen_11
theorem c_X6_isOpen (l : Launch) {N : Nat} (hN : 109 ≤ N) (x1 : Int32) (x2 : Int32) (m : Mem) : Ct l yX6_isOpen cX6_isOpen 3 (some .boolean) 1 SX oI N N RX RX [.ref 90, .int x1, .int x2] m (X6_isOpen  x1 x2 m) :=
  Ct.of (own := RX6) (nm := "isOpen") (by decide) rfl rfl (Nat.le_of_ble_eq_true rfl) (fun _ _ _ _ _ _ _ _ _ _ _ C => v_X6_isOpen C hN x1 x2 m)
theorem dX6_goodNow_0 : decode cX6_goodNow 0 = .ok (.aload_n 0, 1) := by decide +kernel
theorem dX6_goodNow_1 : decode cX6_goodNow 1 = .ok (.getfield 25, 3) := by decide +kernel
theorem dX6_goodNow_4 : decode cX6_goodNow 4 = .ok (.iload_n 1, 1) := by decide +kernel
theorem dX6_goodNow_5 : decode cX6_goodNow 5 = .ok (.iaload, 1) := by decide +kernel
theorem dX6_goodNow_6 : decode cX6_goodNow 6 = .ok (.istore_n 2, 1) := by decide +kernel
theorem dX6_goodNow_7 : decode cX6_goodNow 7 = .ok (.iload_n 2, 1) := by decide +kernel
theorem dX6_goodNow_8 : decode cX6_goodNow 8 = .ok (.ifCond .lt 11, 3) := by decide +kernel
theorem dX6_goodNow_11 : decode cX6_goodNow 11 = .ok (.iload_n 2, 1) := by decide +kernel
theorem dX6_goodNow_12 : decode cX6_goodNow 12 = .ok (.aload_n 0, 1) := by decide +kernel
theorem dX6_goodNow_13 : decode cX6_goodNow 13 = .ok (.getfield 40, 3) := by decide +kernel
theorem dX6_goodNow_16 : decode cX6_goodNow 16 = .ok (.if_icmp .lt 8, 3) := by decide +kernel
theorem dX6_goodNow_19 : decode cX6_goodNow 19 = .ok (.ldc 59, 2) := by decide +kernel
theorem dX6_goodNow_21 : decode cX6_goodNow 21 = .ok (.goto 14, 3) := by decide +kernel
theorem dX6_goodNow_24 : decode cX6_goodNow 24 = .ok (.aload_n 0, 1) := by decide +kernel
theorem dX6_goodNow_25 : decode cX6_goodNow 25 = .ok (.getfield 15, 3) := by decide +kernel
theorem dX6_goodNow_28 : decode cX6_goodNow 28 = .ok (.iload_n 1, 1) := by decide +kernel
theorem dX6_goodNow_29 : decode cX6_goodNow 29 = .ok (.bipush 8, 2) := by decide +kernel
theorem dX6_goodNow_31 : decode cX6_goodNow 31 = .ok (.imul, 1) := by decide +kernel
theorem dX6_goodNow_32 : decode cX6_goodNow 32 = .ok (.iload_n 2, 1) := by decide +kernel
theorem dX6_goodNow_33 : decode cX6_goodNow 33 = .ok (.iadd, 1) := by decide +kernel
theorem dX6_goodNow_34 : decode cX6_goodNow 34 = .ok (.iaload, 1) := by decide +kernel
theorem dX6_goodNow_35 : decode cX6_goodNow 35 = .ok (.ireturn, 1) := by decide +kernel
set_option maxRecDepth 100000 in
set_option maxHeartbeats 4000000 in
theorem v_X6_goodNow {l : Launch} {p : Program} {e : Env} {s : State} {mt : MethodId} {args : Array Value} {below : List Frame} {meth : Method} {c : Code} {A : Nat → Prop} {ad0 : Nat → Nat} {G : Gt} {N : Nat} (C : Cx G p s mt args meth c RX6 cX6_goodNow 3 (some .int) "goodNow" A) (hN : 109 ≤ N) (x1 : Int32) (m : Mem) : V G SX oI l p e s mt args below meth c 3 1 A ad0 N N RX N RX 0 [(0, .ref 90), (1, .int x1)] [] m (X6_goodNow  x1 m) := by
  rw [X6_goodNow]
  refine V.aload_n (pc := 0) C dX6_goodNow_0 0 rfl ?_
  refine V.getr (pc := 1) C fl_RX6_25 sX90 (kX90 hN) rfl rX90_5 dX6_goodNow_1 ?_
  refine V.iload_n (pc := 4) C dX6_goodNow_4 1 rfl ?_
  refine V.iald (pc := 5) C sX95 (kX95 hN) dX6_goodNow_5 (fun _ => ?_)
  refine V.lti (fun x_1 _ => ?_)
  refine V.istore_n (pc := 6) C dX6_goodNow_6 (L2 := [(2, .int x_1), (0, .ref 90), (1, .int x1)]) (by decide) rfl ?_
  refine V.iload_n (pc := 7) C dX6_goodNow_7 0 rfl ?_
  refine V.if_lt (pc := 8) C dX6_goodNow_8 19 (by decide) (fun _ => ?_) (fun _ => ?_)
  · refine V.ldc (pc := 19) C dX6_goodNow_19 (v := (-2000000000)) cn_RX6_59 ?_
    refine V.goto (pc := 21) C dX6_goodNow_21 35 (by decide) ?_
    exact V.iret C dX6_goodNow_35
  · refine V.iload_n (pc := 11) C dX6_goodNow_11 0 rfl ?_
    refine V.aload_n (pc := 12) C dX6_goodNow_12 1 rfl ?_
    refine V.geti (pc := 13) C fl_RX6_40 sX90 (kX90 hN) rfl dX6_goodNow_13 ?_
    refine V.icmp_lt (pc := 16) C dX6_goodNow_16 24 (by decide) (fun _ => ?_) (fun _ => ?_)
    · refine V.aload_n (pc := 24) C dX6_goodNow_24 1 rfl ?_
      refine V.getr (pc := 25) C fl_RX6_15 sX90 (kX90 hN) rfl rX90_2 dX6_goodNow_25 ?_
      refine V.iload_n (pc := 28) C dX6_goodNow_28 2 rfl ?_
      refine V.bipush (pc := 29) C dX6_goodNow_29 (v := 8) (by decide) ?_
      refine V.imul (pc := 31) C dX6_goodNow_31 ?_
      refine V.iload_n (pc := 32) C dX6_goodNow_32 0 rfl ?_
      refine V.iadd (pc := 33) C dX6_goodNow_33 ?_
      refine V.iald (pc := 34) C sX92 (kX92 hN) dX6_goodNow_34 (fun _ => ?_)
      exact V.iret C dX6_goodNow_35
    · refine V.ldc (pc := 19) C dX6_goodNow_19 (v := (-2000000000)) cn_RX6_59 ?_
      refine V.goto (pc := 21) C dX6_goodNow_21 35 (by decide) ?_
      exact V.iret C dX6_goodNow_35
theorem c_X6_goodNow (l : Launch) {N : Nat} (hN : 109 ≤ N) (x1 : Int32) (m : Mem) : Ct l yX6_goodNow cX6_goodNow 3 (some .int) 1 SX oI N N RX RX [.ref 90, .int x1] m (X6_goodNow  x1 m) :=
  Ct.of (own := RX6) (nm := "goodNow") (by decide) rfl rfl (Nat.le_of_ble_eq_true rfl) (fun _ _ _ _ _ _ _ _ _ _ _ C => v_X6_goodNow C hN x1 m)
