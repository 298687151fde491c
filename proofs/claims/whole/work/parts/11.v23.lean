theorem dX12_stable_0 : decode cX12_stable 0 = .ok (.aload_n 0, 1) := by decide +kernel
theorem dX12_stable_1 : decode cX12_stable 1 = .ok (.iconst 0, 1) := by decide +kernel
theorem dX12_stable_2 : decode cX12_stable 2 = .ok (.putfield 1, 3) := by decide +kernel
theorem dX12_stable_5 : decode cX12_stable 5 = .ok (.aload_n 0, 1) := by decide +kernel
theorem dX12_stable_6 : decode cX12_stable 6 = .ok (.iload_n 1, 1) := by decide +kernel
theorem dX12_stable_7 : decode cX12_stable 7 = .ok (.invokevirtual 355, 3) := by decide +kernel
theorem dX12_stable_10 : decode cX12_stable 10 = .ok (.ifCond .ne 6, 3) := by decide +kernel
theorem dX12_stable_13 : decode cX12_stable 13 = .ok (.bipush (-2), 2) := by decide +kernel
theorem dX12_stable_15 : decode cX12_stable 15 = .ok (.ireturn, 1) := by decide +kernel
theorem dX12_stable_16 : decode cX12_stable 16 = .ok (.aload_n 0, 1) := by decide +kernel
theorem dX12_stable_17 : decode cX12_stable 17 = .ok (.iconst 0, 1) := by decide +kernel
theorem dX12_stable_18 : decode cX12_stable 18 = .ok (.iconst 0, 1) := by decide +kernel
theorem dX12_stable_19 : decode cX12_stable 19 = .ok (.invokevirtual 348, 3) := by decide +kernel
theorem dX12_stable_22 : decode cX12_stable 22 = .ok (.aload_n 0, 1) := by decide +kernel
theorem dX12_stable_23 : decode cX12_stable 23 = .ok (.iconst 1, 1) := by decide +kernel
theorem dX12_stable_24 : decode cX12_stable 24 = .ok (.iconst 0, 1) := by decide +kernel
theorem dX12_stable_25 : decode cX12_stable 25 = .ok (.invokevirtual 351, 3) := by decide +kernel
theorem dX12_stable_28 : decode cX12_stable 28 = .ok (.aload_n 0, 1) := by decide +kernel
theorem dX12_stable_29 : decode cX12_stable 29 = .ok (.iload_n 1, 1) := by decide +kernel
theorem dX12_stable_30 : decode cX12_stable 30 = .ok (.invokevirtual 358, 3) := by decide +kernel
theorem dX12_stable_33 : decode cX12_stable 33 = .ok (.ireturn, 1) := by decide +kernel
set_option maxRecDepth 100000 in
set_option maxHeartbeats 4000000 in
theorem v_X12_stable {l : Launch} {p : Program} {e : Env} {s : State} {mt : MethodId} {args : Array Value} {below : List Frame} {meth : Method} {c : Code} {A : Nat → Prop} {ad0 : Nat → Nat} {G : Gt}  (C : Cx G p s mt args meth c RX12 cX12_stable 2 (some .int) "stable" A)  (x1 : Int32) (m : Mem) : V G SM oI l p e s mt args below meth c 2 69 A ad0 17 17 RM 17 RM 0 [(0, .ref 0), (1, .int x1)] [] m (X12_stable  x1 m) := by
  rw [X12_stable]
  refine V.aload_n (pc := 0) C dX12_stable_0 0 rfl ?_
  refine V.iconst (pc := 1) C dX12_stable_1 (v := 0) (by decide) ?_
  refine V.puti (pc := 2) C fp_RX12_1 sM0 kM0 rfl dX12_stable_2 ?_
  refine V.ltm (fun m_1 => ?_)
  refine V.aload_n (pc := 5) C dX12_stable_5 0 rfl ?_
  refine V.iload_n (pc := 6) C dX12_stable_6 1 rfl ?_
  refine V.callV (pc := 7) (st := []) C (c_X12_asksPerson l x1 m_1) obI ck_X12_asksPerson ml_RX12_355 rfl rfl sM0 kM0 rfl rfl (Nat.le_of_ble_eq_true rfl) ⟨by decide, by decide⟩ dX12_stable_7 (fun r_2 m_3 _ => ?_)
  refine V.if_ne (pc := 10) C dX12_stable_10 16 (by decide) (fun _ => ?_) (fun _ => ?_)
  · refine V.aload_n (pc := 16) C dX12_stable_16 0 rfl ?_
    refine V.iconst (pc := 17) C dX12_stable_17 (v := 0) (by decide) ?_
    refine V.iconst (pc := 18) C dX12_stable_18 (v := 0) (by decide) ?_
    refine V.callV (pc := 19) (st := []) C (c_X12_laysPairs l 0 0 m_3) obV ck_X12_laysPairs ml_RX12_348 rfl rfl sM0 kM0 rfl rfl (Nat.le_of_ble_eq_true rfl) ⟨by decide, by decide⟩ dX12_stable_19 (fun r_4 m_5 _ => ?_)
    refine V.aload_n (pc := 22) C dX12_stable_22 0 rfl ?_
    refine V.iconst (pc := 23) C dX12_stable_23 (v := 1) (by decide) ?_
    refine V.iconst (pc := 24) C dX12_stable_24 (v := 0) (by decide) ?_
    refine V.callV (pc := 25) (st := []) C (c_X12_begins l 1 0 m_5) obV ck_X12_begins ml_RX12_351 rfl rfl sM0 kM0 rfl rfl (Nat.le_of_ble_eq_true rfl) ⟨by decide, by decide⟩ dX12_stable_25 (fun r_6 m_7 _ => ?_)
    refine V.aload_n (pc := 28) C dX12_stable_28 0 rfl ?_
    refine V.iload_n (pc := 29) C dX12_stable_29 1 rfl ?_
    refine V.callV (pc := 30) (st := []) C (c_X12_found l x1 m_7) obI ck_X12_found ml_RX12_358 rfl rfl sM0 kM0 rfl rfl (Nat.le_of_ble_eq_true rfl) ⟨by decide, by decide⟩ dX12_stable_30 (fun r_8 m_9 _ => ?_)
    exact V.iret C dX12_stable_33
  · refine V.bipush (pc := 13) C dX12_stable_13 (v := (-2)) (by decide) ?_
    exact V.iret C dX12_stable_15
theorem c_X12_stable (l : Launch)   (x1 : Int32) (m : Mem) : Ct l yX12_stable cX12_stable 2 (some .int) 69 SM oI 17 17 RM RM [.ref 0, .int x1] m (X12_stable  x1 m) :=
  Ct.of (own := RX12) (nm := "stable") (by decide) rfl rfl (Nat.le_of_ble_eq_true rfl) (fun _ _ _ _ _ _ _ _ _ _ _ C => v_X12_stable C  x1 m)
theorem dX12_strikes_0 : decode cX12_strikes 0 = .ok (.aload_n 0, 1) := by decide +kernel
theorem dX12_strikes_1 : decode cX12_strikes 1 = .ok (.iconst 0, 1) := by decide +kernel
theorem dX12_strikes_2 : decode cX12_strikes 2 = .ok (.putfield 1, 3) := by decide +kernel
theorem dX12_strikes_5 : decode cX12_strikes 5 = .ok (.aload_n 0, 1) := by decide +kernel
theorem dX12_strikes_6 : decode cX12_strikes 6 = .ok (.iload_n 1, 1) := by decide +kernel
theorem dX12_strikes_7 : decode cX12_strikes 7 = .ok (.i2l, 1) := by decide +kernel
theorem dX12_strikes_8 : decode cX12_strikes 8 = .ok (.iload_n 2, 1) := by decide +kernel
theorem dX12_strikes_9 : decode cX12_strikes 9 = .ok (.i2l, 1) := by decide +kernel
theorem dX12_strikes_10 : decode cX12_strikes 10 = .ok (.invokevirtual 234, 3) := by decide +kernel
theorem dX12_strikes_13 : decode cX12_strikes 13 = .ok (.ifCond .eq 12, 3) := by decide +kernel
theorem dX12_strikes_16 : decode cX12_strikes 16 = .ok (.aload_n 0, 1) := by decide +kernel
theorem dX12_strikes_17 : decode cX12_strikes 17 = .ok (.iload_n 3, 1) := by decide +kernel
theorem dX12_strikes_18 : decode cX12_strikes 18 = .ok (.i2l, 1) := by decide +kernel
theorem dX12_strikes_19 : decode cX12_strikes 19 = .ok (.invokevirtual 210, 3) := by decide +kernel
theorem dX12_strikes_22 : decode cX12_strikes 22 = .ok (.ifCond .ne 6, 3) := by decide +kernel
theorem dX12_strikes_25 : decode cX12_strikes 25 = .ok (.ldc 243, 2) := by decide +kernel
theorem dX12_strikes_27 : decode cX12_strikes 27 = .ok (.ireturn, 1) := by decide +kernel
theorem dX12_strikes_28 : decode cX12_strikes 28 = .ok (.aload_n 0, 1) := by decide +kernel
theorem dX12_strikes_29 : decode cX12_strikes 29 = .ok (.iload_n 1, 1) := by decide +kernel
theorem dX12_strikes_30 : decode cX12_strikes 30 = .ok (.iload_n 2, 1) := by decide +kernel
theorem dX12_strikes_31 : decode cX12_strikes 31 = .ok (.invokevirtual 240, 3) := by decide +kernel
theorem dX12_strikes_34 : decode cX12_strikes 34 = .ok (.istore 4, 2) := by decide +kernel
theorem dX12_strikes_36 : decode cX12_strikes 36 = .ok (.aload_n 0, 1) := by decide +kernel
theorem dX12_strikes_37 : decode cX12_strikes 37 = .ok (.invokevirtual 361, 3) := by decide +kernel
theorem dX12_strikes_40 : decode cX12_strikes 40 = .ok (.aload_n 0, 1) := by decide +kernel
theorem dX12_strikes_41 : decode cX12_strikes 41 = .ok (.getfield 13, 3) := by decide +kernel
theorem dX12_strikes_44 : decode cX12_strikes 44 = .ok (.bipush 41, 2) := by decide +kernel
theorem dX12_strikes_46 : decode cX12_strikes 46 = .ok (.bipush 14, 2) := by decide +kernel
theorem dX12_strikes_48 : decode cX12_strikes 48 = .ok (.iload_n 1, 1) := by decide +kernel
theorem dX12_strikes_49 : decode cX12_strikes 49 = .ok (.imul, 1) := by decide +kernel
theorem dX12_strikes_50 : decode cX12_strikes 50 = .ok (.iadd, 1) := by decide +kernel
theorem dX12_strikes_51 : decode cX12_strikes 51 = .ok (.iload_n 3, 1) := by decide +kernel
theorem dX12_strikes_52 : decode cX12_strikes 52 = .ok (.iadd, 1) := by decide +kernel
theorem dX12_strikes_53 : decode cX12_strikes 53 = .ok (.iconst (-1), 1) := by decide +kernel
theorem dX12_strikes_54 : decode cX12_strikes 54 = .ok (.iastore, 1) := by decide +kernel
theorem dX12_strikes_55 : decode cX12_strikes 55 = .ok (.aload_n 0, 1) := by decide +kernel
theorem dX12_strikes_56 : decode cX12_strikes 56 = .ok (.getfield 13, 3) := by decide +kernel
theorem dX12_strikes_59 : decode cX12_strikes 59 = .ok (.bipush 41, 2) := by decide +kernel
theorem dX12_strikes_61 : decode cX12_strikes 61 = .ok (.bipush 14, 2) := by decide +kernel
theorem dX12_strikes_63 : decode cX12_strikes 63 = .ok (.iload_n 2, 1) := by decide +kernel
theorem dX12_strikes_64 : decode cX12_strikes 64 = .ok (.imul, 1) := by decide +kernel
theorem dX12_strikes_65 : decode cX12_strikes 65 = .ok (.iadd, 1) := by decide +kernel
theorem dX12_strikes_66 : decode cX12_strikes 66 = .ok (.iload_n 3, 1) := by decide +kernel
theorem dX12_strikes_67 : decode cX12_strikes 67 = .ok (.iadd, 1) := by decide +kernel
theorem dX12_strikes_68 : decode cX12_strikes 68 = .ok (.iconst (-1), 1) := by decide +kernel
theorem dX12_strikes_69 : decode cX12_strikes 69 = .ok (.iastore, 1) := by decide +kernel
theorem dX12_strikes_70 : decode cX12_strikes 70 = .ok (.aload_n 0, 1) := by decide +kernel
theorem dX12_strikes_71 : decode cX12_strikes 71 = .ok (.iload_n 1, 1) := by decide +kernel
theorem dX12_strikes_72 : decode cX12_strikes 72 = .ok (.iload_n 2, 1) := by decide +kernel
theorem dX12_strikes_73 : decode cX12_strikes 73 = .ok (.invokevirtual 240, 3) := by decide +kernel
theorem dX12_strikes_76 : decode cX12_strikes 76 = .ok (.istore 5, 2) := by decide +kernel
theorem dX12_strikes_78 : decode cX12_strikes 78 = .ok (.aload_n 0, 1) := by decide +kernel
theorem dX12_strikes_79 : decode cX12_strikes 79 = .ok (.invokevirtual 364, 3) := by decide +kernel
theorem dX12_strikes_82 : decode cX12_strikes 82 = .ok (.iload 4, 2) := by decide +kernel
theorem dX12_strikes_84 : decode cX12_strikes 84 = .ok (.iload 5, 2) := by decide +kernel
theorem dX12_strikes_86 : decode cX12_strikes 86 = .ok (.isub, 1) := by decide +kernel
theorem dX12_strikes_87 : decode cX12_strikes 87 = .ok (.ireturn, 1) := by decide +kernel
set_option maxRecDepth 100000 in
set_option maxHeartbeats 4000000 in
theorem v_X12_strikes {l : Launch} {p : Program} {e : Env} {s : State} {mt : MethodId} {args : Array Value} {below : List Frame} {meth : Method} {c : Code} {A : Nat → Prop} {ad0 : Nat → Nat} {G : Gt}  (C : Cx G p s mt args meth c RX12 cX12_strikes 6 (some .int) "strikes" A)  (x1 : Int32) (x2 : Int32) (x3 : Int32) (m : Mem) : V G SM oI l p e s mt args below meth c 6 6 A ad0 17 17 RM 17 RM 0 [(0, .ref 0), (1, .int x1), (2, .int x2), (3, .int x3)] [] m (X12_strikes  x1 x2 x3 m) := by
  rw [X12_strikes]
  refine V.aload_n (pc := 0) C dX12_strikes_0 0 rfl ?_
  refine V.iconst (pc := 1) C dX12_strikes_1 (v := 0) (by decide) ?_
  refine V.puti (pc := 2) C fp_RX12_1 sM0 kM0 rfl dX12_strikes_2 ?_
  refine V.ltm (fun m_1 => ?_)
  refine V.aload_n (pc := 5) C dX12_strikes_5 0 rfl ?_
  refine V.iload_n (pc := 6) C dX12_strikes_6 1 rfl ?_
  refine V.i2l (pc := 7) C dX12_strikes_7 ?_
  refine V.iload_n (pc := 8) C dX12_strikes_8 2 rfl ?_
  refine V.i2l (pc := 9) C dX12_strikes_9 ?_
  refine V.callV (pc := 10) (st := []) C (c_X12_areTwo l (Int32.toInt64 x1) (Int32.toInt64 x2) m_1) obI ck_X12_areTwo ml_RX12_234 rfl rfl sM0 kM0 rfl rfl (Nat.le_of_ble_eq_true rfl) ⟨by decide, by decide⟩ dX12_strikes_10 (fun r_2 m_3 _ => ?_)
  refine V.if_eq (pc := 13) C dX12_strikes_13 25 (by decide) (fun _ => ?_) (fun _ => ?_)
  · refine V.ldc (pc := 25) C dX12_strikes_25 (v := (-2000000)) cn_RX12_243 ?_
    exact V.iret C dX12_strikes_27
  · refine V.aload_n (pc := 16) C dX12_strikes_16 0 rfl ?_
    refine V.iload_n (pc := 17) C dX12_strikes_17 3 rfl ?_
    refine V.i2l (pc := 18) C dX12_strikes_18 ?_
    refine V.callV (pc := 19) (st := []) C (c_X12_isThing l (Int32.toInt64 x3) m_3) obI ck_X12_isThing ml_RX12_210 rfl rfl sM0 kM0 rfl rfl (Nat.le_of_ble_eq_true rfl) ⟨by decide, by decide⟩ dX12_strikes_19 (fun r_4 m_5 _ => ?_)
    refine V.if_ne (pc := 22) C dX12_strikes_22 28 (by decide) (fun _ => ?_) (fun _ => ?_)
    · refine V.aload_n (pc := 28) C dX12_strikes_28 0 rfl ?_
      refine V.iload_n (pc := 29) C dX12_strikes_29 1 rfl ?_
      refine V.iload_n (pc := 30) C dX12_strikes_30 2 rfl ?_
      refine V.callV (pc := 31) (st := []) C (c_X12_goodOf l x1 x2 m_5) obI ck_X12_goodOf ml_RX12_240 rfl rfl sM0 kM0 rfl rfl (Nat.le_of_ble_eq_true rfl) ⟨by decide, by decide⟩ dX12_strikes_31 (fun r_6 m_7 _ => ?_)
      refine V.istore (pc := 34) C dX12_strikes_34 (L2 := [(4, .int r_6), (0, .ref 0), (1, .int x1), (2, .int x2), (3, .int x3)]) (by decide) rfl ?_
      refine V.aload_n (pc := 36) C dX12_strikes_36 1 rfl ?_
      refine V.callV (pc := 37) (st := []) C (c_X12_keepsAhead l  m_7) obV ck_X12_keepsAhead ml_RX12_361 rfl rfl sM0 kM0 rfl rfl (Nat.le_of_ble_eq_true rfl) ⟨by decide, by decide⟩ dX12_strikes_37 (fun r_8 m_9 _ => ?_)
      refine V.aload_n (pc := 40) C dX12_strikes_40 1 rfl ?_
      refine V.getr (pc := 41) C fl_RX12_13 sM0 kM0 rfl rM0_1 dX12_strikes_41 ?_
      refine V.bipush (pc := 44) C dX12_strikes_44 (v := 41) (by decide) ?_
      refine V.bipush (pc := 46) C dX12_strikes_46 (v := 14) (by decide) ?_
      refine V.iload_n (pc := 48) C dX12_strikes_48 2 rfl ?_
      refine V.imul (pc := 49) C dX12_strikes_49 ?_
      refine V.iadd (pc := 50) C dX12_strikes_50 ?_
      refine V.iload_n (pc := 51) C dX12_strikes_51 4 rfl ?_
      refine V.iadd (pc := 52) C dX12_strikes_52 ?_
      refine V.iconst (pc := 53) C dX12_strikes_53 (v := (-1)) (by decide) ?_
      refine V.iast (pc := 54) C sM1 kM1 dX12_strikes_54 (fun _ => ?_)
      refine V.ltm (fun m_10 => ?_)
      refine V.aload_n (pc := 55) C dX12_strikes_55 1 rfl ?_
      refine V.getr (pc := 56) C fl_RX12_13 sM0 kM0 rfl rM0_1 dX12_strikes_56 ?_
      refine V.bipush (pc := 59) C dX12_strikes_59 (v := 41) (by decide) ?_
      refine V.bipush (pc := 61) C dX12_strikes_61 (v := 14) (by decide) ?_
      refine V.iload_n (pc := 63) C dX12_strikes_63 3 rfl ?_
      refine V.imul (pc := 64) C dX12_strikes_64 ?_
      refine V.iadd (pc := 65) C dX12_strikes_65 ?_
      refine V.iload_n (pc := 66) C dX12_strikes_66 4 rfl ?_
      refine V.iadd (pc := 67) C dX12_strikes_67 ?_
      refine V.iconst (pc := 68) C dX12_strikes_68 (v := (-1)) (by decide) ?_
      refine V.iast (pc := 69) C sM1 kM1 dX12_strikes_69 (fun _ => ?_)
      refine V.ltm (fun m_11 => ?_)
      refine V.aload_n (pc := 70) C dX12_strikes_70 1 rfl ?_
      refine V.iload_n (pc := 71) C dX12_strikes_71 2 rfl ?_
      refine V.iload_n (pc := 72) C dX12_strikes_72 3 rfl ?_
      refine V.callV (pc := 73) (st := []) C (c_X12_goodOf l x1 x2 m_11) obI ck_X12_goodOf ml_RX12_240 rfl rfl sM0 kM0 rfl rfl (Nat.le_of_ble_eq_true rfl) ⟨by decide, by decide⟩ dX12_strikes_73 (fun r_12 m_13 _ => ?_)
      refine V.istore (pc := 76) C dX12_strikes_76 (L2 := [(5, .int r_12), (4, .int r_6), (0, .ref 0), (1, .int x1), (2, .int x2), (3, .int x3)]) (by decide) rfl ?_
      refine V.aload_n (pc := 78) C dX12_strikes_78 2 rfl ?_
      refine V.callV (pc := 79) (st := []) C (c_X12_isAhead l  m_13) obV ck_X12_isAhead ml_RX12_364 rfl rfl sM0 kM0 rfl rfl (Nat.le_of_ble_eq_true rfl) ⟨by decide, by decide⟩ dX12_strikes_79 (fun r_14 m_15 _ => ?_)
      refine V.iload (pc := 82) C dX12_strikes_82 1 rfl ?_
      refine V.iload (pc := 84) C dX12_strikes_84 0 rfl ?_
      refine V.isub (pc := 86) C dX12_strikes_86 ?_
      exact V.iret C dX12_strikes_87
    · refine V.ldc (pc := 25) C dX12_strikes_25 (v := (-2000000)) cn_RX12_243 ?_
      exact V.iret C dX12_strikes_27
theorem c_X12_strikes (l : Launch)   (x1 : Int32) (x2 : Int32) (x3 : Int32) (m : Mem) : Ct l yX12_strikes cX12_strikes 6 (some .int) 6 SM oI 17 17 RM RM [.ref 0, .int x1, .int x2, .int x3] m (X12_strikes  x1 x2 x3 m) :=
  Ct.of (own := RX12) (nm := "strikes") (by decide) rfl rfl (Nat.le_of_ble_eq_true rfl) (fun _ _ _ _ _ _ _ _ _ _ _ C => v_X12_strikes C  x1 x2 x3 m)
theorem dX12_takes_0 : decode cX12_takes 0 = .ok (.aload_n 0, 1) := by decide +kernel
theorem dX12_takes_1 : decode cX12_takes 1 = .ok (.iconst 0, 1) := by decide +kernel
theorem dX12_takes_2 : decode cX12_takes 2 = .ok (.putfield 1, 3) := by decide +kernel
theorem dX12_takes_5 : decode cX12_takes 5 = .ok (.aload_n 0, 1) := by decide +kernel
theorem dX12_takes_6 : decode cX12_takes 6 = .ok (.iload_n 1, 1) := by decide +kernel
theorem dX12_takes_7 : decode cX12_takes 7 = .ok (.i2l, 1) := by decide +kernel
theorem dX12_takes_8 : decode cX12_takes 8 = .ok (.invokevirtual 194, 3) := by decide +kernel
theorem dX12_takes_11 : decode cX12_takes 11 = .ok (.ifCond .eq 30, 3) := by decide +kernel
theorem dX12_takes_14 : decode cX12_takes 14 = .ok (.aload_n 0, 1) := by decide +kernel
theorem dX12_takes_15 : decode cX12_takes 15 = .ok (.iload_n 2, 1) := by decide +kernel
theorem dX12_takes_16 : decode cX12_takes 16 = .ok (.i2l, 1) := by decide +kernel
theorem dX12_takes_17 : decode cX12_takes 17 = .ok (.invokevirtual 210, 3) := by decide +kernel
theorem dX12_takes_20 : decode cX12_takes 20 = .ok (.ifCond .eq 21, 3) := by decide +kernel
theorem dX12_takes_23 : decode cX12_takes 23 = .ok (.aload_n 0, 1) := by decide +kernel
theorem dX12_takes_24 : decode cX12_takes 24 = .ok (.sipush 1000, 3) := by decide +kernel
theorem dX12_takes_27 : decode cX12_takes 27 = .ok (.bipush 100, 2) := by decide +kernel
theorem dX12_takes_29 : decode cX12_takes 29 = .ok (.iload_n 1, 1) := by decide +kernel
theorem dX12_takes_30 : decode cX12_takes 30 = .ok (.imul, 1) := by decide +kernel
theorem dX12_takes_31 : decode cX12_takes 31 = .ok (.iadd, 1) := by decide +kernel
theorem dX12_takes_32 : decode cX12_takes 32 = .ok (.iload_n 2, 1) := by decide +kernel
theorem dX12_takes_33 : decode cX12_takes 33 = .ok (.iadd, 1) := by decide +kernel
theorem dX12_takes_34 : decode cX12_takes 34 = .ok (.i2l, 1) := by decide +kernel
theorem dX12_takes_35 : decode cX12_takes 35 = .ok (.invokevirtual 273, 3) := by decide +kernel
theorem dX12_takes_38 : decode cX12_takes 38 = .ok (.goto 4, 3) := by decide +kernel
theorem dX12_takes_41 : decode cX12_takes 41 = .ok (.iconst 1, 1) := by decide +kernel
theorem dX12_takes_42 : decode cX12_takes 42 = .ok (.istore_n 3, 1) := by decide +kernel
theorem dX12_takes_43 : decode cX12_takes 43 = .ok (.iload_n 3, 1) := by decide +kernel
theorem dX12_takes_44 : decode cX12_takes 44 = .ok (.ifCond .eq 8, 3) := by decide +kernel
theorem dX12_takes_47 : decode cX12_takes 47 = .ok (.bipush (-10), 2) := by decide +kernel
theorem dX12_takes_49 : decode cX12_takes 49 = .ok (.iload_n 3, 1) := by decide +kernel
theorem dX12_takes_50 : decode cX12_takes 50 = .ok (.isub, 1) := by decide +kernel
theorem dX12_takes_51 : decode cX12_takes 51 = .ok (.ireturn, 1) := by decide +kernel
theorem dX12_takes_52 : decode cX12_takes 52 = .ok (.aload_n 0, 1) := by decide +kernel
theorem dX12_takes_53 : decode cX12_takes 53 = .ok (.invokevirtual 267, 3) := by decide +kernel
theorem dX12_takes_56 : decode cX12_takes 56 = .ok (.aload_n 0, 1) := by decide +kernel
theorem dX12_takes_57 : decode cX12_takes 57 = .ok (.sipush 1000, 3) := by decide +kernel
theorem dX12_takes_60 : decode cX12_takes 60 = .ok (.bipush 100, 2) := by decide +kernel
theorem dX12_takes_62 : decode cX12_takes 62 = .ok (.iload_n 1, 1) := by decide +kernel
theorem dX12_takes_63 : decode cX12_takes 63 = .ok (.imul, 1) := by decide +kernel
theorem dX12_takes_64 : decode cX12_takes 64 = .ok (.iadd, 1) := by decide +kernel
theorem dX12_takes_65 : decode cX12_takes 65 = .ok (.iload_n 2, 1) := by decide +kernel
theorem dX12_takes_66 : decode cX12_takes 66 = .ok (.iadd, 1) := by decide +kernel
theorem dX12_takes_67 : decode cX12_takes 67 = .ok (.invokevirtual 277, 3) := by decide +kernel
theorem dX12_takes_70 : decode cX12_takes 70 = .ok (.aload_n 0, 1) := by decide +kernel
theorem dX12_takes_71 : decode cX12_takes 71 = .ok (.invokevirtual 270, 3) := by decide +kernel
theorem dX12_takes_74 : decode cX12_takes 74 = .ok (.aload_n 0, 1) := by decide +kernel
theorem dX12_takes_75 : decode cX12_takes 75 = .ok (.iload_n 1, 1) := by decide +kernel
theorem dX12_takes_76 : decode cX12_takes 76 = .ok (.invokevirtual 207, 3) := by decide +kernel
theorem dX12_takes_79 : decode cX12_takes 79 = .ok (.invokestatic 201, 3) := by decide +kernel
theorem dX12_takes_82 : decode cX12_takes 82 = .ok (.ireturn, 1) := by decide +kernel
set_option maxRecDepth 100000 in
set_option maxHeartbeats 4000000 in
theorem v_X12_takes_b42 {l : Launch} {p : Program} {e : Env} {s : State} {mt : MethodId} {args : Array Value} {below : List Frame} {meth : Method} {c : Code} {A : Nat → Prop} {ad0 : Nat → Nat} {G : Gt}  (C : Cx G p s mt args meth c RX12 cX12_takes 4 (some .int) "takes" A)  (y1 : Int32) (y2 : Int32) (z0 : Int32) (m : Mem) : V G SM oI l p e s mt args below meth c 4 7 A ad0 17 17 RM 17 RM 42 [(0, .ref 0), (1, .int y1), (2, .int y2)] [.int z0] m (X12_takes_b42  y1 y2 z0 m) := by
  rw [X12_takes_b42]
  refine V.istore_n (pc := 42) C dX12_takes_42 (L2 := [(3, .int z0), (0, .ref 0), (1, .int y1), (2, .int y2)]) (by decide) rfl ?_
  refine V.iload_n (pc := 43) C dX12_takes_43 0 rfl ?_
  refine V.if_eq (pc := 44) C dX12_takes_44 52 (by decide) (fun _ => ?_) (fun _ => ?_)
  · refine V.aload_n (pc := 52) C dX12_takes_52 1 rfl ?_
    refine V.callV (pc := 53) (st := []) C (c_X12_keeps l  m) obV ck_X12_keeps ml_RX12_267 rfl rfl sM0 kM0 rfl rfl (Nat.le_of_ble_eq_true rfl) ⟨by decide, by decide⟩ dX12_takes_53 (fun r_4 m_5 _ => ?_)
    refine V.aload_n (pc := 56) C dX12_takes_56 1 rfl ?_
    refine V.sipush (pc := 57) C dX12_takes_57 (v := 1000) (by decide) ?_
    refine V.bipush (pc := 60) C dX12_takes_60 (v := 100) (by decide) ?_
    refine V.iload_n (pc := 62) C dX12_takes_62 2 rfl ?_
    refine V.imul (pc := 63) C dX12_takes_63 ?_
    refine V.iadd (pc := 64) C dX12_takes_64 ?_
    refine V.iload_n (pc := 65) C dX12_takes_65 3 rfl ?_
    refine V.iadd (pc := 66) C dX12_takes_66 ?_
    refine V.callV (pc := 67) (st := []) C (c_X12_does l ((1000 + (100 * y1)) + y2) m_5) obV ck_X12_does ml_RX12_277 rfl rfl sM0 kM0 rfl rfl (Nat.le_of_ble_eq_true rfl) ⟨by decide, by decide⟩ dX12_takes_67 (fun r_6 m_7 _ => ?_)
    refine V.aload_n (pc := 70) C dX12_takes_70 1 rfl ?_
    refine V.callV (pc := 71) (st := []) C (c_X12_notes l  m_7) obV ck_X12_notes ml_RX12_270 rfl rfl sM0 kM0 rfl rfl (Nat.le_of_ble_eq_true rfl) ⟨by decide, by decide⟩ dX12_takes_71 (fun r_8 m_9 _ => ?_)
    refine V.aload_n (pc := 74) C dX12_takes_74 1 rfl ?_
    refine V.iload_n (pc := 75) C dX12_takes_75 2 rfl ?_
    refine V.callV (pc := 76) (st := []) C (c_X12_listOf l y1 m_9) obI ck_X12_listOf ml_RX12_207 rfl rfl sM0 kM0 rfl rfl (Nat.le_of_ble_eq_true rfl) ⟨by decide, by decide⟩ dX12_takes_76 (fun r_10 m_11 _ => ?_)
    refine V.callS (pc := 79) (st := []) C (c_X12_bitsOf l r_10 m_11) obI ck_X12_bitsOf ml_RX12_201 rfl rfl (Nat.le_of_ble_eq_true rfl) ⟨by decide, by decide⟩ dX12_takes_79 (fun r_12 m_13 _ => ?_)
    exact V.iret C dX12_takes_82
  · refine V.bipush (pc := 47) C dX12_takes_47 (v := (-10)) (by decide) ?_
    refine V.iload_n (pc := 49) C dX12_takes_49 0 rfl ?_
    refine V.isub (pc := 50) C dX12_takes_50 ?_
    exact V.iret C dX12_takes_51
set_option maxRecDepth 100000 in
set_option maxHeartbeats 4000000 in
theorem v_X12_takes {l : Launch} {p : Program} {e : Env} {s : State} {mt : MethodId} {args : Array Value} {below : List Frame} {meth : Method} {c : Code} {A : Nat → Prop} {ad0 : Nat → Nat} {G : Gt}  (C : Cx G p s mt args meth c RX12 cX12_takes 4 (some .int) "takes" A)  (x1 : Int32) (x2 : Int32) (m : Mem) : V G SM oI l p e s mt args below meth c 4 7 A ad0 17 17 RM 17 RM 0 [(0, .ref 0), (1, .int x1), (2, .int x2)] [] m (X12_takes  x1 x2 m) := by
  rw [X12_takes]
  refine V.aload_n (pc := 0) C dX12_takes_0 0 rfl ?_
  refine V.iconst (pc := 1) C dX12_takes_1 (v := 0) (by decide) ?_
  refine V.puti (pc := 2) C fp_RX12_1 sM0 kM0 rfl dX12_takes_2 ?_
  refine V.ltm (fun m_1 => ?_)
  refine V.aload_n (pc := 5) C dX12_takes_5 0 rfl ?_
  refine V.iload_n (pc := 6) C dX12_takes_6 1 rfl ?_
  refine V.i2l (pc := 7) C dX12_takes_7 ?_
  refine V.callV (pc := 8) (st := []) C (c_X12_isPerson l (Int32.toInt64 x1) m_1) obI ck_X12_isPerson ml_RX12_194 rfl rfl sM0 kM0 rfl rfl (Nat.le_of_ble_eq_true rfl) ⟨by decide, by decide⟩ dX12_takes_8 (fun r_2 m_3 _ => ?_)
  refine V.if_eq (pc := 11) C dX12_takes_11 41 (by decide) (fun _ => ?_) (fun _ => ?_)
  · refine V.iconst (pc := 41) C dX12_takes_41 (v := 1) (by decide) ?_
    refine V.wk [0, 1, 2] rfl ?_
    exact v_X12_takes_b42 C  x1 x2 1 m_3
  · refine V.aload_n (pc := 14) C dX12_takes_14 0 rfl ?_
    refine V.iload_n (pc := 15) C dX12_takes_15 2 rfl ?_
    refine V.i2l (pc := 16) C dX12_takes_16 ?_
    refine V.callV (pc := 17) (st := []) C (c_X12_isThing l (Int32.toInt64 x2) m_3) obI ck_X12_isThing ml_RX12_210 rfl rfl sM0 kM0 rfl rfl (Nat.le_of_ble_eq_true rfl) ⟨by decide, by decide⟩ dX12_takes_17 (fun r_14 m_15 _ => ?_)
    refine V.if_eq (pc := 20) C dX12_takes_20 41 (by decide) (fun _ => ?_) (fun _ => ?_)
    · refine V.iconst (pc := 41) C dX12_takes_41 (v := 1) (by decide) ?_
      refine V.wk [0, 1, 2] rfl ?_
      exact v_X12_takes_b42 C  x1 x2 1 m_15
    · refine V.aload_n (pc := 23) C dX12_takes_23 0 rfl ?_
      refine V.sipush (pc := 24) C dX12_takes_24 (v := 1000) (by decide) ?_
      refine V.bipush (pc := 27) C dX12_takes_27 (v := 100) (by decide) ?_
      refine V.iload_n (pc := 29) C dX12_takes_29 1 rfl ?_
      refine V.imul (pc := 30) C dX12_takes_30 ?_
      refine V.iadd (pc := 31) C dX12_takes_31 ?_
      refine V.iload_n (pc := 32) C dX12_takes_32 2 rfl ?_
      refine V.iadd (pc := 33) C dX12_takes_33 ?_
      refine V.i2l (pc := 34) C dX12_takes_34 ?_
      refine V.callV (pc := 35) (st := []) C (c_X12_whyNot l (Int32.toInt64 ((1000 + (100 * x1)) + x2)) m_15) obI ck_X12_whyNot ml_RX12_273 rfl rfl sM0 kM0 rfl rfl (Nat.le_of_ble_eq_true rfl) ⟨by decide, by decide⟩ dX12_takes_35 (fun r_16 m_17 _ => ?_)
      refine V.goto (pc := 38) C dX12_takes_38 42 (by decide) ?_
      refine V.wk [0, 1, 2] rfl ?_
      exact v_X12_takes_b42 C  x1 x2 r_16 m_17
theorem c_X12_takes (l : Launch)   (x1 : Int32) (x2 : Int32) (m : Mem) : Ct l yX12_takes cX12_takes 4 (some .int) 7 SM oI 17 17 RM RM [.ref 0, .int x1, .int x2] m (X12_takes  x1 x2 m) :=
  Ct.of (own := RX12) (nm := "takes") (by decide) rfl rfl (Nat.le_of_ble_eq_true rfl) (fun _ _ _ _ _ _ _ _ _ _ _ C => v_X12_takes C  x1 x2 m)
theorem dX12_thing_0 : decode cX12_thing 0 = .ok (.aload_n 0, 1) := by decide +kernel
theorem dX12_thing_1 : decode cX12_thing 1 = .ok (.iconst 0, 1) := by decide +kernel
theorem dX12_thing_2 : decode cX12_thing 2 = .ok (.putfield 1, 3) := by decide +kernel
theorem dX12_thing_5 : decode cX12_thing 5 = .ok (.aload_n 0, 1) := by decide +kernel
theorem dX12_thing_6 : decode cX12_thing 6 = .ok (.iload_n 1, 1) := by decide +kernel
theorem dX12_thing_7 : decode cX12_thing 7 = .ok (.i2l, 1) := by decide +kernel
theorem dX12_thing_8 : decode cX12_thing 8 = .ok (.invokevirtual 210, 3) := by decide +kernel
theorem dX12_thing_11 : decode cX12_thing 11 = .ok (.ifCond .ne 6, 3) := by decide +kernel
theorem dX12_thing_14 : decode cX12_thing 14 = .ok (.bipush (-2), 2) := by decide +kernel
theorem dX12_thing_16 : decode cX12_thing 16 = .ok (.ireturn, 1) := by decide +kernel
theorem dX12_thing_17 : decode cX12_thing 17 = .ok (.iload_n 2, 1) := by decide +kernel
theorem dX12_thing_18 : decode cX12_thing 18 = .ok (.tableswitch 58 0 3 #[30, 40, 46, 52], 30) := by decide +kernel
theorem dX12_thing_48 : decode cX12_thing 48 = .ok (.aload_n 0, 1) := by decide +kernel
theorem dX12_thing_49 : decode cX12_thing 49 = .ok (.getfield 13, 3) := by decide +kernel
theorem dX12_thing_52 : decode cX12_thing 52 = .ok (.bipush 11, 2) := by decide +kernel
theorem dX12_thing_54 : decode cX12_thing 54 = .ok (.iload_n 1, 1) := by decide +kernel
theorem dX12_thing_55 : decode cX12_thing 55 = .ok (.iadd, 1) := by decide +kernel
theorem dX12_thing_56 : decode cX12_thing 56 = .ok (.iaload, 1) := by decide +kernel
theorem dX12_thing_57 : decode cX12_thing 57 = .ok (.ireturn, 1) := by decide +kernel
theorem dX12_thing_58 : decode cX12_thing 58 = .ok (.aload_n 0, 1) := by decide +kernel
theorem dX12_thing_59 : decode cX12_thing 59 = .ok (.iload_n 1, 1) := by decide +kernel
theorem dX12_thing_60 : decode cX12_thing 60 = .ok (.invokevirtual 198, 3) := by decide +kernel
theorem dX12_thing_63 : decode cX12_thing 63 = .ok (.ireturn, 1) := by decide +kernel
theorem dX12_thing_64 : decode cX12_thing 64 = .ok (.aload_n 0, 1) := by decide +kernel
theorem dX12_thing_65 : decode cX12_thing 65 = .ok (.iload_n 1, 1) := by decide +kernel
theorem dX12_thing_66 : decode cX12_thing 66 = .ok (.invokevirtual 204, 3) := by decide +kernel
theorem dX12_thing_69 : decode cX12_thing 69 = .ok (.ireturn, 1) := by decide +kernel
theorem dX12_thing_70 : decode cX12_thing 70 = .ok (.aload_n 0, 1) := by decide +kernel
theorem dX12_thing_71 : decode cX12_thing 71 = .ok (.iload_n 1, 1) := by decide +kernel
theorem dX12_thing_72 : decode cX12_thing 72 = .ok (.invokevirtual 213, 3) := by decide +kernel
theorem dX12_thing_75 : decode cX12_thing 75 = .ok (.ireturn, 1) := by decide +kernel
theorem dX12_thing_76 : decode cX12_thing 76 = .ok (.bipush (-2), 2) := by decide +kernel
theorem dX12_thing_78 : decode cX12_thing 78 = .ok (.ireturn, 1) := by decide +kernel
set_option maxRecDepth 100000 in
set_option maxHeartbeats 4000000 in
theorem v_X12_thing {l : Launch} {p : Program} {e : Env} {s : State} {mt : MethodId} {args : Array Value} {below : List Frame} {meth : Method} {c : Code} {A : Nat → Prop} {ad0 : Nat → Nat} {G : Gt}  (C : Cx G p s mt args meth c RX12 cX12_thing 3 (some .int) "thing" A)  (x1 : Int32) (x2 : Int32) (m : Mem) : V G SM oI l p e s mt args below meth c 3 3 A ad0 17 17 RM 17 RM 0 [(0, .ref 0), (1, .int x1), (2, .int x2)] [] m (X12_thing  x1 x2 m) := by
  rw [X12_thing]
  refine V.aload_n (pc := 0) C dX12_thing_0 0 rfl ?_
  refine V.iconst (pc := 1) C dX12_thing_1 (v := 0) (by decide) ?_
  refine V.puti (pc := 2) C fp_RX12_1 sM0 kM0 rfl dX12_thing_2 ?_
  refine V.ltm (fun m_1 => ?_)
  refine V.aload_n (pc := 5) C dX12_thing_5 0 rfl ?_
  refine V.iload_n (pc := 6) C dX12_thing_6 1 rfl ?_
  refine V.i2l (pc := 7) C dX12_thing_7 ?_
  refine V.callV (pc := 8) (st := []) C (c_X12_isThing l (Int32.toInt64 x1) m_1) obI ck_X12_isThing ml_RX12_210 rfl rfl sM0 kM0 rfl rfl (Nat.le_of_ble_eq_true rfl) ⟨by decide, by decide⟩ dX12_thing_8 (fun r_2 m_3 _ => ?_)
  refine V.if_ne (pc := 11) C dX12_thing_11 17 (by decide) (fun _ => ?_) (fun _ => ?_)
  · refine V.iload_n (pc := 17) C dX12_thing_17 2 rfl ?_
    refine V.br (fun h_4 => ?_) (fun h_4 => ?_)
    · refine V.tin (pc := 18) (x := x2) (j := 0) (tgt := 48) C dX12_thing_18 h_4 (by decide) (by decide) rfl (by decide) ?_
      refine V.aload_n (pc := 48) C dX12_thing_48 0 rfl ?_
      refine V.getr (pc := 49) C fl_RX12_13 sM0 kM0 rfl rM0_1 dX12_thing_49 ?_
      refine V.bipush (pc := 52) C dX12_thing_52 (v := 11) (by decide) ?_
      refine V.iload_n (pc := 54) C dX12_thing_54 1 rfl ?_
      refine V.iadd (pc := 55) C dX12_thing_55 ?_
      refine V.iald (pc := 56) C sM1 kM1 dX12_thing_56 (fun _ => ?_)
      exact V.iret C dX12_thing_57
    · refine V.br (fun h_7 => ?_) (fun h_7 => ?_)
      · refine V.tin (pc := 18) (x := x2) (j := 1) (tgt := 58) C dX12_thing_18 h_7 (by decide) (by decide) rfl (by decide) ?_
        refine V.aload_n (pc := 58) C dX12_thing_58 0 rfl ?_
        refine V.iload_n (pc := 59) C dX12_thing_59 1 rfl ?_
        refine V.callV (pc := 60) (st := []) C (c_X12_loathers l x1 m_3) obI ck_X12_loathers ml_RX12_198 rfl rfl sM0 kM0 rfl rfl (Nat.le_of_ble_eq_true rfl) ⟨by decide, by decide⟩ dX12_thing_60 (fun r_5 m_6 _ => ?_)
        exact V.iret C dX12_thing_63
      · refine V.br (fun h_10 => ?_) (fun h_10 => ?_)
        · refine V.tin (pc := 18) (x := x2) (j := 2) (tgt := 64) C dX12_thing_18 h_10 (by decide) (by decide) rfl (by decide) ?_
          refine V.aload_n (pc := 64) C dX12_thing_64 0 rfl ?_
          refine V.iload_n (pc := 65) C dX12_thing_65 1 rfl ?_
          refine V.callV (pc := 66) (st := []) C (c_X12_rareOf l x1 m_3) obI ck_X12_rareOf ml_RX12_204 rfl rfl sM0 kM0 rfl rfl (Nat.le_of_ble_eq_true rfl) ⟨by decide, by decide⟩ dX12_thing_66 (fun r_8 m_9 _ => ?_)
          exact V.iret C dX12_thing_69
        · refine V.br (fun h_13 => ?_) (fun h_13 => ?_)
          · refine V.tin (pc := 18) (x := x2) (j := 3) (tgt := 70) C dX12_thing_18 h_13 (by decide) (by decide) rfl (by decide) ?_
            refine V.aload_n (pc := 70) C dX12_thing_70 0 rfl ?_
            refine V.iload_n (pc := 71) C dX12_thing_71 1 rfl ?_
            refine V.callV (pc := 72) (st := []) C (c_X12_areIt l x1 m_3) obI ck_X12_areIt ml_RX12_213 rfl rfl sM0 kM0 rfl rfl (Nat.le_of_ble_eq_true rfl) ⟨by decide, by decide⟩ dX12_thing_72 (fun r_11 m_12 _ => ?_)
            exact V.iret C dX12_thing_75
          · have g0 := lv_neT h_4 (show (0 : Int32).toInt = 0 from by decide)
            have g1 := lv_neT h_7 (show (1 : Int32).toInt = 1 from by decide)
            have g2 := lv_neT h_10 (show (2 : Int32).toInt = 2 from by decide)
            have g3 := lv_neT h_13 (show (3 : Int32).toInt = 3 from by decide)
            refine V.tout (pc := 18) (x := x2) (tgt := 76) C dX12_thing_18 (by omega) (by decide) ?_
            refine V.bipush (pc := 76) C dX12_thing_76 (v := (-2)) (by decide) ?_
            exact V.iret C dX12_thing_78
  · refine V.bipush (pc := 14) C dX12_thing_14 (v := (-2)) (by decide) ?_
    exact V.iret C dX12_thing_16
theorem c_X12_thing (l : Launch)   (x1 : Int32) (x2 : Int32) (m : Mem) : Ct l yX12_thing cX12_thing 3 (some .int) 3 SM oI 17 17 RM RM [.ref 0, .int x1, .int x2] m (X12_thing  x1 x2 m) :=
  Ct.of (own := RX12) (nm := "thing") (by decide) rfl rfl (Nat.le_of_ble_eq_true rfl) (fun _ _ _ _ _ _ _ _ _ _ _ C => v_X12_thing C  x1 x2 m)
theorem dX12_undo_0 : decode cX12_undo 0 = .ok (.aload_n 0, 1) := by decide +kernel
theorem dX12_undo_1 : decode cX12_undo 1 = .ok (.iconst 0, 1) := by decide +kernel
theorem dX12_undo_2 : decode cX12_undo 2 = .ok (.putfield 1, 3) := by decide +kernel
theorem dX12_undo_5 : decode cX12_undo 5 = .ok (.iload_n 1, 1) := by decide +kernel
theorem dX12_undo_6 : decode cX12_undo 6 = .ok (.i2l, 1) := by decide +kernel
theorem dX12_undo_7 : decode cX12_undo 7 = .ok (.lconst 1, 1) := by decide +kernel
theorem dX12_undo_8 : decode cX12_undo 8 = .ok (.ldc2_w 282, 3) := by decide +kernel
theorem dX12_undo_11 : decode cX12_undo 11 = .ok (.invokestatic 133, 3) := by decide +kernel
theorem dX12_undo_14 : decode cX12_undo 14 = .ok (.ifCond .eq 15, 3) := by decide +kernel
theorem dX12_undo_17 : decode cX12_undo 17 = .ok (.iload_n 1, 1) := by decide +kernel
theorem dX12_undo_18 : decode cX12_undo 18 = .ok (.aload_n 0, 1) := by decide +kernel
theorem dX12_undo_19 : decode cX12_undo 19 = .ok (.getfield 13, 3) := by decide +kernel
theorem dX12_undo_22 : decode cX12_undo 22 = .ok (.sipush 162, 3) := by decide +kernel
theorem dX12_undo_25 : decode cX12_undo 25 = .ok (.iaload, 1) := by decide +kernel
theorem dX12_undo_26 : decode cX12_undo 26 = .ok (.if_icmp .le 6, 3) := by decide +kernel
theorem dX12_undo_29 : decode cX12_undo 29 = .ok (.bipush (-3), 2) := by decide +kernel
theorem dX12_undo_31 : decode cX12_undo 31 = .ok (.ireturn, 1) := by decide +kernel
theorem dX12_undo_32 : decode cX12_undo 32 = .ok (.aload_n 0, 1) := by decide +kernel
theorem dX12_undo_33 : decode cX12_undo 33 = .ok (.getfield 13, 3) := by decide +kernel
theorem dX12_undo_36 : decode cX12_undo 36 = .ok (.sipush 162, 3) := by decide +kernel
theorem dX12_undo_39 : decode cX12_undo 39 = .ok (.dup2, 1) := by decide +kernel
theorem dX12_undo_40 : decode cX12_undo 40 = .ok (.iaload, 1) := by decide +kernel
theorem dX12_undo_41 : decode cX12_undo 41 = .ok (.iload_n 1, 1) := by decide +kernel
theorem dX12_undo_42 : decode cX12_undo 42 = .ok (.isub, 1) := by decide +kernel
theorem dX12_undo_43 : decode cX12_undo 43 = .ok (.iastore, 1) := by decide +kernel
theorem dX12_undo_44 : decode cX12_undo 44 = .ok (.iconst 0, 1) := by decide +kernel
theorem dX12_undo_45 : decode cX12_undo 45 = .ok (.istore_n 2, 1) := by decide +kernel
theorem dX12_undo_46 : decode cX12_undo 46 = .ok (.iload_n 2, 1) := by decide +kernel
theorem dX12_undo_47 : decode cX12_undo 47 = .ok (.sipush 129, 3) := by decide +kernel
theorem dX12_undo_50 : decode cX12_undo 50 = .ok (.if_icmp .ge 41, 3) := by decide +kernel
theorem dX12_undo_53 : decode cX12_undo 53 = .ok (.aload_n 0, 1) := by decide +kernel
theorem dX12_undo_54 : decode cX12_undo 54 = .ok (.getfield 13, 3) := by decide +kernel
theorem dX12_undo_57 : decode cX12_undo 57 = .ok (.bipush 33, 2) := by decide +kernel
theorem dX12_undo_59 : decode cX12_undo 59 = .ok (.iload_n 2, 1) := by decide +kernel
theorem dX12_undo_60 : decode cX12_undo 60 = .ok (.iadd, 1) := by decide +kernel
theorem dX12_undo_61 : decode cX12_undo 61 = .ok (.aload_n 0, 1) := by decide +kernel
theorem dX12_undo_62 : decode cX12_undo 62 = .ok (.getfield 13, 3) := by decide +kernel
theorem dX12_undo_65 : decode cX12_undo 65 = .ok (.sipush 163, 3) := by decide +kernel
theorem dX12_undo_68 : decode cX12_undo 68 = .ok (.sipush 129, 3) := by decide +kernel
theorem dX12_undo_71 : decode cX12_undo 71 = .ok (.aload_n 0, 1) := by decide +kernel
theorem dX12_undo_72 : decode cX12_undo 72 = .ok (.getfield 13, 3) := by decide +kernel
theorem dX12_undo_75 : decode cX12_undo 75 = .ok (.sipush 162, 3) := by decide +kernel
theorem dX12_undo_78 : decode cX12_undo 78 = .ok (.iaload, 1) := by decide +kernel
theorem dX12_undo_79 : decode cX12_undo 79 = .ok (.imul, 1) := by decide +kernel
theorem dX12_undo_80 : decode cX12_undo 80 = .ok (.iadd, 1) := by decide +kernel
theorem dX12_undo_81 : decode cX12_undo 81 = .ok (.iload_n 2, 1) := by decide +kernel
theorem dX12_undo_82 : decode cX12_undo 82 = .ok (.iadd, 1) := by decide +kernel
theorem dX12_undo_83 : decode cX12_undo 83 = .ok (.iaload, 1) := by decide +kernel
theorem dX12_undo_84 : decode cX12_undo 84 = .ok (.iastore, 1) := by decide +kernel
theorem dX12_undo_85 : decode cX12_undo 85 = .ok (.iinc 2 1, 3) := by decide +kernel
theorem dX12_undo_88 : decode cX12_undo 88 = .ok (.goto (-42), 3) := by decide +kernel
theorem dX12_undo_91 : decode cX12_undo 91 = .ok (.aload_n 0, 1) := by decide +kernel
theorem dX12_undo_92 : decode cX12_undo 92 = .ok (.getfield 13, 3) := by decide +kernel
theorem dX12_undo_95 : decode cX12_undo 95 = .ok (.sipush 162, 3) := by decide +kernel
theorem dX12_undo_98 : decode cX12_undo 98 = .ok (.iaload, 1) := by decide +kernel
theorem dX12_undo_99 : decode cX12_undo 99 = .ok (.ireturn, 1) := by decide +kernel
set_option maxRecDepth 100000 in
set_option maxHeartbeats 4000000 in
theorem v_X12_undo_b46 {l : Launch} {p : Program} {e : Env} {s : State} {mt : MethodId} {args : Array Value} {below : List Frame} {meth : Method} {c : Code} {A : Nat → Prop} {ad0 : Nat → Nat} {G : Gt}  (C : Cx G p s mt args meth c RX12 cX12_undo 3 (some .int) "undo" A)  : ∀ (n : Nat) (y2 : Int32) (m : Mem), V G SM oI l p e s mt args below meth c 3 2 A ad0 17 17 RM 17 RM 46 [(0, .ref 0), (2, .int y2)] [] m (X12_undo_b46  n y2 m) := by
  intro n
  induction n with
  | zero =>
    intro y2 m
    rw [X12_undo_b46]
    exact V.nil
  | succ n ih =>
    intro y2 m
    rw [X12_undo_b46]
    refine V.iload_n (pc := 46) C dX12_undo_46 1 rfl ?_
    refine V.sipush (pc := 47) C dX12_undo_47 (v := 129) (by decide) ?_
    refine V.icmp_ge (pc := 50) C dX12_undo_50 91 (by decide) (fun _ => ?_) (fun _ => ?_)
    · refine V.aload_n (pc := 91) C dX12_undo_91 0 rfl ?_
      refine V.getr (pc := 92) C fl_RX12_13 sM0 kM0 rfl rM0_1 dX12_undo_92 ?_
      refine V.sipush (pc := 95) C dX12_undo_95 (v := 162) (by decide) ?_
      refine V.iald (pc := 98) C sM1 kM1 dX12_undo_98 (fun _ => ?_)
      exact V.iret C dX12_undo_99
    · refine V.aload_n (pc := 53) C dX12_undo_53 0 rfl ?_
      refine V.getr (pc := 54) C fl_RX12_13 sM0 kM0 rfl rM0_1 dX12_undo_54 ?_
      refine V.bipush (pc := 57) C dX12_undo_57 (v := 33) (by decide) ?_
      refine V.iload_n (pc := 59) C dX12_undo_59 1 rfl ?_
      refine V.iadd (pc := 60) C dX12_undo_60 ?_
      refine V.aload_n (pc := 61) C dX12_undo_61 0 rfl ?_
      refine V.getr (pc := 62) C fl_RX12_13 sM0 kM0 rfl rM0_1 dX12_undo_62 ?_
      refine V.sipush (pc := 65) C dX12_undo_65 (v := 163) (by decide) ?_
      refine V.sipush (pc := 68) C dX12_undo_68 (v := 129) (by decide) ?_
      refine V.aload_n (pc := 71) C dX12_undo_71 0 rfl ?_
      refine V.getr (pc := 72) C fl_RX12_13 sM0 kM0 rfl rM0_1 dX12_undo_72 ?_
      refine V.sipush (pc := 75) C dX12_undo_75 (v := 162) (by decide) ?_
      refine V.iald (pc := 78) C sM1 kM1 dX12_undo_78 (fun _ => ?_)
      refine V.imul (pc := 79) C dX12_undo_79 ?_
      refine V.iadd (pc := 80) C dX12_undo_80 ?_
      refine V.iload_n (pc := 81) C dX12_undo_81 1 rfl ?_
      refine V.iadd (pc := 82) C dX12_undo_82 ?_
      refine V.iald (pc := 83) C sM1 kM1 dX12_undo_83 (fun _ => ?_)
      refine V.iast (pc := 84) C sM1 kM1 dX12_undo_84 (fun _ => ?_)
      refine V.ltm (fun m_5 => ?_)
      refine V.iinc (pc := 85) C dX12_undo_85 (v := 1) (L2 := [(2, .int (y2 + 1)), (0, .ref 0)]) 1 rfl (by decide) (by decide) rfl ?_
      refine V.goto (pc := 88) C dX12_undo_88 46 (by decide) ?_
      refine V.wk [1, 0] rfl ?_
      exact ih (y2 + 1) m_5
set_option maxRecDepth 100000 in
set_option maxHeartbeats 4000000 in
theorem v_X12_undo {l : Launch} {p : Program} {e : Env} {s : State} {mt : MethodId} {args : Array Value} {below : List Frame} {meth : Method} {c : Code} {A : Nat → Prop} {ad0 : Nat → Nat} {G : Gt}  (C : Cx G p s mt args meth c RX12 cX12_undo 3 (some .int) "undo" A)  (x1 : Int32) (m : Mem) : V G SM oI l p e s mt args below meth c 3 2 A ad0 17 17 RM 17 RM 0 [(0, .ref 0), (1, .int x1)] [] m (X12_undo  x1 m) := by
  rw [X12_undo]
  refine V.aload_n (pc := 0) C dX12_undo_0 0 rfl ?_
  refine V.iconst (pc := 1) C dX12_undo_1 (v := 0) (by decide) ?_
  refine V.puti (pc := 2) C fp_RX12_1 sM0 kM0 rfl dX12_undo_2 ?_
  refine V.ltm (fun m_1 => ?_)
  refine V.iload_n (pc := 5) C dX12_undo_5 1 rfl ?_
  refine V.i2l (pc := 6) C dX12_undo_6 ?_
  refine V.lconst (pc := 7) C dX12_undo_7 (v := 1) (by decide) ?_
  refine V.ldc2 (pc := 8) C dX12_undo_8 (v := 8) cl_RX12_282 ?_
  refine V.callS (pc := 11) (st := []) C (c_X12_within l (Int32.toInt64 x1) 1 8 m_1) obI ck_X12_within ml_RX12_133 rfl rfl (Nat.le_of_ble_eq_true rfl) ⟨by decide, by decide⟩ dX12_undo_11 (fun r_2 m_3 _ => ?_)
  refine V.if_eq (pc := 14) C dX12_undo_14 29 (by decide) (fun _ => ?_) (fun _ => ?_)
  · refine V.bipush (pc := 29) C dX12_undo_29 (v := (-3)) (by decide) ?_
    exact V.iret C dX12_undo_31
  · refine V.iload_n (pc := 17) C dX12_undo_17 1 rfl ?_
    refine V.aload_n (pc := 18) C dX12_undo_18 0 rfl ?_
    refine V.getr (pc := 19) C fl_RX12_13 sM0 kM0 rfl rM0_1 dX12_undo_19 ?_
    refine V.sipush (pc := 22) C dX12_undo_22 (v := 162) (by decide) ?_
    refine V.iald (pc := 25) C sM1 kM1 dX12_undo_25 (fun _ => ?_)
    refine V.icmp_le (pc := 26) C dX12_undo_26 32 (by decide) (fun _ => ?_) (fun _ => ?_)
    · refine V.aload_n (pc := 32) C dX12_undo_32 0 rfl ?_
      refine V.getr (pc := 33) C fl_RX12_13 sM0 kM0 rfl rM0_1 dX12_undo_33 ?_
      refine V.sipush (pc := 36) C dX12_undo_36 (v := 162) (by decide) ?_
      refine V.dup2 (pc := 39) C dX12_undo_39 rfl rfl ?_
      refine V.iald (pc := 40) C sM1 kM1 dX12_undo_40 (fun _ => ?_)
      refine V.iload_n (pc := 41) C dX12_undo_41 1 rfl ?_
      refine V.isub (pc := 42) C dX12_undo_42 ?_
      refine V.iast (pc := 43) C sM1 kM1 dX12_undo_43 (fun _ => ?_)
      refine V.ltm (fun m_4 => ?_)
      refine V.iconst (pc := 44) C dX12_undo_44 (v := 0) (by decide) ?_
      refine V.istore_n (pc := 45) C dX12_undo_45 (L2 := [(2, .int 0), (0, .ref 0), (1, .int x1)]) (by decide) rfl ?_
      refine V.wk [1, 0] rfl ?_
      exact v_X12_undo_b46 C  FU 0 m_4
    · refine V.bipush (pc := 29) C dX12_undo_29 (v := (-3)) (by decide) ?_
      exact V.iret C dX12_undo_31
theorem c_X12_undo (l : Launch)   (x1 : Int32) (m : Mem) : Ct l yX12_undo cX12_undo 3 (some .int) 2 SM oI 17 17 RM RM [.ref 0, .int x1] m (X12_undo  x1 m) :=
  Ct.of (own := RX12) (nm := "undo") (by decide) rfl rfl (Nat.le_of_ble_eq_true rfl) (fun _ _ _ _ _ _ _ _ _ _ _ C => v_X12_undo C  x1 m)
theorem dX12_wed_0 : decode cX12_wed 0 = .ok (.aload_n 0, 1) := by decide +kernel
theorem dX12_wed_1 : decode cX12_wed 1 = .ok (.iconst 0, 1) := by decide +kernel
theorem dX12_wed_2 : decode cX12_wed 2 = .ok (.putfield 1, 3) := by decide +kernel
theorem dX12_wed_5 : decode cX12_wed 5 = .ok (.aload_n 0, 1) := by decide +kernel
theorem dX12_wed_6 : decode cX12_wed 6 = .ok (.iload_n 1, 1) := by decide +kernel
theorem dX12_wed_7 : decode cX12_wed 7 = .ok (.i2l, 1) := by decide +kernel
theorem dX12_wed_8 : decode cX12_wed 8 = .ok (.iload_n 2, 1) := by decide +kernel
theorem dX12_wed_9 : decode cX12_wed 9 = .ok (.i2l, 1) := by decide +kernel
theorem dX12_wed_10 : decode cX12_wed 10 = .ok (.invokevirtual 234, 3) := by decide +kernel
theorem dX12_wed_13 : decode cX12_wed 13 = .ok (.ifCond .ne 6, 3) := by decide +kernel
theorem dX12_wed_16 : decode cX12_wed 16 = .ok (.bipush (-11), 2) := by decide +kernel
theorem dX12_wed_18 : decode cX12_wed 18 = .ok (.ireturn, 1) := by decide +kernel
theorem dX12_wed_19 : decode cX12_wed 19 = .ok (.aload_n 0, 1) := by decide +kernel
theorem dX12_wed_20 : decode cX12_wed 20 = .ok (.getfield 13, 3) := by decide +kernel
theorem dX12_wed_23 : decode cX12_wed 23 = .ok (.sipush 153, 3) := by decide +kernel
theorem dX12_wed_26 : decode cX12_wed 26 = .ok (.iload_n 1, 1) := by decide +kernel
theorem dX12_wed_27 : decode cX12_wed 27 = .ok (.iadd, 1) := by decide +kernel
theorem dX12_wed_28 : decode cX12_wed 28 = .ok (.iaload, 1) := by decide +kernel
theorem dX12_wed_29 : decode cX12_wed 29 = .ok (.iconst (-1), 1) := by decide +kernel
theorem dX12_wed_30 : decode cX12_wed 30 = .ok (.if_icmp .ne 17, 3) := by decide +kernel
theorem dX12_wed_33 : decode cX12_wed 33 = .ok (.aload_n 0, 1) := by decide +kernel
theorem dX12_wed_34 : decode cX12_wed 34 = .ok (.getfield 13, 3) := by decide +kernel
theorem dX12_wed_37 : decode cX12_wed 37 = .ok (.sipush 153, 3) := by decide +kernel
theorem dX12_wed_40 : decode cX12_wed 40 = .ok (.iload_n 2, 1) := by decide +kernel
theorem dX12_wed_41 : decode cX12_wed 41 = .ok (.iadd, 1) := by decide +kernel
theorem dX12_wed_42 : decode cX12_wed 42 = .ok (.iaload, 1) := by decide +kernel
theorem dX12_wed_43 : decode cX12_wed 43 = .ok (.iconst (-1), 1) := by decide +kernel
theorem dX12_wed_44 : decode cX12_wed 44 = .ok (.if_icmp .eq 6, 3) := by decide +kernel
theorem dX12_wed_47 : decode cX12_wed 47 = .ok (.bipush (-12), 2) := by decide +kernel
theorem dX12_wed_49 : decode cX12_wed 49 = .ok (.ireturn, 1) := by decide +kernel
theorem dX12_wed_50 : decode cX12_wed 50 = .ok (.aload_n 0, 1) := by decide +kernel
theorem dX12_wed_51 : decode cX12_wed 51 = .ok (.iload_n 1, 1) := by decide +kernel
theorem dX12_wed_52 : decode cX12_wed 52 = .ok (.iload_n 2, 1) := by decide +kernel
theorem dX12_wed_53 : decode cX12_wed 53 = .ok (.invokevirtual 244, 3) := by decide +kernel
theorem dX12_wed_56 : decode cX12_wed 56 = .ok (.ifCond .ne 6, 3) := by decide +kernel
theorem dX12_wed_59 : decode cX12_wed 59 = .ok (.bipush (-13), 2) := by decide +kernel
theorem dX12_wed_61 : decode cX12_wed 61 = .ok (.ireturn, 1) := by decide +kernel
theorem dX12_wed_62 : decode cX12_wed 62 = .ok (.aload_n 0, 1) := by decide +kernel
theorem dX12_wed_63 : decode cX12_wed 63 = .ok (.invokevirtual 267, 3) := by decide +kernel
theorem dX12_wed_66 : decode cX12_wed 66 = .ok (.aload_n 0, 1) := by decide +kernel
theorem dX12_wed_67 : decode cX12_wed 67 = .ok (.iload_n 1, 1) := by decide +kernel
theorem dX12_wed_68 : decode cX12_wed 68 = .ok (.iload_n 2, 1) := by decide +kernel
theorem dX12_wed_69 : decode cX12_wed 69 = .ok (.invokevirtual 261, 3) := by decide +kernel
theorem dX12_wed_72 : decode cX12_wed 72 = .ok (.aload_n 0, 1) := by decide +kernel
theorem dX12_wed_73 : decode cX12_wed 73 = .ok (.invokevirtual 270, 3) := by decide +kernel
theorem dX12_wed_76 : decode cX12_wed 76 = .ok (.aload_n 0, 1) := by decide +kernel
theorem dX12_wed_77 : decode cX12_wed 77 = .ok (.iload_n 1, 1) := by decide +kernel
theorem dX12_wed_78 : decode cX12_wed 78 = .ok (.iload_n 2, 1) := by decide +kernel
theorem dX12_wed_79 : decode cX12_wed 79 = .ok (.invokevirtual 240, 3) := by decide +kernel
theorem dX12_wed_82 : decode cX12_wed 82 = .ok (.ireturn, 1) := by decide +kernel
set_option maxRecDepth 100000 in
set_option maxHeartbeats 4000000 in
theorem v_X12_wed {l : Launch} {p : Program} {e : Env} {s : State} {mt : MethodId} {args : Array Value} {below : List Frame} {meth : Method} {c : Code} {A : Nat → Prop} {ad0 : Nat → Nat} {G : Gt}  (C : Cx G p s mt args meth c RX12 cX12_wed 3 (some .int) "wed" A)  (x1 : Int32) (x2 : Int32) (m : Mem) : V G SM oI l p e s mt args below meth c 3 6 A ad0 17 17 RM 17 RM 0 [(0, .ref 0), (1, .int x1), (2, .int x2)] [] m (X12_wed  x1 x2 m) := by
  rw [X12_wed]
  refine V.aload_n (pc := 0) C dX12_wed_0 0 rfl ?_
  refine V.iconst (pc := 1) C dX12_wed_1 (v := 0) (by decide) ?_
  refine V.puti (pc := 2) C fp_RX12_1 sM0 kM0 rfl dX12_wed_2 ?_
  refine V.ltm (fun m_1 => ?_)
  refine V.aload_n (pc := 5) C dX12_wed_5 0 rfl ?_
  refine V.iload_n (pc := 6) C dX12_wed_6 1 rfl ?_
  refine V.i2l (pc := 7) C dX12_wed_7 ?_
  refine V.iload_n (pc := 8) C dX12_wed_8 2 rfl ?_
  refine V.i2l (pc := 9) C dX12_wed_9 ?_
  refine V.callV (pc := 10) (st := []) C (c_X12_areTwo l (Int32.toInt64 x1) (Int32.toInt64 x2) m_1) obI ck_X12_areTwo ml_RX12_234 rfl rfl sM0 kM0 rfl rfl (Nat.le_of_ble_eq_true rfl) ⟨by decide, by decide⟩ dX12_wed_10 (fun r_2 m_3 _ => ?_)
  refine V.if_ne (pc := 13) C dX12_wed_13 19 (by decide) (fun _ => ?_) (fun _ => ?_)
  · refine V.aload_n (pc := 19) C dX12_wed_19 0 rfl ?_
    refine V.getr (pc := 20) C fl_RX12_13 sM0 kM0 rfl rM0_1 dX12_wed_20 ?_
    refine V.sipush (pc := 23) C dX12_wed_23 (v := 153) (by decide) ?_
    refine V.iload_n (pc := 26) C dX12_wed_26 1 rfl ?_
    refine V.iadd (pc := 27) C dX12_wed_27 ?_
    refine V.iald (pc := 28) C sM1 kM1 dX12_wed_28 (fun _ => ?_)
    refine V.iconst (pc := 29) C dX12_wed_29 (v := (-1)) (by decide) ?_
    refine V.icmp_ne (pc := 30) C dX12_wed_30 47 (by decide) (fun _ => ?_) (fun _ => ?_)
    · refine V.bipush (pc := 47) C dX12_wed_47 (v := (-12)) (by decide) ?_
      exact V.iret C dX12_wed_49
    · refine V.aload_n (pc := 33) C dX12_wed_33 0 rfl ?_
      refine V.getr (pc := 34) C fl_RX12_13 sM0 kM0 rfl rM0_1 dX12_wed_34 ?_
      refine V.sipush (pc := 37) C dX12_wed_37 (v := 153) (by decide) ?_
      refine V.iload_n (pc := 40) C dX12_wed_40 2 rfl ?_
      refine V.iadd (pc := 41) C dX12_wed_41 ?_
      refine V.iald (pc := 42) C sM1 kM1 dX12_wed_42 (fun _ => ?_)
      refine V.iconst (pc := 43) C dX12_wed_43 (v := (-1)) (by decide) ?_
      refine V.icmp_eq (pc := 44) C dX12_wed_44 50 (by decide) (fun _ => ?_) (fun _ => ?_)
      · refine V.aload_n (pc := 50) C dX12_wed_50 0 rfl ?_
        refine V.iload_n (pc := 51) C dX12_wed_51 1 rfl ?_
        refine V.iload_n (pc := 52) C dX12_wed_52 2 rfl ?_
        refine V.callV (pc := 53) (st := []) C (c_X12_mayWed l x1 x2 m_3) obI ck_X12_mayWed ml_RX12_244 rfl rfl sM0 kM0 rfl rfl (Nat.le_of_ble_eq_true rfl) ⟨by decide, by decide⟩ dX12_wed_53 (fun r_4 m_5 _ => ?_)
        refine V.if_ne (pc := 56) C dX12_wed_56 62 (by decide) (fun _ => ?_) (fun _ => ?_)
        · refine V.aload_n (pc := 62) C dX12_wed_62 0 rfl ?_
          refine V.callV (pc := 63) (st := []) C (c_X12_keeps l  m_5) obV ck_X12_keeps ml_RX12_267 rfl rfl sM0 kM0 rfl rfl (Nat.le_of_ble_eq_true rfl) ⟨by decide, by decide⟩ dX12_wed_63 (fun r_6 m_7 _ => ?_)
          refine V.aload_n (pc := 66) C dX12_wed_66 0 rfl ?_
          refine V.iload_n (pc := 67) C dX12_wed_67 1 rfl ?_
          refine V.iload_n (pc := 68) C dX12_wed_68 2 rfl ?_
          refine V.callV (pc := 69) (st := []) C (c_X12_weds l x1 x2 m_7) obV ck_X12_weds ml_RX12_261 rfl rfl sM0 kM0 rfl rfl (Nat.le_of_ble_eq_true rfl) ⟨by decide, by decide⟩ dX12_wed_69 (fun r_8 m_9 _ => ?_)
          refine V.aload_n (pc := 72) C dX12_wed_72 0 rfl ?_
          refine V.callV (pc := 73) (st := []) C (c_X12_notes l  m_9) obV ck_X12_notes ml_RX12_270 rfl rfl sM0 kM0 rfl rfl (Nat.le_of_ble_eq_true rfl) ⟨by decide, by decide⟩ dX12_wed_73 (fun r_10 m_11 _ => ?_)
          refine V.aload_n (pc := 76) C dX12_wed_76 0 rfl ?_
          refine V.iload_n (pc := 77) C dX12_wed_77 1 rfl ?_
          refine V.iload_n (pc := 78) C dX12_wed_78 2 rfl ?_
          refine V.callV (pc := 79) (st := []) C (c_X12_goodOf l x1 x2 m_11) obI ck_X12_goodOf ml_RX12_240 rfl rfl sM0 kM0 rfl rfl (Nat.le_of_ble_eq_true rfl) ⟨by decide, by decide⟩ dX12_wed_79 (fun r_12 m_13 _ => ?_)
          exact V.iret C dX12_wed_82
        · refine V.bipush (pc := 59) C dX12_wed_59 (v := (-13)) (by decide) ?_
          exact V.iret C dX12_wed_61
      · refine V.bipush (pc := 47) C dX12_wed_47 (v := (-12)) (by decide) ?_
        exact V.iret C dX12_wed_49
  · refine V.bipush (pc := 16) C dX12_wed_16 (v := (-11)) (by decide) ?_
    exact V.iret C dX12_wed_18
theorem c_X12_wed (l : Launch)   (x1 : Int32) (x2 : Int32) (m : Mem) : Ct l yX12_wed cX12_wed 3 (some .int) 6 SM oI 17 17 RM RM [.ref 0, .int x1, .int x2] m (X12_wed  x1 x2 m) :=
  Ct.of (own := RX12) (nm := "wed") (by decide) rfl rfl (Nat.le_of_ble_eq_true rfl) (fun _ _ _ _ _ _ _ _ _ _ _ C => v_X12_wed C  x1 x2 m)
theorem dX12_write_0 : decode cX12_write 0 = .ok (.aload_n 0, 1) := by decide +kernel
theorem dX12_write_1 : decode cX12_write 1 = .ok (.iconst 0, 1) := by decide +kernel
theorem dX12_write_2 : decode cX12_write 2 = .ok (.putfield 1, 3) := by decide +kernel
theorem dX12_write_5 : decode cX12_write 5 = .ok (.aload_n 0, 1) := by decide +kernel
theorem dX12_write_6 : decode cX12_write 6 = .ok (.iload_n 1, 1) := by decide +kernel
theorem dX12_write_7 : decode cX12_write 7 = .ok (.invokevirtual 289, 3) := by decide +kernel
theorem dX12_write_10 : decode cX12_write 10 = .ok (.istore 5, 2) := by decide +kernel
theorem dX12_write_12 : decode cX12_write 12 = .ok (.iload 5, 2) := by decide +kernel
theorem dX12_write_14 : decode cX12_write 14 = .ok (.ifCond .eq 7, 3) := by decide +kernel
theorem dX12_write_17 : decode cX12_write 17 = .ok (.iload 5, 2) := by decide +kernel
theorem dX12_write_19 : decode cX12_write 19 = .ok (.i2l, 1) := by decide +kernel
theorem dX12_write_20 : decode cX12_write 20 = .ok (.lreturn, 1) := by decide +kernel
theorem dX12_write_21 : decode cX12_write 21 = .ok (.iload_n 2, 1) := by decide +kernel
theorem dX12_write_22 : decode cX12_write 22 = .ok (.i2l, 1) := by decide +kernel
theorem dX12_write_23 : decode cX12_write 23 = .ok (.lconst 0, 1) := by decide +kernel
theorem dX12_write_24 : decode cX12_write 24 = .ok (.aload_n 0, 1) := by decide +kernel
theorem dX12_write_25 : decode cX12_write 25 = .ok (.getfield 60, 3) := by decide +kernel
theorem dX12_write_28 : decode cX12_write 28 = .ok (.iload_n 1, 1) := by decide +kernel
theorem dX12_write_29 : decode cX12_write 29 = .ok (.iaload, 1) := by decide +kernel
theorem dX12_write_30 : decode cX12_write 30 = .ok (.iconst 1, 1) := by decide +kernel
theorem dX12_write_31 : decode cX12_write 31 = .ok (.isub, 1) := by decide +kernel
theorem dX12_write_32 : decode cX12_write 32 = .ok (.i2l, 1) := by decide +kernel
theorem dX12_write_33 : decode cX12_write 33 = .ok (.invokestatic 133, 3) := by decide +kernel
theorem dX12_write_36 : decode cX12_write 36 = .ok (.ifCond .ne 7, 3) := by decide +kernel
theorem dX12_write_39 : decode cX12_write 39 = .ok (.ldc2_w 375, 3) := by decide +kernel
theorem dX12_write_42 : decode cX12_write 42 = .ok (.lreturn, 1) := by decide +kernel
theorem dX12_write_43 : decode cX12_write 43 = .ok (.aload_n 0, 1) := by decide +kernel
theorem dX12_write_44 : decode cX12_write 44 = .ok (.getfield 63, 3) := by decide +kernel
theorem dX12_write_47 : decode cX12_write 47 = .ok (.bipush 40, 2) := by decide +kernel
theorem dX12_write_49 : decode cX12_write 49 = .ok (.iload_n 1, 1) := by decide +kernel
theorem dX12_write_50 : decode cX12_write 50 = .ok (.imul, 1) := by decide +kernel
theorem dX12_write_51 : decode cX12_write 51 = .ok (.iload_n 2, 1) := by decide +kernel
theorem dX12_write_52 : decode cX12_write 52 = .ok (.iadd, 1) := by decide +kernel
theorem dX12_write_53 : decode cX12_write 53 = .ok (.lload_n 3, 1) := by decide +kernel
theorem dX12_write_54 : decode cX12_write 54 = .ok (.aload_n 0, 1) := by decide +kernel
theorem dX12_write_55 : decode cX12_write 55 = .ok (.getfield 57, 3) := by decide +kernel
theorem dX12_write_58 : decode cX12_write 58 = .ok (.iload_n 1, 1) := by decide +kernel
theorem dX12_write_59 : decode cX12_write 59 = .ok (.iaload, 1) := by decide +kernel
theorem dX12_write_60 : decode cX12_write 60 = .ok (.invokestatic 377, 3) := by decide +kernel
theorem dX12_write_63 : decode cX12_write 63 = .ok (.lastore, 1) := by decide +kernel
theorem dX12_write_64 : decode cX12_write 64 = .ok (.aload_n 0, 1) := by decide +kernel
theorem dX12_write_65 : decode cX12_write 65 = .ok (.getfield 63, 3) := by decide +kernel
theorem dX12_write_68 : decode cX12_write 68 = .ok (.bipush 40, 2) := by decide +kernel
theorem dX12_write_70 : decode cX12_write 70 = .ok (.iload_n 1, 1) := by decide +kernel
theorem dX12_write_71 : decode cX12_write 71 = .ok (.imul, 1) := by decide +kernel
theorem dX12_write_72 : decode cX12_write 72 = .ok (.iload_n 2, 1) := by decide +kernel
theorem dX12_write_73 : decode cX12_write 73 = .ok (.iadd, 1) := by decide +kernel
theorem dX12_write_74 : decode cX12_write 74 = .ok (.laload, 1) := by decide +kernel
theorem dX12_write_75 : decode cX12_write 75 = .ok (.lreturn, 1) := by decide +kernel
set_option maxRecDepth 100000 in
set_option maxHeartbeats 4000000 in
theorem v_X12_write {l : Launch} {p : Program} {e : Env} {s : State} {mt : MethodId} {args : Array Value} {below : List Frame} {meth : Method} {c : Code} {A : Nat → Prop} {ad0 : Nat → Nat} {G : Gt}  (C : Cx G p s mt args meth c RX12 cX12_write 6 (some .long) "write" A)  (x1 : Int32) (x2 : Int32) (x3 : Int64) (m : Mem) : V G SM oL l p e s mt args below meth c 6 3 A ad0 17 17 RM 17 RM 0 [(0, .ref 0), (1, .int x1), (2, .int x2), (3, .long x3)] [] m (X12_write  x1 x2 x3 m) := by
  rw [X12_write]
  refine V.aload_n (pc := 0) C dX12_write_0 0 rfl ?_
  refine V.iconst (pc := 1) C dX12_write_1 (v := 0) (by decide) ?_
  refine V.puti (pc := 2) C fp_RX12_1 sM0 kM0 rfl dX12_write_2 ?_
  refine V.ltm (fun m_1 => ?_)
  refine V.aload_n (pc := 5) C dX12_write_5 0 rfl ?_
  refine V.iload_n (pc := 6) C dX12_write_6 1 rfl ?_
  refine V.callV (pc := 7) (st := []) C (c_X12_noTray l x1 m_1) obI ck_X12_noTray ml_RX12_289 rfl rfl sM0 kM0 rfl rfl (Nat.le_of_ble_eq_true rfl) ⟨by decide, by decide⟩ dX12_write_7 (fun r_2 m_3 _ => ?_)
  refine V.istore (pc := 10) C dX12_write_10 (L2 := [(5, .int r_2), (0, .ref 0), (1, .int x1), (2, .int x2), (3, .long x3)]) (by decide) rfl ?_
  refine V.iload (pc := 12) C dX12_write_12 0 rfl ?_
  refine V.if_eq (pc := 14) C dX12_write_14 21 (by decide) (fun _ => ?_) (fun _ => ?_)
  · refine V.iload_n (pc := 21) C dX12_write_21 3 rfl ?_
    refine V.i2l (pc := 22) C dX12_write_22 ?_
    refine V.lconst (pc := 23) C dX12_write_23 (v := 0) (by decide) ?_
    refine V.aload_n (pc := 24) C dX12_write_24 1 rfl ?_
    refine V.getr (pc := 25) C fl_RX12_60 sM0 kM0 rfl rM0_31 dX12_write_25 ?_
    refine V.iload_n (pc := 28) C dX12_write_28 2 rfl ?_
    refine V.iald (pc := 29) C sM15 kM15 dX12_write_29 (fun _ => ?_)
    refine V.iconst (pc := 30) C dX12_write_30 (v := 1) (by decide) ?_
    refine V.isub (pc := 31) C dX12_write_31 ?_
    refine V.i2l (pc := 32) C dX12_write_32 ?_
    refine V.callS (pc := 33) (st := []) C (c_X12_within l (Int32.toInt64 x2) 0 (Int32.toInt64 ((gi m_3 15 (ix x1)) - 1)) m_3) obI ck_X12_within ml_RX12_133 rfl rfl (Nat.le_of_ble_eq_true rfl) ⟨by decide, by decide⟩ dX12_write_33 (fun r_4 m_5 _ => ?_)
    refine V.if_ne (pc := 36) C dX12_write_36 43 (by decide) (fun _ => ?_) (fun _ => ?_)
    · refine V.aload_n (pc := 43) C dX12_write_43 1 rfl ?_
      refine V.getr (pc := 44) C fl_RX12_63 sM0 kM0 rfl rM0_32 dX12_write_44 ?_
      refine V.bipush (pc := 47) C dX12_write_47 (v := 40) (by decide) ?_
      refine V.iload_n (pc := 49) C dX12_write_49 2 rfl ?_
      refine V.imul (pc := 50) C dX12_write_50 ?_
      refine V.iload_n (pc := 51) C dX12_write_51 3 rfl ?_
      refine V.iadd (pc := 52) C dX12_write_52 ?_
      refine V.lload_n (pc := 53) C dX12_write_53 4 rfl ?_
      refine V.aload_n (pc := 54) C dX12_write_54 1 rfl ?_
      refine V.getr (pc := 55) C fl_RX12_57 sM0 kM0 rfl rM0_30 dX12_write_55 ?_
      refine V.iload_n (pc := 58) C dX12_write_58 2 rfl ?_
      refine V.iald (pc := 59) C sM14 kM14 dX12_write_59 (fun _ => ?_)
      refine V.callS (pc := 60) (st := [.int ((40 * x1) + x2), .ref 16]) C (c_X12_cut l x3 (gi m_5 14 (ix x1)) m_5) obL ck_X12_cut ml_RX12_377 rfl rfl (Nat.le_of_ble_eq_true rfl) ⟨by decide, by decide⟩ dX12_write_60 (fun r_6 m_7 _ => ?_)
      refine V.last (pc := 63) C sM16 kM16 dX12_write_63 (fun _ => ?_)
      refine V.ltm (fun m_8 => ?_)
      refine V.aload_n (pc := 64) C dX12_write_64 1 rfl ?_
      refine V.getr (pc := 65) C fl_RX12_63 sM0 kM0 rfl rM0_32 dX12_write_65 ?_
      refine V.bipush (pc := 68) C dX12_write_68 (v := 40) (by decide) ?_
      refine V.iload_n (pc := 70) C dX12_write_70 2 rfl ?_
      refine V.imul (pc := 71) C dX12_write_71 ?_
      refine V.iload_n (pc := 72) C dX12_write_72 3 rfl ?_
      refine V.iadd (pc := 73) C dX12_write_73 ?_
      refine V.lald (pc := 74) C sM16 kM16 dX12_write_74 (fun _ => ?_)
      exact V.lret C dX12_write_75
    · refine V.ldc2 (pc := 39) C dX12_write_39 (v := (-7)) cl_RX12_375 ?_
      exact V.lret C dX12_write_42
  · refine V.iload (pc := 17) C dX12_write_17 0 rfl ?_
    refine V.i2l (pc := 19) C dX12_write_19 ?_
    exact V.lret C dX12_write_20
theorem c_X12_write (l : Launch)   (x1 : Int32) (x2 : Int32) (x3 : Int64) (m : Mem) : Ct l yX12_write cX12_write 6 (some .long) 3 SM oL 17 17 RM RM [.ref 0, .int x1, .int x2, .long x3] m (X12_write  x1 x2 x3 m) :=
  Ct.of (own := RX12) (nm := "write") (by decide) rfl rfl (Nat.le_of_ble_eq_true rfl) (fun _ _ _ _ _ _ _ _ _ _ _ C => v_X12_write C  x1 x2 x3 m)
theorem dX12_years_0 : decode cX12_years 0 = .ok (.aload_n 0, 1) := by decide +kernel
theorem dX12_years_1 : decode cX12_years 1 = .ok (.iconst 0, 1) := by decide +kernel
theorem dX12_years_2 : decode cX12_years 2 = .ok (.putfield 1, 3) := by decide +kernel
theorem dX12_years_5 : decode cX12_years 5 = .ok (.iload_n 1, 1) := by decide +kernel
theorem dX12_years_6 : decode cX12_years 6 = .ok (.i2l, 1) := by decide +kernel
theorem dX12_years_7 : decode cX12_years 7 = .ok (.lconst 1, 1) := by decide +kernel
theorem dX12_years_8 : decode cX12_years 8 = .ok (.ldc2_w 280, 3) := by decide +kernel
theorem dX12_years_11 : decode cX12_years 11 = .ok (.invokestatic 133, 3) := by decide +kernel
theorem dX12_years_14 : decode cX12_years 14 = .ok (.ifCond .ne 6, 3) := by decide +kernel
theorem dX12_years_17 : decode cX12_years 17 = .ok (.bipush (-3), 2) := by decide +kernel
theorem dX12_years_19 : decode cX12_years 19 = .ok (.ireturn, 1) := by decide +kernel
theorem dX12_years_20 : decode cX12_years 20 = .ok (.aload_n 0, 1) := by decide +kernel
theorem dX12_years_21 : decode cX12_years 21 = .ok (.invokevirtual 267, 3) := by decide +kernel
theorem dX12_years_24 : decode cX12_years 24 = .ok (.iconst 0, 1) := by decide +kernel
theorem dX12_years_25 : decode cX12_years 25 = .ok (.istore_n 2, 1) := by decide +kernel
theorem dX12_years_26 : decode cX12_years 26 = .ok (.iconst 0, 1) := by decide +kernel
theorem dX12_years_27 : decode cX12_years 27 = .ok (.istore_n 3, 1) := by decide +kernel
theorem dX12_years_28 : decode cX12_years 28 = .ok (.iload_n 3, 1) := by decide +kernel
theorem dX12_years_29 : decode cX12_years 29 = .ok (.iload_n 1, 1) := by decide +kernel
theorem dX12_years_30 : decode cX12_years 30 = .ok (.if_icmp .ge 18, 3) := by decide +kernel
theorem dX12_years_33 : decode cX12_years 33 = .ok (.iload_n 2, 1) := by decide +kernel
theorem dX12_years_34 : decode cX12_years 34 = .ok (.aload_n 0, 1) := by decide +kernel
theorem dX12_years_35 : decode cX12_years 35 = .ok (.iconst (-1), 1) := by decide +kernel
theorem dX12_years_36 : decode cX12_years 36 = .ok (.iconst (-1), 1) := by decide +kernel
theorem dX12_years_37 : decode cX12_years 37 = .ok (.invokevirtual 255, 3) := by decide +kernel
theorem dX12_years_40 : decode cX12_years 40 = .ok (.iadd, 1) := by decide +kernel
theorem dX12_years_41 : decode cX12_years 41 = .ok (.istore_n 2, 1) := by decide +kernel
theorem dX12_years_42 : decode cX12_years 42 = .ok (.iinc 3 1, 3) := by decide +kernel
theorem dX12_years_45 : decode cX12_years 45 = .ok (.goto (-17), 3) := by decide +kernel
theorem dX12_years_48 : decode cX12_years 48 = .ok (.aload_n 0, 1) := by decide +kernel
theorem dX12_years_49 : decode cX12_years 49 = .ok (.invokevirtual 270, 3) := by decide +kernel
theorem dX12_years_52 : decode cX12_years 52 = .ok (.iload_n 2, 1) := by decide +kernel
theorem dX12_years_53 : decode cX12_years 53 = .ok (.ireturn, 1) := by decide +kernel
set_option maxRecDepth 100000 in
set_option maxHeartbeats 4000000 in
theorem v_X12_years_b28 {l : Launch} {p : Program} {e : Env} {s : State} {mt : MethodId} {args : Array Value} {below : List Frame} {meth : Method} {c : Code} {A : Nat → Prop} {ad0 : Nat → Nat} {G : Gt}  (C : Cx G p s mt args meth c RX12 cX12_years 4 (some .int) "years" A)  : ∀ (n : Nat) (y1 : Int32) (y2 : Int32) (y3 : Int32) (m : Mem), V G SM oI l p e s mt args below meth c 4 4 A ad0 17 17 RM 17 RM 28 [(0, .ref 0), (1, .int y1), (2, .int y2), (3, .int y3)] [] m (X12_years_b28  n y1 y2 y3 m) := by
  intro n
  induction n with
  | zero =>
    intro y1 y2 y3 m
    rw [X12_years_b28]
    exact V.nil
  | succ n ih =>
    intro y1 y2 y3 m
    rw [X12_years_b28]
    refine V.iload_n (pc := 28) C dX12_years_28 3 rfl ?_
    refine V.iload_n (pc := 29) C dX12_years_29 1 rfl ?_
    refine V.icmp_ge (pc := 30) C dX12_years_30 48 (by decide) (fun _ => ?_) (fun _ => ?_)
    · refine V.aload_n (pc := 48) C dX12_years_48 0 rfl ?_
      refine V.callV (pc := 49) (st := []) C (c_X12_notes l  m) obV ck_X12_notes ml_RX12_270 rfl rfl sM0 kM0 rfl rfl (Nat.le_of_ble_eq_true rfl) ⟨by decide, by decide⟩ dX12_years_49 (fun r_6 m_7 _ => ?_)
      refine V.iload_n (pc := 52) C dX12_years_52 2 rfl ?_
      exact V.iret C dX12_years_53
    · refine V.iload_n (pc := 33) C dX12_years_33 2 rfl ?_
      refine V.aload_n (pc := 34) C dX12_years_34 0 rfl ?_
      refine V.iconst (pc := 35) C dX12_years_35 (v := (-1)) (by decide) ?_
      refine V.iconst (pc := 36) C dX12_years_36 (v := (-1)) (by decide) ?_
      refine V.callV (pc := 37) (st := [.int y2]) C (c_X12_year l (-1) (-1) m) obI ck_X12_year ml_RX12_255 rfl rfl sM0 kM0 rfl rfl (Nat.le_of_ble_eq_true rfl) ⟨by decide, by decide⟩ dX12_years_37 (fun r_8 m_9 _ => ?_)
      refine V.iadd (pc := 40) C dX12_years_40 ?_
      refine V.lti (fun x_10 _ => ?_)
      refine V.istore_n (pc := 41) C dX12_years_41 (L2 := [(2, .int x_10), (0, .ref 0), (1, .int y1), (3, .int y3)]) (by decide) rfl ?_
      refine V.iinc (pc := 42) C dX12_years_42 (v := 1) (L2 := [(3, .int (y3 + 1)), (2, .int x_10), (0, .ref 0), (1, .int y1)]) 3 rfl (by decide) (by decide) rfl ?_
      refine V.goto (pc := 45) C dX12_years_45 28 (by decide) ?_
      refine V.wk [2, 3, 1, 0] rfl ?_
      exact ih y1 x_10 (y3 + 1) m_9
set_option maxRecDepth 100000 in
set_option maxHeartbeats 4000000 in
theorem v_X12_years {l : Launch} {p : Program} {e : Env} {s : State} {mt : MethodId} {args : Array Value} {below : List Frame} {meth : Method} {c : Code} {A : Nat → Prop} {ad0 : Nat → Nat} {G : Gt}  (C : Cx G p s mt args meth c RX12 cX12_years 4 (some .int) "years" A)  (x1 : Int32) (m : Mem) : V G SM oI l p e s mt args below meth c 4 4 A ad0 17 17 RM 17 RM 0 [(0, .ref 0), (1, .int x1)] [] m (X12_years  x1 m) := by
  rw [X12_years]
  refine V.aload_n (pc := 0) C dX12_years_0 0 rfl ?_
  refine V.iconst (pc := 1) C dX12_years_1 (v := 0) (by decide) ?_
  refine V.puti (pc := 2) C fp_RX12_1 sM0 kM0 rfl dX12_years_2 ?_
  refine V.ltm (fun m_1 => ?_)
  refine V.iload_n (pc := 5) C dX12_years_5 1 rfl ?_
  refine V.i2l (pc := 6) C dX12_years_6 ?_
  refine V.lconst (pc := 7) C dX12_years_7 (v := 1) (by decide) ?_
  refine V.ldc2 (pc := 8) C dX12_years_8 (v := 60) cl_RX12_280 ?_
  refine V.callS (pc := 11) (st := []) C (c_X12_within l (Int32.toInt64 x1) 1 60 m_1) obI ck_X12_within ml_RX12_133 rfl rfl (Nat.le_of_ble_eq_true rfl) ⟨by decide, by decide⟩ dX12_years_11 (fun r_2 m_3 _ => ?_)
  refine V.if_ne (pc := 14) C dX12_years_14 20 (by decide) (fun _ => ?_) (fun _ => ?_)
  · refine V.aload_n (pc := 20) C dX12_years_20 0 rfl ?_
    refine V.callV (pc := 21) (st := []) C (c_X12_keeps l  m_3) obV ck_X12_keeps ml_RX12_267 rfl rfl sM0 kM0 rfl rfl (Nat.le_of_ble_eq_true rfl) ⟨by decide, by decide⟩ dX12_years_21 (fun r_4 m_5 _ => ?_)
    refine V.iconst (pc := 24) C dX12_years_24 (v := 0) (by decide) ?_
    refine V.istore_n (pc := 25) C dX12_years_25 (L2 := [(2, .int 0), (0, .ref 0), (1, .int x1)]) (by decide) rfl ?_
    refine V.iconst (pc := 26) C dX12_years_26 (v := 0) (by decide) ?_
    refine V.istore_n (pc := 27) C dX12_years_27 (L2 := [(3, .int 0), (2, .int 0), (0, .ref 0), (1, .int x1)]) (by decide) rfl ?_
    refine V.wk [2, 3, 1, 0] rfl ?_
    exact v_X12_years_b28 C  FU x1 0 0 m_5
  · refine V.bipush (pc := 17) C dX12_years_17 (v := (-3)) (by decide) ?_
    exact V.iret C dX12_years_19
theorem c_X12_years (l : Launch)   (x1 : Int32) (m : Mem) : Ct l yX12_years cX12_years 4 (some .int) 4 SM oI 17 17 RM RM [.ref 0, .int x1] m (X12_years  x1 m) :=
  Ct.of (own := RX12) (nm := "years") (by decide) rfl rfl (Nat.le_of_ble_eq_true rfl) (fun _ _ _ _ _ _ _ _ _ _ _ C => v_X12_years C  x1 m)
