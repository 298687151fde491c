theorem dX12_pair_0 : decode cX12_pair 0 = .ok (.aload_n 0, 1) := by decide +kernel
theorem dX12_pair_1 : decode cX12_pair 1 = .ok (.iconst 0, 1) := by decide +kernel
theorem dX12_pair_2 : decode cX12_pair 2 = .ok (.putfield 1, 3) := by decide +kernel
theorem dX12_pair_5 : decode cX12_pair 5 = .ok (.aload_n 0, 1) := by decide +kernel
theorem dX12_pair_6 : decode cX12_pair 6 = .ok (.iload_n 1, 1) := by decide +kernel
theorem dX12_pair_7 : decode cX12_pair 7 = .ok (.i2l, 1) := by decide +kernel
theorem dX12_pair_8 : decode cX12_pair 8 = .ok (.iload_n 2, 1) := by decide +kernel
theorem dX12_pair_9 : decode cX12_pair 9 = .ok (.i2l, 1) := by decide +kernel
theorem dX12_pair_10 : decode cX12_pair 10 = .ok (.invokevirtual 234, 3) := by decide +kernel
theorem dX12_pair_13 : decode cX12_pair 13 = .ok (.ifCond .eq 15, 3) := by decide +kernel
theorem dX12_pair_16 : decode cX12_pair 16 = .ok (.iload_n 3, 1) := by decide +kernel
theorem dX12_pair_17 : decode cX12_pair 17 = .ok (.i2l, 1) := by decide +kernel
theorem dX12_pair_18 : decode cX12_pair 18 = .ok (.lconst 0, 1) := by decide +kernel
theorem dX12_pair_19 : decode cX12_pair 19 = .ok (.ldc2_w 238, 3) := by decide +kernel
theorem dX12_pair_22 : decode cX12_pair 22 = .ok (.invokestatic 133, 3) := by decide +kernel
theorem dX12_pair_25 : decode cX12_pair 25 = .ok (.ifCond .ne 6, 3) := by decide +kernel
theorem dX12_pair_28 : decode cX12_pair 28 = .ok (.bipush (-8), 2) := by decide +kernel
theorem dX12_pair_30 : decode cX12_pair 30 = .ok (.ireturn, 1) := by decide +kernel
theorem dX12_pair_31 : decode cX12_pair 31 = .ok (.iload_n 3, 1) := by decide +kernel
theorem dX12_pair_32 : decode cX12_pair 32 = .ok (.iconst 5, 1) := by decide +kernel
theorem dX12_pair_33 : decode cX12_pair 33 = .ok (.if_icmp .ne 15, 3) := by decide +kernel
theorem dX12_pair_36 : decode cX12_pair 36 = .ok (.aload_n 0, 1) := by decide +kernel
theorem dX12_pair_37 : decode cX12_pair 37 = .ok (.iload_n 1, 1) := by decide +kernel
theorem dX12_pair_38 : decode cX12_pair 38 = .ok (.invokevirtual 207, 3) := by decide +kernel
theorem dX12_pair_41 : decode cX12_pair 41 = .ok (.aload_n 0, 1) := by decide +kernel
theorem dX12_pair_42 : decode cX12_pair 42 = .ok (.iload_n 2, 1) := by decide +kernel
theorem dX12_pair_43 : decode cX12_pair 43 = .ok (.invokevirtual 207, 3) := by decide +kernel
theorem dX12_pair_46 : decode cX12_pair 46 = .ok (.iand, 1) := by decide +kernel
theorem dX12_pair_47 : decode cX12_pair 47 = .ok (.ireturn, 1) := by decide +kernel
theorem dX12_pair_48 : decode cX12_pair 48 = .ok (.aload_n 0, 1) := by decide +kernel
theorem dX12_pair_49 : decode cX12_pair 49 = .ok (.iload_n 1, 1) := by decide +kernel
theorem dX12_pair_50 : decode cX12_pair 50 = .ok (.iload_n 2, 1) := by decide +kernel
theorem dX12_pair_51 : decode cX12_pair 51 = .ok (.invokevirtual 227, 3) := by decide +kernel
theorem dX12_pair_54 : decode cX12_pair 54 = .ok (.aload_n 0, 1) := by decide +kernel
theorem dX12_pair_55 : decode cX12_pair 55 = .ok (.getfield 30, 3) := by decide +kernel
theorem dX12_pair_58 : decode cX12_pair 58 = .ok (.iload_n 3, 1) := by decide +kernel
theorem dX12_pair_59 : decode cX12_pair 59 = .ok (.iaload, 1) := by decide +kernel
theorem dX12_pair_60 : decode cX12_pair 60 = .ok (.ireturn, 1) := by decide +kernel
set_option maxRecDepth 100000 in
set_option maxHeartbeats 4000000 in
theorem v_X12_pair {l : Launch} {p : Program} {e : Env} {s : State} {mt : MethodId} {args : Array Value} {below : List Frame} {meth : Method} {c : Code} {A : Nat → Prop} {ad0 : Nat → Nat} {G : Gt}  (C : Cx G p s mt args meth c RX12 cX12_pair 4 (some .int) "pair" A)  (x1 : Int32) (x2 : Int32) (x3 : Int32) (m : Mem) : V G SM oI l p e s mt args below meth c 4 5 A ad0 17 17 RM 17 RM 0 [(0, .ref 0), (1, .int x1), (2, .int x2), (3, .int x3)] [] m (X12_pair  x1 x2 x3 m) := by
  rw [X12_pair]
  refine V.aload_n (pc := 0) C dX12_pair_0 0 rfl ?_
  refine V.iconst (pc := 1) C dX12_pair_1 (v := 0) (by decide) ?_
  refine V.puti (pc := 2) C fp_RX12_1 sM0 kM0 rfl dX12_pair_2 ?_
  refine V.ltm (fun m_1 => ?_)
  refine V.aload_n (pc := 5) C dX12_pair_5 0 rfl ?_
  refine V.iload_n (pc := 6) C dX12_pair_6 1 rfl ?_
  refine V.i2l (pc := 7) C dX12_pair_7 ?_
  refine V.iload_n (pc := 8) C dX12_pair_8 2 rfl ?_
  refine V.i2l (pc := 9) C dX12_pair_9 ?_
  refine V.callV (pc := 10) (st := []) C (c_X12_areTwo l (Int32.toInt64 x1) (Int32.toInt64 x2) m_1) obI ck_X12_areTwo ml_RX12_234 rfl rfl sM0 kM0 rfl rfl (Nat.le_of_ble_eq_true rfl) ⟨by decide, by decide⟩ dX12_pair_10 (fun r_2 m_3 _ => ?_)
  refine V.if_eq (pc := 13) C dX12_pair_13 28 (by decide) (fun _ => ?_) (fun _ => ?_)
  · refine V.bipush (pc := 28) C dX12_pair_28 (v := (-8)) (by decide) ?_
    exact V.iret C dX12_pair_30
  · refine V.iload_n (pc := 16) C dX12_pair_16 3 rfl ?_
    refine V.i2l (pc := 17) C dX12_pair_17 ?_
    refine V.lconst (pc := 18) C dX12_pair_18 (v := 0) (by decide) ?_
    refine V.ldc2 (pc := 19) C dX12_pair_19 (v := 5) cl_RX12_238 ?_
    refine V.callS (pc := 22) (st := []) C (c_X12_within l (Int32.toInt64 x3) 0 5 m_3) obI ck_X12_within ml_RX12_133 rfl rfl (Nat.le_of_ble_eq_true rfl) ⟨by decide, by decide⟩ dX12_pair_22 (fun r_4 m_5 _ => ?_)
    refine V.if_ne (pc := 25) C dX12_pair_25 31 (by decide) (fun _ => ?_) (fun _ => ?_)
    · refine V.iload_n (pc := 31) C dX12_pair_31 3 rfl ?_
      refine V.iconst (pc := 32) C dX12_pair_32 (v := 5) (by decide) ?_
      refine V.icmp_ne (pc := 33) C dX12_pair_33 48 (by decide) (fun _ => ?_) (fun _ => ?_)
      · refine V.aload_n (pc := 48) C dX12_pair_48 0 rfl ?_
        refine V.iload_n (pc := 49) C dX12_pair_49 1 rfl ?_
        refine V.iload_n (pc := 50) C dX12_pair_50 2 rfl ?_
        refine V.callV (pc := 51) (st := []) C (c_X12_laysTwo l x1 x2 m_5) obV ck_X12_laysTwo ml_RX12_227 rfl rfl sM0 kM0 rfl rfl (Nat.le_of_ble_eq_true rfl) ⟨by decide, by decide⟩ dX12_pair_51 (fun r_6 m_7 _ => ?_)
        refine V.aload_n (pc := 54) C dX12_pair_54 0 rfl ?_
        refine V.getr (pc := 55) C fl_RX12_30 sM0 kM0 rfl rM0_15 dX12_pair_55 ?_
        refine V.iload_n (pc := 58) C dX12_pair_58 3 rfl ?_
        refine V.iald (pc := 59) C sM5 kM5 dX12_pair_59 (fun _ => ?_)
        exact V.iret C dX12_pair_60
      · refine V.aload_n (pc := 36) C dX12_pair_36 0 rfl ?_
        refine V.iload_n (pc := 37) C dX12_pair_37 1 rfl ?_
        refine V.callV (pc := 38) (st := []) C (c_X12_listOf l x1 m_5) obI ck_X12_listOf ml_RX12_207 rfl rfl sM0 kM0 rfl rfl (Nat.le_of_ble_eq_true rfl) ⟨by decide, by decide⟩ dX12_pair_38 (fun r_8 m_9 _ => ?_)
        refine V.aload_n (pc := 41) C dX12_pair_41 0 rfl ?_
        refine V.iload_n (pc := 42) C dX12_pair_42 2 rfl ?_
        refine V.callV (pc := 43) (st := [.int r_8]) C (c_X12_listOf l x2 m_9) obI ck_X12_listOf ml_RX12_207 rfl rfl sM0 kM0 rfl rfl (Nat.le_of_ble_eq_true rfl) ⟨by decide, by decide⟩ dX12_pair_43 (fun r_10 m_11 _ => ?_)
        refine V.iand (pc := 46) C dX12_pair_46 ?_
        exact V.iret C dX12_pair_47
    · refine V.bipush (pc := 28) C dX12_pair_28 (v := (-8)) (by decide) ?_
      exact V.iret C dX12_pair_30
theorem c_X12_pair (l : Launch)   (x1 : Int32) (x2 : Int32) (x3 : Int32) (m : Mem) : Ct l yX12_pair cX12_pair 4 (some .int) 5 SM oI 17 17 RM RM [.ref 0, .int x1, .int x2, .int x3] m (X12_pair  x1 x2 x3 m) :=
  Ct.of (own := RX12) (nm := "pair") (by decide) rfl rfl (Nat.le_of_ble_eq_true rfl) (fun _ _ _ _ _ _ _ _ _ _ _ C => v_X12_pair C  x1 x2 x3 m)
theorem dX12_part_0 : decode cX12_part 0 = .ok (.aload_n 0, 1) := by decide +kernel
theorem dX12_part_1 : decode cX12_part 1 = .ok (.iconst 0, 1) := by decide +kernel
theorem dX12_part_2 : decode cX12_part 2 = .ok (.putfield 1, 3) := by decide +kernel
theorem dX12_part_5 : decode cX12_part 5 = .ok (.aload_n 0, 1) := by decide +kernel
theorem dX12_part_6 : decode cX12_part 6 = .ok (.iload_n 1, 1) := by decide +kernel
theorem dX12_part_7 : decode cX12_part 7 = .ok (.i2l, 1) := by decide +kernel
theorem dX12_part_8 : decode cX12_part 8 = .ok (.invokevirtual 194, 3) := by decide +kernel
theorem dX12_part_11 : decode cX12_part 11 = .ok (.ifCond .ne 6, 3) := by decide +kernel
theorem dX12_part_14 : decode cX12_part 14 = .ok (.bipush (-2), 2) := by decide +kernel
theorem dX12_part_16 : decode cX12_part 16 = .ok (.ireturn, 1) := by decide +kernel
theorem dX12_part_17 : decode cX12_part 17 = .ok (.aload_n 0, 1) := by decide +kernel
theorem dX12_part_18 : decode cX12_part 18 = .ok (.getfield 13, 3) := by decide +kernel
theorem dX12_part_21 : decode cX12_part 21 = .ok (.sipush 153, 3) := by decide +kernel
theorem dX12_part_24 : decode cX12_part 24 = .ok (.iload_n 1, 1) := by decide +kernel
theorem dX12_part_25 : decode cX12_part 25 = .ok (.iadd, 1) := by decide +kernel
theorem dX12_part_26 : decode cX12_part 26 = .ok (.iaload, 1) := by decide +kernel
theorem dX12_part_27 : decode cX12_part 27 = .ok (.iconst (-1), 1) := by decide +kernel
theorem dX12_part_28 : decode cX12_part 28 = .ok (.if_icmp .ne 6, 3) := by decide +kernel
theorem dX12_part_31 : decode cX12_part 31 = .ok (.bipush (-5), 2) := by decide +kernel
theorem dX12_part_33 : decode cX12_part 33 = .ok (.ireturn, 1) := by decide +kernel
theorem dX12_part_34 : decode cX12_part 34 = .ok (.aload_n 0, 1) := by decide +kernel
theorem dX12_part_35 : decode cX12_part 35 = .ok (.invokevirtual 267, 3) := by decide +kernel
theorem dX12_part_38 : decode cX12_part 38 = .ok (.aload_n 0, 1) := by decide +kernel
theorem dX12_part_39 : decode cX12_part 39 = .ok (.iload_n 1, 1) := by decide +kernel
theorem dX12_part_40 : decode cX12_part 40 = .ok (.invokevirtual 258, 3) := by decide +kernel
theorem dX12_part_43 : decode cX12_part 43 = .ok (.aload_n 0, 1) := by decide +kernel
theorem dX12_part_44 : decode cX12_part 44 = .ok (.invokevirtual 270, 3) := by decide +kernel
theorem dX12_part_47 : decode cX12_part 47 = .ok (.iconst 0, 1) := by decide +kernel
theorem dX12_part_48 : decode cX12_part 48 = .ok (.ireturn, 1) := by decide +kernel
set_option maxRecDepth 100000 in
set_option maxHeartbeats 4000000 in
theorem v_X12_part {l : Launch} {p : Program} {e : Env} {s : State} {mt : MethodId} {args : Array Value} {below : List Frame} {meth : Method} {c : Code} {A : Nat → Prop} {ad0 : Nat → Nat} {G : Gt}  (C : Cx G p s mt args meth c RX12 cX12_part 2 (some .int) "part" A)  (x1 : Int32) (m : Mem) : V G SM oI l p e s mt args below meth c 2 3 A ad0 17 17 RM 17 RM 0 [(0, .ref 0), (1, .int x1)] [] m (X12_part  x1 m) := by
  rw [X12_part]
  refine V.aload_n (pc := 0) C dX12_part_0 0 rfl ?_
  refine V.iconst (pc := 1) C dX12_part_1 (v := 0) (by decide) ?_
  refine V.puti (pc := 2) C fp_RX12_1 sM0 kM0 rfl dX12_part_2 ?_
  refine V.ltm (fun m_1 => ?_)
  refine V.aload_n (pc := 5) C dX12_part_5 0 rfl ?_
  refine V.iload_n (pc := 6) C dX12_part_6 1 rfl ?_
  refine V.i2l (pc := 7) C dX12_part_7 ?_
  refine V.callV (pc := 8) (st := []) C (c_X12_isPerson l (Int32.toInt64 x1) m_1) obI ck_X12_isPerson ml_RX12_194 rfl rfl sM0 kM0 rfl rfl (Nat.le_of_ble_eq_true rfl) ⟨by decide, by decide⟩ dX12_part_8 (fun r_2 m_3 _ => ?_)
  refine V.if_ne (pc := 11) C dX12_part_11 17 (by decide) (fun _ => ?_) (fun _ => ?_)
  · refine V.aload_n (pc := 17) C dX12_part_17 0 rfl ?_
    refine V.getr (pc := 18) C fl_RX12_13 sM0 kM0 rfl rM0_1 dX12_part_18 ?_
    refine V.sipush (pc := 21) C dX12_part_21 (v := 153) (by decide) ?_
    refine V.iload_n (pc := 24) C dX12_part_24 1 rfl ?_
    refine V.iadd (pc := 25) C dX12_part_25 ?_
    refine V.iald (pc := 26) C sM1 kM1 dX12_part_26 (fun _ => ?_)
    refine V.iconst (pc := 27) C dX12_part_27 (v := (-1)) (by decide) ?_
    refine V.icmp_ne (pc := 28) C dX12_part_28 34 (by decide) (fun _ => ?_) (fun _ => ?_)
    · refine V.aload_n (pc := 34) C dX12_part_34 0 rfl ?_
      refine V.callV (pc := 35) (st := []) C (c_X12_keeps l  m_3) obV ck_X12_keeps ml_RX12_267 rfl rfl sM0 kM0 rfl rfl (Nat.le_of_ble_eq_true rfl) ⟨by decide, by decide⟩ dX12_part_35 (fun r_4 m_5 _ => ?_)
      refine V.aload_n (pc := 38) C dX12_part_38 0 rfl ?_
      refine V.iload_n (pc := 39) C dX12_part_39 1 rfl ?_
      refine V.callV (pc := 40) (st := []) C (c_X12_parts l x1 m_5) obV ck_X12_parts ml_RX12_258 rfl rfl sM0 kM0 rfl rfl (Nat.le_of_ble_eq_true rfl) ⟨by decide, by decide⟩ dX12_part_40 (fun r_6 m_7 _ => ?_)
      refine V.aload_n (pc := 43) C dX12_part_43 0 rfl ?_
      refine V.callV (pc := 44) (st := []) C (c_X12_notes l  m_7) obV ck_X12_notes ml_RX12_270 rfl rfl sM0 kM0 rfl rfl (Nat.le_of_ble_eq_true rfl) ⟨by decide, by decide⟩ dX12_part_44 (fun r_8 m_9 _ => ?_)
      refine V.iconst (pc := 47) C dX12_part_47 (v := 0) (by decide) ?_
      exact V.iret C dX12_part_48
    · refine V.bipush (pc := 31) C dX12_part_31 (v := (-5)) (by decide) ?_
      exact V.iret C dX12_part_33
  · refine V.bipush (pc := 14) C dX12_part_14 (v := (-2)) (by decide) ?_
    exact V.iret C dX12_part_16
theorem c_X12_part (l : Launch)   (x1 : Int32) (m : Mem) : Ct l yX12_part cX12_part 2 (some .int) 3 SM oI 17 17 RM RM [.ref 0, .int x1] m (X12_part  x1 m) :=
  Ct.of (own := RX12) (nm := "part") (by decide) rfl rfl (Nat.le_of_ble_eq_true rfl) (fun _ _ _ _ _ _ _ _ _ _ _ C => v_X12_part C  x1 m)
theorem dX12_peace_0 : decode cX12_peace 0 = .ok (.aload_n 0, 1) := by decide +kernel
theorem dX12_peace_1 : decode cX12_peace 1 = .ok (.iconst 0, 1) := by decide +kernel
theorem dX12_peace_2 : decode cX12_peace 2 = .ok (.putfield 1, 3) := by decide +kernel
theorem dX12_peace_5 : decode cX12_peace 5 = .ok (.iconst 0, 1) := by decide +kernel
theorem dX12_peace_6 : decode cX12_peace 6 = .ok (.istore_n 1, 1) := by decide +kernel
theorem dX12_peace_7 : decode cX12_peace 7 = .ok (.iconst 0, 1) := by decide +kernel
theorem dX12_peace_8 : decode cX12_peace 8 = .ok (.istore_n 2, 1) := by decide +kernel
theorem dX12_peace_9 : decode cX12_peace 9 = .ok (.iload_n 2, 1) := by decide +kernel
theorem dX12_peace_10 : decode cX12_peace 10 = .ok (.aload_n 0, 1) := by decide +kernel
theorem dX12_peace_11 : decode cX12_peace 11 = .ok (.getfield 13, 3) := by decide +kernel
theorem dX12_peace_14 : decode cX12_peace 14 = .ok (.iconst 2, 1) := by decide +kernel
theorem dX12_peace_15 : decode cX12_peace 15 = .ok (.iaload, 1) := by decide +kernel
theorem dX12_peace_16 : decode cX12_peace 16 = .ok (.if_icmp .ge 17, 3) := by decide +kernel
theorem dX12_peace_19 : decode cX12_peace 19 = .ok (.iload_n 1, 1) := by decide +kernel
theorem dX12_peace_20 : decode cX12_peace 20 = .ok (.aload_n 0, 1) := by decide +kernel
theorem dX12_peace_21 : decode cX12_peace 21 = .ok (.iload_n 2, 1) := by decide +kernel
theorem dX12_peace_22 : decode cX12_peace 22 = .ok (.invokevirtual 372, 3) := by decide +kernel
theorem dX12_peace_25 : decode cX12_peace 25 = .ok (.ior, 1) := by decide +kernel
theorem dX12_peace_26 : decode cX12_peace 26 = .ok (.istore_n 1, 1) := by decide +kernel
theorem dX12_peace_27 : decode cX12_peace 27 = .ok (.iinc 2 1, 3) := by decide +kernel
theorem dX12_peace_30 : decode cX12_peace 30 = .ok (.goto (-21), 3) := by decide +kernel
theorem dX12_peace_33 : decode cX12_peace 33 = .ok (.iload_n 1, 1) := by decide +kernel
theorem dX12_peace_34 : decode cX12_peace 34 = .ok (.ireturn, 1) := by decide +kernel
set_option maxRecDepth 100000 in
set_option maxHeartbeats 4000000 in
theorem v_X12_peace_b9 {l : Launch} {p : Program} {e : Env} {s : State} {mt : MethodId} {args : Array Value} {below : List Frame} {meth : Method} {c : Code} {A : Nat → Prop} {ad0 : Nat → Nat} {G : Gt}  (C : Cx G p s mt args meth c RX12 cX12_peace 3 (some .int) "peace" A)  : ∀ (n : Nat) (y1 : Int32) (y2 : Int32) (m : Mem), V G SM oI l p e s mt args below meth c 3 3 A ad0 17 17 RM 17 RM 9 [(0, .ref 0), (1, .int y1), (2, .int y2)] [] m (X12_peace_b9  n y1 y2 m) := by
  intro n
  induction n with
  | zero =>
    intro y1 y2 m
    rw [X12_peace_b9]
    exact V.nil
  | succ n ih =>
    intro y1 y2 m
    rw [X12_peace_b9]
    refine V.iload_n (pc := 9) C dX12_peace_9 2 rfl ?_
    refine V.aload_n (pc := 10) C dX12_peace_10 0 rfl ?_
    refine V.getr (pc := 11) C fl_RX12_13 sM0 kM0 rfl rM0_1 dX12_peace_11 ?_
    refine V.iconst (pc := 14) C dX12_peace_14 (v := 2) (by decide) ?_
    refine V.iald (pc := 15) C sM1 kM1 dX12_peace_15 (fun _ => ?_)
    refine V.icmp_ge (pc := 16) C dX12_peace_16 33 (by decide) (fun _ => ?_) (fun _ => ?_)
    · refine V.iload_n (pc := 33) C dX12_peace_33 1 rfl ?_
      exact V.iret C dX12_peace_34
    · refine V.iload_n (pc := 19) C dX12_peace_19 1 rfl ?_
      refine V.aload_n (pc := 20) C dX12_peace_20 0 rfl ?_
      refine V.iload_n (pc := 21) C dX12_peace_21 2 rfl ?_
      refine V.callV (pc := 22) (st := [.int y1]) C (c_X12_angersOf l y2 m) obI ck_X12_angersOf ml_RX12_372 rfl rfl sM0 kM0 rfl rfl (Nat.le_of_ble_eq_true rfl) ⟨by decide, by decide⟩ dX12_peace_22 (fun r_2 m_3 _ => ?_)
      refine V.ior (pc := 25) C dX12_peace_25 ?_
      refine V.lti (fun x_4 _ => ?_)
      refine V.istore_n (pc := 26) C dX12_peace_26 (L2 := [(1, .int x_4), (0, .ref 0), (2, .int y2)]) (by decide) rfl ?_
      refine V.iinc (pc := 27) C dX12_peace_27 (v := 1) (L2 := [(2, .int (y2 + 1)), (1, .int x_4), (0, .ref 0)]) 2 rfl (by decide) (by decide) rfl ?_
      refine V.goto (pc := 30) C dX12_peace_30 9 (by decide) ?_
      refine V.wk [2, 1, 0] rfl ?_
      exact ih x_4 (y2 + 1) m_3
set_option maxRecDepth 100000 in
set_option maxHeartbeats 4000000 in
theorem v_X12_peace {l : Launch} {p : Program} {e : Env} {s : State} {mt : MethodId} {args : Array Value} {below : List Frame} {meth : Method} {c : Code} {A : Nat → Prop} {ad0 : Nat → Nat} {G : Gt}  (C : Cx G p s mt args meth c RX12 cX12_peace 3 (some .int) "peace" A)  (m : Mem) : V G SM oI l p e s mt args below meth c 3 3 A ad0 17 17 RM 17 RM 0 [(0, .ref 0)] [] m (X12_peace   m) := by
  rw [X12_peace]
  refine V.aload_n (pc := 0) C dX12_peace_0 0 rfl ?_
  refine V.iconst (pc := 1) C dX12_peace_1 (v := 0) (by decide) ?_
  refine V.puti (pc := 2) C fp_RX12_1 sM0 kM0 rfl dX12_peace_2 ?_
  refine V.ltm (fun m_1 => ?_)
  refine V.iconst (pc := 5) C dX12_peace_5 (v := 0) (by decide) ?_
  refine V.istore_n (pc := 6) C dX12_peace_6 (L2 := [(1, .int 0), (0, .ref 0)]) (by decide) rfl ?_
  refine V.iconst (pc := 7) C dX12_peace_7 (v := 0) (by decide) ?_
  refine V.istore_n (pc := 8) C dX12_peace_8 (L2 := [(2, .int 0), (1, .int 0), (0, .ref 0)]) (by decide) rfl ?_
  refine V.wk [2, 1, 0] rfl ?_
  exact v_X12_peace_b9 C  FU 0 0 m_1
theorem c_X12_peace (l : Launch)   (m : Mem) : Ct l yX12_peace cX12_peace 3 (some .int) 3 SM oI 17 17 RM RM [.ref 0] m (X12_peace   m) :=
  Ct.of (own := RX12) (nm := "peace") (by decide) rfl rfl (Nat.le_of_ble_eq_true rfl) (fun _ _ _ _ _ _ _ _ _ _ _ C => v_X12_peace C   m)
theorem dX12_perform_0 : decode cX12_perform 0 = .ok (.aload_n 0, 1) := by decide +kernel
theorem dX12_perform_1 : decode cX12_perform 1 = .ok (.iconst 0, 1) := by decide +kernel
theorem dX12_perform_2 : decode cX12_perform 2 = .ok (.putfield 1, 3) := by decide +kernel
theorem dX12_perform_5 : decode cX12_perform 5 = .ok (.aload_n 0, 1) := by decide +kernel
theorem dX12_perform_6 : decode cX12_perform 6 = .ok (.iload_n 1, 1) := by decide +kernel
theorem dX12_perform_7 : decode cX12_perform 7 = .ok (.invokevirtual 289, 3) := by decide +kernel
theorem dX12_perform_10 : decode cX12_perform 10 = .ok (.istore_n 2, 1) := by decide +kernel
theorem dX12_perform_11 : decode cX12_perform 11 = .ok (.iload_n 2, 1) := by decide +kernel
theorem dX12_perform_12 : decode cX12_perform 12 = .ok (.ifCond .eq 5, 3) := by decide +kernel
theorem dX12_perform_15 : decode cX12_perform 15 = .ok (.iload_n 2, 1) := by decide +kernel
theorem dX12_perform_16 : decode cX12_perform 16 = .ok (.ireturn, 1) := by decide +kernel
theorem dX12_perform_17 : decode cX12_perform 17 = .ok (.aload_n 0, 1) := by decide +kernel
theorem dX12_perform_18 : decode cX12_perform 18 = .ok (.invokevirtual 267, 3) := by decide +kernel
theorem dX12_perform_21 : decode cX12_perform 21 = .ok (.aload_n 0, 1) := by decide +kernel
theorem dX12_perform_22 : decode cX12_perform 22 = .ok (.iload_n 1, 1) := by decide +kernel
theorem dX12_perform_23 : decode cX12_perform 23 = .ok (.invokevirtual 292, 3) := by decide +kernel
theorem dX12_perform_26 : decode cX12_perform 26 = .ok (.istore_n 3, 1) := by decide +kernel
theorem dX12_perform_27 : decode cX12_perform 27 = .ok (.iload_n 3, 1) := by decide +kernel
theorem dX12_perform_28 : decode cX12_perform 28 = .ok (.ifCond .le 7, 3) := by decide +kernel
theorem dX12_perform_31 : decode cX12_perform 31 = .ok (.aload_n 0, 1) := by decide +kernel
theorem dX12_perform_32 : decode cX12_perform 32 = .ok (.invokevirtual 270, 3) := by decide +kernel
theorem dX12_perform_35 : decode cX12_perform 35 = .ok (.iload_n 3, 1) := by decide +kernel
theorem dX12_perform_36 : decode cX12_perform 36 = .ok (.ireturn, 1) := by decide +kernel
set_option maxRecDepth 100000 in
set_option maxHeartbeats 4000000 in
theorem v_X12_perform {l : Launch} {p : Program} {e : Env} {s : State} {mt : MethodId} {args : Array Value} {below : List Frame} {meth : Method} {c : Code} {A : Nat → Prop} {ad0 : Nat → Nat} {G : Gt}  (C : Cx G p s mt args meth c RX12 cX12_perform 4 (some .int) "perform" A)  (x1 : Int32) (m : Mem) : V G SM oI l p e s mt args below meth c 4 8 A ad0 17 17 RM 17 RM 0 [(0, .ref 0), (1, .int x1)] [] m (X12_perform  x1 m) := by
  rw [X12_perform]
  refine V.aload_n (pc := 0) C dX12_perform_0 0 rfl ?_
  refine V.iconst (pc := 1) C dX12_perform_1 (v := 0) (by decide) ?_
  refine V.puti (pc := 2) C fp_RX12_1 sM0 kM0 rfl dX12_perform_2 ?_
  refine V.ltm (fun m_1 => ?_)
  refine V.aload_n (pc := 5) C dX12_perform_5 0 rfl ?_
  refine V.iload_n (pc := 6) C dX12_perform_6 1 rfl ?_
  refine V.callV (pc := 7) (st := []) C (c_X12_noTray l x1 m_1) obI ck_X12_noTray ml_RX12_289 rfl rfl sM0 kM0 rfl rfl (Nat.le_of_ble_eq_true rfl) ⟨by decide, by decide⟩ dX12_perform_7 (fun r_2 m_3 _ => ?_)
  refine V.istore_n (pc := 10) C dX12_perform_10 (L2 := [(2, .int r_2), (0, .ref 0), (1, .int x1)]) (by decide) rfl ?_
  refine V.iload_n (pc := 11) C dX12_perform_11 0 rfl ?_
  refine V.if_eq (pc := 12) C dX12_perform_12 17 (by decide) (fun _ => ?_) (fun _ => ?_)
  · refine V.aload_n (pc := 17) C dX12_perform_17 1 rfl ?_
    refine V.callV (pc := 18) (st := []) C (c_X12_keeps l  m_3) obV ck_X12_keeps ml_RX12_267 rfl rfl sM0 kM0 rfl rfl (Nat.le_of_ble_eq_true rfl) ⟨by decide, by decide⟩ dX12_perform_18 (fun r_4 m_5 _ => ?_)
    refine V.aload_n (pc := 21) C dX12_perform_21 1 rfl ?_
    refine V.iload_n (pc := 22) C dX12_perform_22 2 rfl ?_
    refine V.callV (pc := 23) (st := []) C (c_X12_tells l x1 m_5) obI ck_X12_tells ml_RX12_292 rfl rfl sM0 kM0 rfl rfl (Nat.le_of_ble_eq_true rfl) ⟨by decide, by decide⟩ dX12_perform_23 (fun r_6 m_7 _ => ?_)
    refine V.istore_n (pc := 26) C dX12_perform_26 (L2 := [(3, .int r_6), (2, .int r_2), (0, .ref 0), (1, .int x1)]) (by decide) rfl ?_
    refine V.iload_n (pc := 27) C dX12_perform_27 0 rfl ?_
    refine V.if_le (pc := 28) C dX12_perform_28 35 (by decide) (fun _ => ?_) (fun _ => ?_)
    · refine V.iload_n (pc := 35) C dX12_perform_35 0 rfl ?_
      exact V.iret C dX12_perform_36
    · refine V.aload_n (pc := 31) C dX12_perform_31 2 rfl ?_
      refine V.callV (pc := 32) (st := []) C (c_X12_notes l  m_7) obV ck_X12_notes ml_RX12_270 rfl rfl sM0 kM0 rfl rfl (Nat.le_of_ble_eq_true rfl) ⟨by decide, by decide⟩ dX12_perform_32 (fun r_8 m_9 _ => ?_)
      refine V.iload_n (pc := 35) C dX12_perform_35 0 rfl ?_
      exact V.iret C dX12_perform_36
  · refine V.iload_n (pc := 15) C dX12_perform_15 0 rfl ?_
    exact V.iret C dX12_perform_16
theorem c_X12_perform (l : Launch)   (x1 : Int32) (m : Mem) : Ct l yX12_perform cX12_perform 4 (some .int) 8 SM oI 17 17 RM RM [.ref 0, .int x1] m (X12_perform  x1 m) :=
  Ct.of (own := RX12) (nm := "perform") (by decide) rfl rfl (Nat.le_of_ble_eq_true rfl) (fun _ _ _ _ _ _ _ _ _ _ _ C => v_X12_perform C  x1 m)
theorem dX12_person_0 : decode cX12_person 0 = .ok (.aload_n 0, 1) := by decide +kernel
theorem dX12_person_1 : decode cX12_person 1 = .ok (.iconst 0, 1) := by decide +kernel
theorem dX12_person_2 : decode cX12_person 2 = .ok (.putfield 1, 3) := by decide +kernel
theorem dX12_person_5 : decode cX12_person 5 = .ok (.aload_n 0, 1) := by decide +kernel
theorem dX12_person_6 : decode cX12_person 6 = .ok (.iload_n 1, 1) := by decide +kernel
theorem dX12_person_7 : decode cX12_person 7 = .ok (.i2l, 1) := by decide +kernel
theorem dX12_person_8 : decode cX12_person 8 = .ok (.invokevirtual 194, 3) := by decide +kernel
theorem dX12_person_11 : decode cX12_person 11 = .ok (.ifCond .ne 6, 3) := by decide +kernel
theorem dX12_person_14 : decode cX12_person 14 = .ok (.bipush (-2), 2) := by decide +kernel
theorem dX12_person_16 : decode cX12_person 16 = .ok (.ireturn, 1) := by decide +kernel
theorem dX12_person_17 : decode cX12_person 17 = .ok (.iload_n 2, 1) := by decide +kernel
theorem dX12_person_18 : decode cX12_person 18 = .ok (.tableswitch 67 0 3 #[30, 40, 50, 56], 30) := by decide +kernel
theorem dX12_person_48 : decode cX12_person 48 = .ok (.aload_n 0, 1) := by decide +kernel
theorem dX12_person_49 : decode cX12_person 49 = .ok (.getfield 13, 3) := by decide +kernel
theorem dX12_person_52 : decode cX12_person 52 = .ok (.bipush 33, 2) := by decide +kernel
theorem dX12_person_54 : decode cX12_person 54 = .ok (.iload_n 1, 1) := by decide +kernel
theorem dX12_person_55 : decode cX12_person 55 = .ok (.iadd, 1) := by decide +kernel
theorem dX12_person_56 : decode cX12_person 56 = .ok (.iaload, 1) := by decide +kernel
theorem dX12_person_57 : decode cX12_person 57 = .ok (.ireturn, 1) := by decide +kernel
theorem dX12_person_58 : decode cX12_person 58 = .ok (.aload_n 0, 1) := by decide +kernel
theorem dX12_person_59 : decode cX12_person 59 = .ok (.getfield 13, 3) := by decide +kernel
theorem dX12_person_62 : decode cX12_person 62 = .ok (.bipush 25, 2) := by decide +kernel
theorem dX12_person_64 : decode cX12_person 64 = .ok (.iload_n 1, 1) := by decide +kernel
theorem dX12_person_65 : decode cX12_person 65 = .ok (.iadd, 1) := by decide +kernel
theorem dX12_person_66 : decode cX12_person 66 = .ok (.iaload, 1) := by decide +kernel
theorem dX12_person_67 : decode cX12_person 67 = .ok (.ireturn, 1) := by decide +kernel
theorem dX12_person_68 : decode cX12_person 68 = .ok (.aload_n 0, 1) := by decide +kernel
theorem dX12_person_69 : decode cX12_person 69 = .ok (.iload_n 1, 1) := by decide +kernel
theorem dX12_person_70 : decode cX12_person 70 = .ok (.invokevirtual 207, 3) := by decide +kernel
theorem dX12_person_73 : decode cX12_person 73 = .ok (.ireturn, 1) := by decide +kernel
theorem dX12_person_74 : decode cX12_person 74 = .ok (.aload_n 0, 1) := by decide +kernel
theorem dX12_person_75 : decode cX12_person 75 = .ok (.getfield 13, 3) := by decide +kernel
theorem dX12_person_78 : decode cX12_person 78 = .ok (.sipush 153, 3) := by decide +kernel
theorem dX12_person_81 : decode cX12_person 81 = .ok (.iload_n 1, 1) := by decide +kernel
theorem dX12_person_82 : decode cX12_person 82 = .ok (.iadd, 1) := by decide +kernel
theorem dX12_person_83 : decode cX12_person 83 = .ok (.iaload, 1) := by decide +kernel
theorem dX12_person_84 : decode cX12_person 84 = .ok (.ireturn, 1) := by decide +kernel
theorem dX12_person_85 : decode cX12_person 85 = .ok (.bipush (-2), 2) := by decide +kernel
theorem dX12_person_87 : decode cX12_person 87 = .ok (.ireturn, 1) := by decide +kernel
set_option maxRecDepth 100000 in
set_option maxHeartbeats 4000000 in
theorem v_X12_person {l : Launch} {p : Program} {e : Env} {s : State} {mt : MethodId} {args : Array Value} {below : List Frame} {meth : Method} {c : Code} {A : Nat → Prop} {ad0 : Nat → Nat} {G : Gt}  (C : Cx G p s mt args meth c RX12 cX12_person 3 (some .int) "person" A)  (x1 : Int32) (x2 : Int32) (m : Mem) : V G SM oI l p e s mt args below meth c 3 3 A ad0 17 17 RM 17 RM 0 [(0, .ref 0), (1, .int x1), (2, .int x2)] [] m (X12_person  x1 x2 m) := by
  rw [X12_person]
  refine V.aload_n (pc := 0) C dX12_person_0 0 rfl ?_
  refine V.iconst (pc := 1) C dX12_person_1 (v := 0) (by decide) ?_
  refine V.puti (pc := 2) C fp_RX12_1 sM0 kM0 rfl dX12_person_2 ?_
  refine V.ltm (fun m_1 => ?_)
  refine V.aload_n (pc := 5) C dX12_person_5 0 rfl ?_
  refine V.iload_n (pc := 6) C dX12_person_6 1 rfl ?_
  refine V.i2l (pc := 7) C dX12_person_7 ?_
  refine V.callV (pc := 8) (st := []) C (c_X12_isPerson l (Int32.toInt64 x1) m_1) obI ck_X12_isPerson ml_RX12_194 rfl rfl sM0 kM0 rfl rfl (Nat.le_of_ble_eq_true rfl) ⟨by decide, by decide⟩ dX12_person_8 (fun r_2 m_3 _ => ?_)
  refine V.if_ne (pc := 11) C dX12_person_11 17 (by decide) (fun _ => ?_) (fun _ => ?_)
  · refine V.iload_n (pc := 17) C dX12_person_17 2 rfl ?_
    refine V.br (fun h_4 => ?_) (fun h_4 => ?_)
    · refine V.tin (pc := 18) (x := x2) (j := 0) (tgt := 48) C dX12_person_18 h_4 (by decide) (by decide) rfl (by decide) ?_
      refine V.aload_n (pc := 48) C dX12_person_48 0 rfl ?_
      refine V.getr (pc := 49) C fl_RX12_13 sM0 kM0 rfl rM0_1 dX12_person_49 ?_
      refine V.bipush (pc := 52) C dX12_person_52 (v := 33) (by decide) ?_
      refine V.iload_n (pc := 54) C dX12_person_54 1 rfl ?_
      refine V.iadd (pc := 55) C dX12_person_55 ?_
      refine V.iald (pc := 56) C sM1 kM1 dX12_person_56 (fun _ => ?_)
      exact V.iret C dX12_person_57
    · refine V.br (fun h_5 => ?_) (fun h_5 => ?_)
      · refine V.tin (pc := 18) (x := x2) (j := 1) (tgt := 58) C dX12_person_18 h_5 (by decide) (by decide) rfl (by decide) ?_
        refine V.aload_n (pc := 58) C dX12_person_58 0 rfl ?_
        refine V.getr (pc := 59) C fl_RX12_13 sM0 kM0 rfl rM0_1 dX12_person_59 ?_
        refine V.bipush (pc := 62) C dX12_person_62 (v := 25) (by decide) ?_
        refine V.iload_n (pc := 64) C dX12_person_64 1 rfl ?_
        refine V.iadd (pc := 65) C dX12_person_65 ?_
        refine V.iald (pc := 66) C sM1 kM1 dX12_person_66 (fun _ => ?_)
        exact V.iret C dX12_person_67
      · refine V.br (fun h_8 => ?_) (fun h_8 => ?_)
        · refine V.tin (pc := 18) (x := x2) (j := 2) (tgt := 68) C dX12_person_18 h_8 (by decide) (by decide) rfl (by decide) ?_
          refine V.aload_n (pc := 68) C dX12_person_68 0 rfl ?_
          refine V.iload_n (pc := 69) C dX12_person_69 1 rfl ?_
          refine V.callV (pc := 70) (st := []) C (c_X12_listOf l x1 m_3) obI ck_X12_listOf ml_RX12_207 rfl rfl sM0 kM0 rfl rfl (Nat.le_of_ble_eq_true rfl) ⟨by decide, by decide⟩ dX12_person_70 (fun r_6 m_7 _ => ?_)
          exact V.iret C dX12_person_73
        · refine V.br (fun h_9 => ?_) (fun h_9 => ?_)
          · refine V.tin (pc := 18) (x := x2) (j := 3) (tgt := 74) C dX12_person_18 h_9 (by decide) (by decide) rfl (by decide) ?_
            refine V.aload_n (pc := 74) C dX12_person_74 0 rfl ?_
            refine V.getr (pc := 75) C fl_RX12_13 sM0 kM0 rfl rM0_1 dX12_person_75 ?_
            refine V.sipush (pc := 78) C dX12_person_78 (v := 153) (by decide) ?_
            refine V.iload_n (pc := 81) C dX12_person_81 1 rfl ?_
            refine V.iadd (pc := 82) C dX12_person_82 ?_
            refine V.iald (pc := 83) C sM1 kM1 dX12_person_83 (fun _ => ?_)
            exact V.iret C dX12_person_84
          · have g0 := lv_neT h_4 (show (0 : Int32).toInt = 0 from by decide)
            have g1 := lv_neT h_5 (show (1 : Int32).toInt = 1 from by decide)
            have g2 := lv_neT h_8 (show (2 : Int32).toInt = 2 from by decide)
            have g3 := lv_neT h_9 (show (3 : Int32).toInt = 3 from by decide)
            refine V.tout (pc := 18) (x := x2) (tgt := 85) C dX12_person_18 (by omega) (by decide) ?_
            refine V.bipush (pc := 85) C dX12_person_85 (v := (-2)) (by decide) ?_
            exact V.iret C dX12_person_87
  · refine V.bipush (pc := 14) C dX12_person_14 (v := (-2)) (by decide) ?_
    exact V.iret C dX12_person_16
theorem c_X12_person (l : Launch)   (x1 : Int32) (x2 : Int32) (m : Mem) : Ct l yX12_person cX12_person 3 (some .int) 3 SM oI 17 17 RM RM [.ref 0, .int x1, .int x2] m (X12_person  x1 x2 m) :=
  Ct.of (own := RX12) (nm := "person") (by decide) rfl rfl (Nat.le_of_ble_eq_true rfl) (fun _ _ _ _ _ _ _ _ _ _ _ C => v_X12_person C  x1 x2 m)
theorem dX12_pieced_0 : decode cX12_pieced 0 = .ok (.aload_n 0, 1) := by decide +kernel
theorem dX12_pieced_1 : decode cX12_pieced 1 = .ok (.iconst 0, 1) := by decide +kernel
theorem dX12_pieced_2 : decode cX12_pieced 2 = .ok (.putfield 1, 3) := by decide +kernel
theorem dX12_pieced_5 : decode cX12_pieced 5 = .ok (.aload_n 0, 1) := by decide +kernel
theorem dX12_pieced_6 : decode cX12_pieced 6 = .ok (.iload_n 1, 1) := by decide +kernel
theorem dX12_pieced_7 : decode cX12_pieced 7 = .ok (.i2l, 1) := by decide +kernel
theorem dX12_pieced_8 : decode cX12_pieced 8 = .ok (.invokevirtual 194, 3) := by decide +kernel
theorem dX12_pieced_11 : decode cX12_pieced 11 = .ok (.ifCond .eq 13, 3) := by decide +kernel
theorem dX12_pieced_14 : decode cX12_pieced 14 = .ok (.iload_n 2, 1) := by decide +kernel
theorem dX12_pieced_15 : decode cX12_pieced 15 = .ok (.i2l, 1) := by decide +kernel
theorem dX12_pieced_16 : decode cX12_pieced 16 = .ok (.lconst 0, 1) := by decide +kernel
theorem dX12_pieced_17 : decode cX12_pieced 17 = .ok (.lconst 1, 1) := by decide +kernel
theorem dX12_pieced_18 : decode cX12_pieced 18 = .ok (.invokestatic 133, 3) := by decide +kernel
theorem dX12_pieced_21 : decode cX12_pieced 21 = .ok (.ifCond .ne 6, 3) := by decide +kernel
theorem dX12_pieced_24 : decode cX12_pieced 24 = .ok (.bipush (-2), 2) := by decide +kernel
theorem dX12_pieced_26 : decode cX12_pieced 26 = .ok (.ireturn, 1) := by decide +kernel
theorem dX12_pieced_27 : decode cX12_pieced 27 = .ok (.iconst (-1), 1) := by decide +kernel
theorem dX12_pieced_28 : decode cX12_pieced 28 = .ok (.istore_n 3, 1) := by decide +kernel
theorem dX12_pieced_29 : decode cX12_pieced 29 = .ok (.iconst 0, 1) := by decide +kernel
theorem dX12_pieced_30 : decode cX12_pieced 30 = .ok (.istore 4, 2) := by decide +kernel
theorem dX12_pieced_32 : decode cX12_pieced 32 = .ok (.iload 4, 2) := by decide +kernel
theorem dX12_pieced_34 : decode cX12_pieced 34 = .ok (.iconst 1, 1) := by decide +kernel
theorem dX12_pieced_35 : decode cX12_pieced 35 = .ok (.aload_n 0, 1) := by decide +kernel
theorem dX12_pieced_36 : decode cX12_pieced 36 = .ok (.getfield 13, 3) := by decide +kernel
theorem dX12_pieced_39 : decode cX12_pieced 39 = .ok (.iconst 2, 1) := by decide +kernel
theorem dX12_pieced_40 : decode cX12_pieced 40 = .ok (.iaload, 1) := by decide +kernel
theorem dX12_pieced_41 : decode cX12_pieced 41 = .ok (.ishl, 1) := by decide +kernel
theorem dX12_pieced_42 : decode cX12_pieced 42 = .ok (.if_icmp .ge 101, 3) := by decide +kernel
theorem dX12_pieced_45 : decode cX12_pieced 45 = .ok (.iload 4, 2) := by decide +kernel
theorem dX12_pieced_47 : decode cX12_pieced 47 = .ok (.i2l, 1) := by decide +kernel
theorem dX12_pieced_48 : decode cX12_pieced 48 = .ok (.iload_n 1, 1) := by decide +kernel
theorem dX12_pieced_49 : decode cX12_pieced 49 = .ok (.invokestatic 175, 3) := by decide +kernel
theorem dX12_pieced_52 : decode cX12_pieced 52 = .ok (.ifCond .ne 85, 3) := by decide +kernel
theorem dX12_pieced_55 : decode cX12_pieced 55 = .ok (.iload_n 3, 1) := by decide +kernel
theorem dX12_pieced_56 : decode cX12_pieced 56 = .ok (.iconst (-1), 1) := by decide +kernel
theorem dX12_pieced_57 : decode cX12_pieced 57 = .ok (.if_icmp .eq 18, 3) := by decide +kernel
theorem dX12_pieced_60 : decode cX12_pieced 60 = .ok (.iload 4, 2) := by decide +kernel
theorem dX12_pieced_62 : decode cX12_pieced 62 = .ok (.invokestatic 201, 3) := by decide +kernel
theorem dX12_pieced_65 : decode cX12_pieced 65 = .ok (.iload_n 3, 1) := by decide +kernel
theorem dX12_pieced_66 : decode cX12_pieced 66 = .ok (.invokestatic 201, 3) := by decide +kernel
theorem dX12_pieced_69 : decode cX12_pieced 69 = .ok (.if_icmp .lt 6, 3) := by decide +kernel
theorem dX12_pieced_72 : decode cX12_pieced 72 = .ok (.goto 65, 3) := by decide +kernel
theorem dX12_pieced_75 : decode cX12_pieced 75 = .ok (.iconst 0, 1) := by decide +kernel
theorem dX12_pieced_76 : decode cX12_pieced 76 = .ok (.istore 5, 2) := by decide +kernel
theorem dX12_pieced_78 : decode cX12_pieced 78 = .ok (.iconst 0, 1) := by decide +kernel
theorem dX12_pieced_79 : decode cX12_pieced 79 = .ok (.istore 6, 2) := by decide +kernel
theorem dX12_pieced_81 : decode cX12_pieced 81 = .ok (.iload 6, 2) := by decide +kernel
theorem dX12_pieced_83 : decode cX12_pieced 83 = .ok (.aload_n 0, 1) := by decide +kernel
theorem dX12_pieced_84 : decode cX12_pieced 84 = .ok (.getfield 13, 3) := by decide +kernel
theorem dX12_pieced_87 : decode cX12_pieced 87 = .ok (.iconst 2, 1) := by decide +kernel
theorem dX12_pieced_88 : decode cX12_pieced 88 = .ok (.iaload, 1) := by decide +kernel
theorem dX12_pieced_89 : decode cX12_pieced 89 = .ok (.if_icmp .ge 35, 3) := by decide +kernel
theorem dX12_pieced_92 : decode cX12_pieced 92 = .ok (.iload 5, 2) := by decide +kernel
theorem dX12_pieced_94 : decode cX12_pieced 94 = .ok (.iload 4, 2) := by decide +kernel
theorem dX12_pieced_96 : decode cX12_pieced 96 = .ok (.i2l, 1) := by decide +kernel
theorem dX12_pieced_97 : decode cX12_pieced 97 = .ok (.iload 6, 2) := by decide +kernel
theorem dX12_pieced_99 : decode cX12_pieced 99 = .ok (.invokestatic 175, 3) := by decide +kernel
theorem dX12_pieced_102 : decode cX12_pieced 102 = .ok (.ifCond .eq 12, 3) := by decide +kernel
theorem dX12_pieced_105 : decode cX12_pieced 105 = .ok (.aload_n 0, 1) := by decide +kernel
theorem dX12_pieced_106 : decode cX12_pieced 106 = .ok (.iload 6, 2) := by decide +kernel
theorem dX12_pieced_108 : decode cX12_pieced 108 = .ok (.invokevirtual 207, 3) := by decide +kernel
theorem dX12_pieced_111 : decode cX12_pieced 111 = .ok (.goto 4, 3) := by decide +kernel
theorem dX12_pieced_114 : decode cX12_pieced 114 = .ok (.iconst 0, 1) := by decide +kernel
theorem dX12_pieced_115 : decode cX12_pieced 115 = .ok (.ior, 1) := by decide +kernel
theorem dX12_pieced_116 : decode cX12_pieced 116 = .ok (.istore 5, 2) := by decide +kernel
theorem dX12_pieced_118 : decode cX12_pieced 118 = .ok (.iinc 6 1, 3) := by decide +kernel
theorem dX12_pieced_121 : decode cX12_pieced 121 = .ok (.goto (-40), 3) := by decide +kernel
theorem dX12_pieced_124 : decode cX12_pieced 124 = .ok (.iload 5, 2) := by decide +kernel
theorem dX12_pieced_126 : decode cX12_pieced 126 = .ok (.aload_n 0, 1) := by decide +kernel
theorem dX12_pieced_127 : decode cX12_pieced 127 = .ok (.iload_n 1, 1) := by decide +kernel
theorem dX12_pieced_128 : decode cX12_pieced 128 = .ok (.invokevirtual 207, 3) := by decide +kernel
theorem dX12_pieced_131 : decode cX12_pieced 131 = .ok (.if_icmp .ne 6, 3) := by decide +kernel
theorem dX12_pieced_134 : decode cX12_pieced 134 = .ok (.iload 4, 2) := by decide +kernel
theorem dX12_pieced_136 : decode cX12_pieced 136 = .ok (.istore_n 3, 1) := by decide +kernel
theorem dX12_pieced_137 : decode cX12_pieced 137 = .ok (.iinc 4 1, 3) := by decide +kernel
theorem dX12_pieced_140 : decode cX12_pieced 140 = .ok (.goto (-108), 3) := by decide +kernel
theorem dX12_pieced_143 : decode cX12_pieced 143 = .ok (.iload_n 3, 1) := by decide +kernel
theorem dX12_pieced_144 : decode cX12_pieced 144 = .ok (.iconst (-1), 1) := by decide +kernel
theorem dX12_pieced_145 : decode cX12_pieced 145 = .ok (.if_icmp .eq 8, 3) := by decide +kernel
theorem dX12_pieced_148 : decode cX12_pieced 148 = .ok (.iload_n 2, 1) := by decide +kernel
theorem dX12_pieced_149 : decode cX12_pieced 149 = .ok (.iconst 1, 1) := by decide +kernel
theorem dX12_pieced_150 : decode cX12_pieced 150 = .ok (.if_icmp .ne 7, 3) := by decide +kernel
theorem dX12_pieced_153 : decode cX12_pieced 153 = .ok (.iload_n 3, 1) := by decide +kernel
theorem dX12_pieced_154 : decode cX12_pieced 154 = .ok (.goto 7, 3) := by decide +kernel
theorem dX12_pieced_157 : decode cX12_pieced 157 = .ok (.iload_n 3, 1) := by decide +kernel
theorem dX12_pieced_158 : decode cX12_pieced 158 = .ok (.invokestatic 201, 3) := by decide +kernel
theorem dX12_pieced_161 : decode cX12_pieced 161 = .ok (.ireturn, 1) := by decide +kernel
set_option maxRecDepth 100000 in
set_option maxHeartbeats 4000000 in
theorem v_X12_pieced_b81 {l : Launch} {p : Program} {e : Env} {s : State} {mt : MethodId} {args : Array Value} {below : List Frame} {meth : Method} {c : Code} {A : Nat → Prop} {ad0 : Nat → Nat} {G : Gt}  (C : Cx G p s mt args meth c RX12 cX12_pieced 7 (some .int) "pieced" A) (k32 : Int32 → Int32 → Int32 → Int32 → Mem → Option (Int32 × Mem)) (h32 : ∀ (y1 : Int32) (y2 : Int32) (y3 : Int32) (y4 : Int32) (m : Mem), V G SM oI l p e s mt args below meth c 7 3 A ad0 17 17 RM 17 RM 32 [(0, .ref 0), (1, .int y1), (2, .int y2), (3, .int y3), (4, .int y4)] [] m (k32 y1 y2 y3 y4 m)) : ∀ (n : Nat) (y1 : Int32) (y2 : Int32) (y3 : Int32) (y4 : Int32) (y5 : Int32) (y6 : Int32) (m : Mem), V G SM oI l p e s mt args below meth c 7 3 A ad0 17 17 RM 17 RM 81 [(0, .ref 0), (1, .int y1), (2, .int y2), (3, .int y3), (4, .int y4), (5, .int y5), (6, .int y6)] [] m (X12_pieced_b81 k32 n y1 y2 y3 y4 y5 y6 m) := by
  intro n
  induction n with
  | zero =>
    intro y1 y2 y3 y4 y5 y6 m
    rw [X12_pieced_b81]
    exact V.nil
  | succ n ih =>
    intro y1 y2 y3 y4 y5 y6 m
    rw [X12_pieced_b81]
    refine V.iload (pc := 81) C dX12_pieced_81 6 rfl ?_
    refine V.aload_n (pc := 83) C dX12_pieced_83 0 rfl ?_
    refine V.getr (pc := 84) C fl_RX12_13 sM0 kM0 rfl rM0_1 dX12_pieced_84 ?_
    refine V.iconst (pc := 87) C dX12_pieced_87 (v := 2) (by decide) ?_
    refine V.iald (pc := 88) C sM1 kM1 dX12_pieced_88 (fun _ => ?_)
    refine V.icmp_ge (pc := 89) C dX12_pieced_89 124 (by decide) (fun _ => ?_) (fun _ => ?_)
    · refine V.iload (pc := 124) C dX12_pieced_124 5 rfl ?_
      refine V.aload_n (pc := 126) C dX12_pieced_126 0 rfl ?_
      refine V.iload_n (pc := 127) C dX12_pieced_127 1 rfl ?_
      refine V.callV (pc := 128) (st := [.int y5]) C (c_X12_listOf l y1 m) obI ck_X12_listOf ml_RX12_207 rfl rfl sM0 kM0 rfl rfl (Nat.le_of_ble_eq_true rfl) ⟨by decide, by decide⟩ dX12_pieced_128 (fun r_10 m_11 _ => ?_)
      refine V.icmp_ne (pc := 131) C dX12_pieced_131 137 (by decide) (fun _ => ?_) (fun _ => ?_)
      · refine V.iinc (pc := 137) C dX12_pieced_137 (v := 1) (L2 := [(4, .int (y4 + 1)), (0, .ref 0), (1, .int y1), (2, .int y2), (3, .int y3), (5, .int y5), (6, .int y6)]) 4 rfl (by decide) (by decide) rfl ?_
        refine V.goto (pc := 140) C dX12_pieced_140 32 (by decide) ?_
        refine V.wk [1, 2, 3, 4, 0] rfl ?_
        exact h32 y1 y2 y3 (y4 + 1) m_11
      · refine V.iload (pc := 134) C dX12_pieced_134 4 rfl ?_
        refine V.istore_n (pc := 136) C dX12_pieced_136 (L2 := [(3, .int y4), (0, .ref 0), (1, .int y1), (2, .int y2), (4, .int y4), (5, .int y5), (6, .int y6)]) (by decide) rfl ?_
        refine V.iinc (pc := 137) C dX12_pieced_137 (v := 1) (L2 := [(4, .int (y4 + 1)), (3, .int y4), (0, .ref 0), (1, .int y1), (2, .int y2), (5, .int y5), (6, .int y6)]) 4 rfl (by decide) (by decide) rfl ?_
        refine V.goto (pc := 140) C dX12_pieced_140 32 (by decide) ?_
        refine V.wk [2, 3, 4, 1, 0] rfl ?_
        exact h32 y1 y2 y4 (y4 + 1) m_11
    · refine V.iload (pc := 92) C dX12_pieced_92 5 rfl ?_
      refine V.iload (pc := 94) C dX12_pieced_94 4 rfl ?_
      refine V.i2l (pc := 96) C dX12_pieced_96 ?_
      refine V.iload (pc := 97) C dX12_pieced_97 6 rfl ?_
      refine V.callS (pc := 99) (st := [.int y5]) C (c_X12_isIn l (Int32.toInt64 y4) y6 m) obI ck_X12_isIn ml_RX12_175 rfl rfl (Nat.le_of_ble_eq_true rfl) ⟨by decide, by decide⟩ dX12_pieced_99 (fun r_12 m_13 _ => ?_)
      refine V.if_eq (pc := 102) C dX12_pieced_102 114 (by decide) (fun _ => ?_) (fun _ => ?_)
      · refine V.iconst (pc := 114) C dX12_pieced_114 (v := 0) (by decide) ?_
        refine V.ior (pc := 115) C dX12_pieced_115 ?_
        refine V.lti (fun x_14 _ => ?_)
        refine V.istore (pc := 116) C dX12_pieced_116 (L2 := [(5, .int x_14), (0, .ref 0), (1, .int y1), (2, .int y2), (3, .int y3), (4, .int y4), (6, .int y6)]) (by decide) rfl ?_
        refine V.iinc (pc := 118) C dX12_pieced_118 (v := 1) (L2 := [(6, .int (y6 + 1)), (5, .int x_14), (0, .ref 0), (1, .int y1), (2, .int y2), (3, .int y3), (4, .int y4)]) 6 rfl (by decide) (by decide) rfl ?_
        refine V.goto (pc := 121) C dX12_pieced_121 81 (by decide) ?_
        refine V.wk [2, 3, 4, 5, 6, 1, 0] rfl ?_
        exact ih y1 y2 y3 y4 x_14 (y6 + 1) m_13
      · refine V.aload_n (pc := 105) C dX12_pieced_105 0 rfl ?_
        refine V.iload (pc := 106) C dX12_pieced_106 6 rfl ?_
        refine V.callV (pc := 108) (st := [.int y5]) C (c_X12_listOf l y6 m_13) obI ck_X12_listOf ml_RX12_207 rfl rfl sM0 kM0 rfl rfl (Nat.le_of_ble_eq_true rfl) ⟨by decide, by decide⟩ dX12_pieced_108 (fun r_15 m_16 _ => ?_)
        refine V.goto (pc := 111) C dX12_pieced_111 115 (by decide) ?_
        refine V.ior (pc := 115) C dX12_pieced_115 ?_
        refine V.lti (fun x_17 _ => ?_)
        refine V.istore (pc := 116) C dX12_pieced_116 (L2 := [(5, .int x_17), (0, .ref 0), (1, .int y1), (2, .int y2), (3, .int y3), (4, .int y4), (6, .int y6)]) (by decide) rfl ?_
        refine V.iinc (pc := 118) C dX12_pieced_118 (v := 1) (L2 := [(6, .int (y6 + 1)), (5, .int x_17), (0, .ref 0), (1, .int y1), (2, .int y2), (3, .int y3), (4, .int y4)]) 6 rfl (by decide) (by decide) rfl ?_
        refine V.goto (pc := 121) C dX12_pieced_121 81 (by decide) ?_
        refine V.wk [2, 3, 4, 5, 6, 1, 0] rfl ?_
        exact ih y1 y2 y3 y4 x_17 (y6 + 1) m_16
set_option maxRecDepth 100000 in
set_option maxHeartbeats 4000000 in
theorem v_X12_pieced_b32 {l : Launch} {p : Program} {e : Env} {s : State} {mt : MethodId} {args : Array Value} {below : List Frame} {meth : Method} {c : Code} {A : Nat → Prop} {ad0 : Nat → Nat} {G : Gt}  (C : Cx G p s mt args meth c RX12 cX12_pieced 7 (some .int) "pieced" A)  : ∀ (n : Nat) (y1 : Int32) (y2 : Int32) (y3 : Int32) (y4 : Int32) (m : Mem), V G SM oI l p e s mt args below meth c 7 3 A ad0 17 17 RM 17 RM 32 [(0, .ref 0), (1, .int y1), (2, .int y2), (3, .int y3), (4, .int y4)] [] m (X12_pieced_b32  n y1 y2 y3 y4 m) := by
  intro n
  induction n with
  | zero =>
    intro y1 y2 y3 y4 m
    rw [X12_pieced_b32]
    exact V.nil
  | succ n ih =>
    intro y1 y2 y3 y4 m
    rw [X12_pieced_b32]
    refine V.iload (pc := 32) C dX12_pieced_32 4 rfl ?_
    refine V.iconst (pc := 34) C dX12_pieced_34 (v := 1) (by decide) ?_
    refine V.aload_n (pc := 35) C dX12_pieced_35 0 rfl ?_
    refine V.getr (pc := 36) C fl_RX12_13 sM0 kM0 rfl rM0_1 dX12_pieced_36 ?_
    refine V.iconst (pc := 39) C dX12_pieced_39 (v := 2) (by decide) ?_
    refine V.iald (pc := 40) C sM1 kM1 dX12_pieced_40 (fun _ => ?_)
    refine V.ishl (pc := 41) C dX12_pieced_41 ?_
    refine V.icmp_ge (pc := 42) C dX12_pieced_42 143 (by decide) (fun _ => ?_) (fun _ => ?_)
    · refine V.iload_n (pc := 143) C dX12_pieced_143 3 rfl ?_
      refine V.iconst (pc := 144) C dX12_pieced_144 (v := (-1)) (by decide) ?_
      refine V.icmp_eq (pc := 145) C dX12_pieced_145 153 (by decide) (fun _ => ?_) (fun _ => ?_)
      · refine V.iload_n (pc := 153) C dX12_pieced_153 3 rfl ?_
        refine V.goto (pc := 154) C dX12_pieced_154 161 (by decide) ?_
        exact V.iret C dX12_pieced_161
      · refine V.iload_n (pc := 148) C dX12_pieced_148 2 rfl ?_
        refine V.iconst (pc := 149) C dX12_pieced_149 (v := 1) (by decide) ?_
        refine V.icmp_ne (pc := 150) C dX12_pieced_150 157 (by decide) (fun _ => ?_) (fun _ => ?_)
        · refine V.iload_n (pc := 157) C dX12_pieced_157 3 rfl ?_
          refine V.callS (pc := 158) (st := []) C (c_X12_bitsOf l y3 m) obI ck_X12_bitsOf ml_RX12_201 rfl rfl (Nat.le_of_ble_eq_true rfl) ⟨by decide, by decide⟩ dX12_pieced_158 (fun r_6 m_7 _ => ?_)
          exact V.iret C dX12_pieced_161
        · refine V.iload_n (pc := 153) C dX12_pieced_153 3 rfl ?_
          refine V.goto (pc := 154) C dX12_pieced_154 161 (by decide) ?_
          exact V.iret C dX12_pieced_161
    · refine V.iload (pc := 45) C dX12_pieced_45 4 rfl ?_
      refine V.i2l (pc := 47) C dX12_pieced_47 ?_
      refine V.iload_n (pc := 48) C dX12_pieced_48 1 rfl ?_
      refine V.callS (pc := 49) (st := []) C (c_X12_isIn l (Int32.toInt64 y4) y1 m) obI ck_X12_isIn ml_RX12_175 rfl rfl (Nat.le_of_ble_eq_true rfl) ⟨by decide, by decide⟩ dX12_pieced_49 (fun r_8 m_9 _ => ?_)
      refine V.if_ne (pc := 52) C dX12_pieced_52 137 (by decide) (fun _ => ?_) (fun _ => ?_)
      · refine V.iinc (pc := 137) C dX12_pieced_137 (v := 1) (L2 := [(4, .int (y4 + 1)), (0, .ref 0), (1, .int y1), (2, .int y2), (3, .int y3)]) 4 rfl (by decide) (by decide) rfl ?_
        refine V.goto (pc := 140) C dX12_pieced_140 32 (by decide) ?_
        refine V.wk [1, 2, 3, 4, 0] rfl ?_
        exact ih y1 y2 y3 (y4 + 1) m_9
      · refine V.iload_n (pc := 55) C dX12_pieced_55 3 rfl ?_
        refine V.iconst (pc := 56) C dX12_pieced_56 (v := (-1)) (by decide) ?_
        refine V.icmp_eq (pc := 57) C dX12_pieced_57 75 (by decide) (fun _ => ?_) (fun _ => ?_)
        · refine V.iconst (pc := 75) C dX12_pieced_75 (v := 0) (by decide) ?_
          refine V.istore (pc := 76) C dX12_pieced_76 (L2 := [(5, .int 0), (0, .ref 0), (1, .int y1), (2, .int y2), (3, .int y3), (4, .int y4)]) (by decide) rfl ?_
          refine V.iconst (pc := 78) C dX12_pieced_78 (v := 0) (by decide) ?_
          refine V.istore (pc := 79) C dX12_pieced_79 (L2 := [(6, .int 0), (5, .int 0), (0, .ref 0), (1, .int y1), (2, .int y2), (3, .int y3), (4, .int y4)]) (by decide) rfl ?_
          refine V.wk [2, 3, 4, 5, 6, 1, 0] rfl ?_
          exact v_X12_pieced_b81 C (X12_pieced_b32 n) ih FU y1 y2 y3 y4 0 0 m_9
        · refine V.iload (pc := 60) C dX12_pieced_60 4 rfl ?_
          refine V.callS (pc := 62) (st := []) C (c_X12_bitsOf l y4 m_9) obI ck_X12_bitsOf ml_RX12_201 rfl rfl (Nat.le_of_ble_eq_true rfl) ⟨by decide, by decide⟩ dX12_pieced_62 (fun r_18 m_19 _ => ?_)
          refine V.iload_n (pc := 65) C dX12_pieced_65 3 rfl ?_
          refine V.callS (pc := 66) (st := [.int r_18]) C (c_X12_bitsOf l y3 m_19) obI ck_X12_bitsOf ml_RX12_201 rfl rfl (Nat.le_of_ble_eq_true rfl) ⟨by decide, by decide⟩ dX12_pieced_66 (fun r_20 m_21 _ => ?_)
          refine V.icmp_lt (pc := 69) C dX12_pieced_69 75 (by decide) (fun _ => ?_) (fun _ => ?_)
          · refine V.iconst (pc := 75) C dX12_pieced_75 (v := 0) (by decide) ?_
            refine V.istore (pc := 76) C dX12_pieced_76 (L2 := [(5, .int 0), (0, .ref 0), (1, .int y1), (2, .int y2), (3, .int y3), (4, .int y4)]) (by decide) rfl ?_
            refine V.iconst (pc := 78) C dX12_pieced_78 (v := 0) (by decide) ?_
            refine V.istore (pc := 79) C dX12_pieced_79 (L2 := [(6, .int 0), (5, .int 0), (0, .ref 0), (1, .int y1), (2, .int y2), (3, .int y3), (4, .int y4)]) (by decide) rfl ?_
            refine V.wk [2, 3, 4, 5, 6, 1, 0] rfl ?_
            exact v_X12_pieced_b81 C (X12_pieced_b32 n) ih FU y1 y2 y3 y4 0 0 m_21
          · refine V.goto (pc := 72) C dX12_pieced_72 137 (by decide) ?_
            refine V.iinc (pc := 137) C dX12_pieced_137 (v := 1) (L2 := [(4, .int (y4 + 1)), (0, .ref 0), (1, .int y1), (2, .int y2), (3, .int y3)]) 4 rfl (by decide) (by decide) rfl ?_
            refine V.goto (pc := 140) C dX12_pieced_140 32 (by decide) ?_
            refine V.wk [1, 2, 3, 4, 0] rfl ?_
            exact ih y1 y2 y3 (y4 + 1) m_21
set_option maxRecDepth 100000 in
set_option maxHeartbeats 4000000 in
theorem v_X12_pieced {l : Launch} {p : Program} {e : Env} {s : State} {mt : MethodId} {args : Array Value} {below : List Frame} {meth : Method} {c : Code} {A : Nat → Prop} {ad0 : Nat → Nat} {G : Gt}  (C : Cx G p s mt args meth c RX12 cX12_pieced 7 (some .int) "pieced" A)  (x1 : Int32) (x2 : Int32) (m : Mem) : V G SM oI l p e s mt args below meth c 7 3 A ad0 17 17 RM 17 RM 0 [(0, .ref 0), (1, .int x1), (2, .int x2)] [] m (X12_pieced  x1 x2 m) := by
  rw [X12_pieced]
  refine V.aload_n (pc := 0) C dX12_pieced_0 0 rfl ?_
  refine V.iconst (pc := 1) C dX12_pieced_1 (v := 0) (by decide) ?_
  refine V.puti (pc := 2) C fp_RX12_1 sM0 kM0 rfl dX12_pieced_2 ?_
  refine V.ltm (fun m_1 => ?_)
  refine V.aload_n (pc := 5) C dX12_pieced_5 0 rfl ?_
  refine V.iload_n (pc := 6) C dX12_pieced_6 1 rfl ?_
  refine V.i2l (pc := 7) C dX12_pieced_7 ?_
  refine V.callV (pc := 8) (st := []) C (c_X12_isPerson l (Int32.toInt64 x1) m_1) obI ck_X12_isPerson ml_RX12_194 rfl rfl sM0 kM0 rfl rfl (Nat.le_of_ble_eq_true rfl) ⟨by decide, by decide⟩ dX12_pieced_8 (fun r_2 m_3 _ => ?_)
  refine V.if_eq (pc := 11) C dX12_pieced_11 24 (by decide) (fun _ => ?_) (fun _ => ?_)
  · refine V.bipush (pc := 24) C dX12_pieced_24 (v := (-2)) (by decide) ?_
    exact V.iret C dX12_pieced_26
  · refine V.iload_n (pc := 14) C dX12_pieced_14 2 rfl ?_
    refine V.i2l (pc := 15) C dX12_pieced_15 ?_
    refine V.lconst (pc := 16) C dX12_pieced_16 (v := 0) (by decide) ?_
    refine V.lconst (pc := 17) C dX12_pieced_17 (v := 1) (by decide) ?_
    refine V.callS (pc := 18) (st := []) C (c_X12_within l (Int32.toInt64 x2) 0 1 m_3) obI ck_X12_within ml_RX12_133 rfl rfl (Nat.le_of_ble_eq_true rfl) ⟨by decide, by decide⟩ dX12_pieced_18 (fun r_4 m_5 _ => ?_)
    refine V.if_ne (pc := 21) C dX12_pieced_21 27 (by decide) (fun _ => ?_) (fun _ => ?_)
    · refine V.iconst (pc := 27) C dX12_pieced_27 (v := (-1)) (by decide) ?_
      refine V.istore_n (pc := 28) C dX12_pieced_28 (L2 := [(3, .int (-1)), (0, .ref 0), (1, .int x1), (2, .int x2)]) (by decide) rfl ?_
      refine V.iconst (pc := 29) C dX12_pieced_29 (v := 0) (by decide) ?_
      refine V.istore (pc := 30) C dX12_pieced_30 (L2 := [(4, .int 0), (3, .int (-1)), (0, .ref 0), (1, .int x1), (2, .int x2)]) (by decide) rfl ?_
      refine V.wk [2, 3, 4, 1, 0] rfl ?_
      exact v_X12_pieced_b32 C  FU x1 x2 (-1) 0 m_5
    · refine V.bipush (pc := 24) C dX12_pieced_24 (v := (-2)) (by decide) ?_
      exact V.iret C dX12_pieced_26
theorem c_X12_pieced (l : Launch)   (x1 : Int32) (x2 : Int32) (m : Mem) : Ct l yX12_pieced cX12_pieced 7 (some .int) 3 SM oI 17 17 RM RM [.ref 0, .int x1, .int x2] m (X12_pieced  x1 x2 m) :=
  Ct.of (own := RX12) (nm := "pieced") (by decide) rfl rfl (Nat.le_of_ble_eq_true rfl) (fun _ _ _ _ _ _ _ _ _ _ _ C => v_X12_pieced C  x1 x2 m)
theorem dX12_restore_0 : decode cX12_restore 0 = .ok (.aload_n 0, 1) := by decide +kernel
theorem dX12_restore_1 : decode cX12_restore 1 = .ok (.iconst 0, 1) := by decide +kernel
theorem dX12_restore_2 : decode cX12_restore 2 = .ok (.putfield 1, 3) := by decide +kernel
theorem dX12_restore_5 : decode cX12_restore 5 = .ok (.iload_n 1, 1) := by decide +kernel
theorem dX12_restore_6 : decode cX12_restore 6 = .ok (.i2l, 1) := by decide +kernel
theorem dX12_restore_7 : decode cX12_restore 7 = .ok (.lconst 0, 1) := by decide +kernel
theorem dX12_restore_8 : decode cX12_restore 8 = .ok (.lconst 1, 1) := by decide +kernel
theorem dX12_restore_9 : decode cX12_restore 9 = .ok (.invokestatic 133, 3) := by decide +kernel
theorem dX12_restore_12 : decode cX12_restore 12 = .ok (.ifCond .ne 6, 3) := by decide +kernel
theorem dX12_restore_15 : decode cX12_restore 15 = .ok (.bipush (-2), 2) := by decide +kernel
theorem dX12_restore_17 : decode cX12_restore 17 = .ok (.ireturn, 1) := by decide +kernel
theorem dX12_restore_18 : decode cX12_restore 18 = .ok (.aload_n 0, 1) := by decide +kernel
theorem dX12_restore_19 : decode cX12_restore 19 = .ok (.getfield 17, 3) := by decide +kernel
theorem dX12_restore_22 : decode cX12_restore 22 = .ok (.iload_n 1, 1) := by decide +kernel
theorem dX12_restore_23 : decode cX12_restore 23 = .ok (.baload, 1) := by decide +kernel
theorem dX12_restore_24 : decode cX12_restore 24 = .ok (.ifCond .ne 6, 3) := by decide +kernel
theorem dX12_restore_27 : decode cX12_restore 27 = .ok (.bipush (-5), 2) := by decide +kernel
theorem dX12_restore_29 : decode cX12_restore 29 = .ok (.ireturn, 1) := by decide +kernel
theorem dX12_restore_30 : decode cX12_restore 30 = .ok (.iconst 0, 1) := by decide +kernel
theorem dX12_restore_31 : decode cX12_restore 31 = .ok (.istore_n 2, 1) := by decide +kernel
theorem dX12_restore_32 : decode cX12_restore 32 = .ok (.iload_n 2, 1) := by decide +kernel
theorem dX12_restore_33 : decode cX12_restore 33 = .ok (.sipush 2096, 3) := by decide +kernel
theorem dX12_restore_36 : decode cX12_restore 36 = .ok (.if_icmp .ge 29, 3) := by decide +kernel
theorem dX12_restore_39 : decode cX12_restore 39 = .ok (.aload_n 0, 1) := by decide +kernel
theorem dX12_restore_40 : decode cX12_restore 40 = .ok (.getfield 13, 3) := by decide +kernel
theorem dX12_restore_43 : decode cX12_restore 43 = .ok (.iload_n 2, 1) := by decide +kernel
theorem dX12_restore_44 : decode cX12_restore 44 = .ok (.aload_n 0, 1) := by decide +kernel
theorem dX12_restore_45 : decode cX12_restore 45 = .ok (.getfield 13, 3) := by decide +kernel
theorem dX12_restore_48 : decode cX12_restore 48 = .ok (.sipush 2096, 3) := by decide +kernel
theorem dX12_restore_51 : decode cX12_restore 51 = .ok (.iload_n 1, 1) := by decide +kernel
theorem dX12_restore_52 : decode cX12_restore 52 = .ok (.iconst 1, 1) := by decide +kernel
theorem dX12_restore_53 : decode cX12_restore 53 = .ok (.iadd, 1) := by decide +kernel
theorem dX12_restore_54 : decode cX12_restore 54 = .ok (.imul, 1) := by decide +kernel
theorem dX12_restore_55 : decode cX12_restore 55 = .ok (.iload_n 2, 1) := by decide +kernel
theorem dX12_restore_56 : decode cX12_restore 56 = .ok (.iadd, 1) := by decide +kernel
theorem dX12_restore_57 : decode cX12_restore 57 = .ok (.iaload, 1) := by decide +kernel
theorem dX12_restore_58 : decode cX12_restore 58 = .ok (.iastore, 1) := by decide +kernel
theorem dX12_restore_59 : decode cX12_restore 59 = .ok (.iinc 2 1, 3) := by decide +kernel
theorem dX12_restore_62 : decode cX12_restore 62 = .ok (.goto (-30), 3) := by decide +kernel
theorem dX12_restore_65 : decode cX12_restore 65 = .ok (.aload_n 0, 1) := by decide +kernel
theorem dX12_restore_66 : decode cX12_restore 66 = .ok (.getfield 13, 3) := by decide +kernel
theorem dX12_restore_69 : decode cX12_restore 69 = .ok (.sipush 162, 3) := by decide +kernel
theorem dX12_restore_72 : decode cX12_restore 72 = .ok (.iconst 0, 1) := by decide +kernel
theorem dX12_restore_73 : decode cX12_restore 73 = .ok (.iastore, 1) := by decide +kernel
theorem dX12_restore_74 : decode cX12_restore 74 = .ok (.iconst 0, 1) := by decide +kernel
theorem dX12_restore_75 : decode cX12_restore 75 = .ok (.ireturn, 1) := by decide +kernel
set_option maxRecDepth 100000 in
set_option maxHeartbeats 4000000 in
theorem v_X12_restore_b32 {l : Launch} {p : Program} {e : Env} {s : State} {mt : MethodId} {args : Array Value} {below : List Frame} {meth : Method} {c : Code} {A : Nat → Prop} {ad0 : Nat → Nat} {G : Gt}  (C : Cx G p s mt args meth c RX12 cX12_restore 3 (some .int) "restore" A)  : ∀ (n : Nat) (y1 : Int32) (y2 : Int32) (m : Mem), V G SM oI l p e s mt args below meth c 3 2 A ad0 17 17 RM 17 RM 32 [(0, .ref 0), (1, .int y1), (2, .int y2)] [] m (X12_restore_b32  n y1 y2 m) := by
  intro n
  induction n with
  | zero =>
    intro y1 y2 m
    rw [X12_restore_b32]
    exact V.nil
  | succ n ih =>
    intro y1 y2 m
    rw [X12_restore_b32]
    refine V.iload_n (pc := 32) C dX12_restore_32 2 rfl ?_
    refine V.sipush (pc := 33) C dX12_restore_33 (v := 2096) (by decide) ?_
    refine V.icmp_ge (pc := 36) C dX12_restore_36 65 (by decide) (fun _ => ?_) (fun _ => ?_)
    · refine V.aload_n (pc := 65) C dX12_restore_65 0 rfl ?_
      refine V.getr (pc := 66) C fl_RX12_13 sM0 kM0 rfl rM0_1 dX12_restore_66 ?_
      refine V.sipush (pc := 69) C dX12_restore_69 (v := 162) (by decide) ?_
      refine V.iconst (pc := 72) C dX12_restore_72 (v := 0) (by decide) ?_
      refine V.iast (pc := 73) C sM1 kM1 dX12_restore_73 (fun _ => ?_)
      refine V.ltm (fun m_4 => ?_)
      refine V.iconst (pc := 74) C dX12_restore_74 (v := 0) (by decide) ?_
      exact V.iret C dX12_restore_75
    · refine V.aload_n (pc := 39) C dX12_restore_39 0 rfl ?_
      refine V.getr (pc := 40) C fl_RX12_13 sM0 kM0 rfl rM0_1 dX12_restore_40 ?_
      refine V.iload_n (pc := 43) C dX12_restore_43 2 rfl ?_
      refine V.aload_n (pc := 44) C dX12_restore_44 0 rfl ?_
      refine V.getr (pc := 45) C fl_RX12_13 sM0 kM0 rfl rM0_1 dX12_restore_45 ?_
      refine V.sipush (pc := 48) C dX12_restore_48 (v := 2096) (by decide) ?_
      refine V.iload_n (pc := 51) C dX12_restore_51 1 rfl ?_
      refine V.iconst (pc := 52) C dX12_restore_52 (v := 1) (by decide) ?_
      refine V.iadd (pc := 53) C dX12_restore_53 ?_
      refine V.imul (pc := 54) C dX12_restore_54 ?_
      refine V.iload_n (pc := 55) C dX12_restore_55 2 rfl ?_
      refine V.iadd (pc := 56) C dX12_restore_56 ?_
      refine V.iald (pc := 57) C sM1 kM1 dX12_restore_57 (fun _ => ?_)
      refine V.iast (pc := 58) C sM1 kM1 dX12_restore_58 (fun _ => ?_)
      refine V.ltm (fun m_5 => ?_)
      refine V.iinc (pc := 59) C dX12_restore_59 (v := 1) (L2 := [(2, .int (y2 + 1)), (0, .ref 0), (1, .int y1)]) 2 rfl (by decide) (by decide) rfl ?_
      refine V.goto (pc := 62) C dX12_restore_62 32 (by decide) ?_
      refine V.wk [1, 2, 0] rfl ?_
      exact ih y1 (y2 + 1) m_5
set_option maxRecDepth 100000 in
set_option maxHeartbeats 4000000 in
theorem v_X12_restore {l : Launch} {p : Program} {e : Env} {s : State} {mt : MethodId} {args : Array Value} {below : List Frame} {meth : Method} {c : Code} {A : Nat → Prop} {ad0 : Nat → Nat} {G : Gt}  (C : Cx G p s mt args meth c RX12 cX12_restore 3 (some .int) "restore" A)  (x1 : Int32) (m : Mem) : V G SM oI l p e s mt args below meth c 3 2 A ad0 17 17 RM 17 RM 0 [(0, .ref 0), (1, .int x1)] [] m (X12_restore  x1 m) := by
  rw [X12_restore]
  refine V.aload_n (pc := 0) C dX12_restore_0 0 rfl ?_
  refine V.iconst (pc := 1) C dX12_restore_1 (v := 0) (by decide) ?_
  refine V.puti (pc := 2) C fp_RX12_1 sM0 kM0 rfl dX12_restore_2 ?_
  refine V.ltm (fun m_1 => ?_)
  refine V.iload_n (pc := 5) C dX12_restore_5 1 rfl ?_
  refine V.i2l (pc := 6) C dX12_restore_6 ?_
  refine V.lconst (pc := 7) C dX12_restore_7 (v := 0) (by decide) ?_
  refine V.lconst (pc := 8) C dX12_restore_8 (v := 1) (by decide) ?_
  refine V.callS (pc := 9) (st := []) C (c_X12_within l (Int32.toInt64 x1) 0 1 m_1) obI ck_X12_within ml_RX12_133 rfl rfl (Nat.le_of_ble_eq_true rfl) ⟨by decide, by decide⟩ dX12_restore_9 (fun r_2 m_3 _ => ?_)
  refine V.if_ne (pc := 12) C dX12_restore_12 18 (by decide) (fun _ => ?_) (fun _ => ?_)
  · refine V.aload_n (pc := 18) C dX12_restore_18 0 rfl ?_
    refine V.getr (pc := 19) C fl_RX12_17 sM0 kM0 rfl rM0_2 dX12_restore_19 ?_
    refine V.iload_n (pc := 22) C dX12_restore_22 1 rfl ?_
    refine V.zald (pc := 23) C sM2 kM2 dX12_restore_23 (fun _ => ?_)
    refine V.if_ne (pc := 24) C dX12_restore_24 30 (by decide) (fun _ => ?_) (fun _ => ?_)
    · refine V.iconst (pc := 30) C dX12_restore_30 (v := 0) (by decide) ?_
      refine V.istore_n (pc := 31) C dX12_restore_31 (L2 := [(2, .int 0), (0, .ref 0), (1, .int x1)]) (by decide) rfl ?_
      refine V.wk [1, 2, 0] rfl ?_
      exact v_X12_restore_b32 C  FU x1 0 m_3
    · refine V.bipush (pc := 27) C dX12_restore_27 (v := (-5)) (by decide) ?_
      exact V.iret C dX12_restore_29
  · refine V.bipush (pc := 15) C dX12_restore_15 (v := (-2)) (by decide) ?_
    exact V.iret C dX12_restore_17
theorem c_X12_restore (l : Launch)   (x1 : Int32) (m : Mem) : Ct l yX12_restore cX12_restore 3 (some .int) 2 SM oI 17 17 RM RM [.ref 0, .int x1] m (X12_restore  x1 m) :=
  Ct.of (own := RX12) (nm := "restore") (by decide) rfl rfl (Nat.le_of_ble_eq_true rfl) (fun _ _ _ _ _ _ _ _ _ _ _ C => v_X12_restore C  x1 m)
theorem dX12_season_0 : decode cX12_season 0 = .ok (.aload_n 0, 1) := by decide +kernel
theorem dX12_season_1 : decode cX12_season 1 = .ok (.iconst 0, 1) := by decide +kernel
theorem dX12_season_2 : decode cX12_season 2 = .ok (.putfield 1, 3) := by decide +kernel
theorem dX12_season_5 : decode cX12_season 5 = .ok (.iload_n 2, 1) := by decide +kernel
theorem dX12_season_6 : decode cX12_season 6 = .ok (.i2l, 1) := by decide +kernel
theorem dX12_season_7 : decode cX12_season 7 = .ok (.lconst 1, 1) := by decide +kernel
theorem dX12_season_8 : decode cX12_season 8 = .ok (.ldc2_w 311, 3) := by decide +kernel
theorem dX12_season_11 : decode cX12_season 11 = .ok (.invokestatic 133, 3) := by decide +kernel
theorem dX12_season_14 : decode cX12_season 14 = .ok (.ifCond .ne 6, 3) := by decide +kernel
theorem dX12_season_17 : decode cX12_season 17 = .ok (.bipush (-3), 2) := by decide +kernel
theorem dX12_season_19 : decode cX12_season 19 = .ok (.ireturn, 1) := by decide +kernel
theorem dX12_season_20 : decode cX12_season 20 = .ok (.aload_n 0, 1) := by decide +kernel
theorem dX12_season_21 : decode cX12_season 21 = .ok (.getfield 13, 3) := by decide +kernel
theorem dX12_season_24 : decode cX12_season 24 = .ok (.iconst 1, 1) := by decide +kernel
theorem dX12_season_25 : decode cX12_season 25 = .ok (.iaload, 1) := by decide +kernel
theorem dX12_season_26 : decode cX12_season 26 = .ok (.ifCond .eq 12, 3) := by decide +kernel
theorem dX12_season_29 : decode cX12_season 29 = .ok (.aload_n 0, 1) := by decide +kernel
theorem dX12_season_30 : decode cX12_season 30 = .ok (.getfield 13, 3) := by decide +kernel
theorem dX12_season_33 : decode cX12_season 33 = .ok (.iconst 2, 1) := by decide +kernel
theorem dX12_season_34 : decode cX12_season 34 = .ok (.iaload, 1) := by decide +kernel
theorem dX12_season_35 : decode cX12_season 35 = .ok (.ifCond .ne 6, 3) := by decide +kernel
theorem dX12_season_38 : decode cX12_season 38 = .ok (.bipush (-5), 2) := by decide +kernel
theorem dX12_season_40 : decode cX12_season 40 = .ok (.ireturn, 1) := by decide +kernel
theorem dX12_season_41 : decode cX12_season 41 = .ok (.aload_n 0, 1) := by decide +kernel
theorem dX12_season_42 : decode cX12_season 42 = .ok (.invokevirtual 267, 3) := by decide +kernel
theorem dX12_season_45 : decode cX12_season 45 = .ok (.aload_n 0, 1) := by decide +kernel
theorem dX12_season_46 : decode cX12_season 46 = .ok (.iload_n 1, 1) := by decide +kernel
theorem dX12_season_47 : decode cX12_season 47 = .ok (.putfield 305, 3) := by decide +kernel
theorem dX12_season_50 : decode cX12_season 50 = .ok (.iconst 0, 1) := by decide +kernel
theorem dX12_season_51 : decode cX12_season 51 = .ok (.istore_n 3, 1) := by decide +kernel
theorem dX12_season_52 : decode cX12_season 52 = .ok (.iconst 0, 1) := by decide +kernel
theorem dX12_season_53 : decode cX12_season 53 = .ok (.istore 4, 2) := by decide +kernel
theorem dX12_season_55 : decode cX12_season 55 = .ok (.iload 4, 2) := by decide +kernel
theorem dX12_season_57 : decode cX12_season 57 = .ok (.iload_n 2, 1) := by decide +kernel
theorem dX12_season_58 : decode cX12_season 58 = .ok (.if_icmp .ge 37, 3) := by decide +kernel
theorem dX12_season_61 : decode cX12_season 61 = .ok (.aload_n 0, 1) := by decide +kernel
theorem dX12_season_62 : decode cX12_season 62 = .ok (.invokevirtual 313, 3) := by decide +kernel
theorem dX12_season_65 : decode cX12_season 65 = .ok (.istore 5, 2) := by decide +kernel
theorem dX12_season_67 : decode cX12_season 67 = .ok (.aload_n 0, 1) := by decide +kernel
theorem dX12_season_68 : decode cX12_season 68 = .ok (.iload 5, 2) := by decide +kernel
theorem dX12_season_70 : decode cX12_season 70 = .ok (.i2l, 1) := by decide +kernel
theorem dX12_season_71 : decode cX12_season 71 = .ok (.invokevirtual 273, 3) := by decide +kernel
theorem dX12_season_74 : decode cX12_season 74 = .ok (.ifCond .eq 6, 3) := by decide +kernel
theorem dX12_season_77 : decode cX12_season 77 = .ok (.goto 12, 3) := by decide +kernel
theorem dX12_season_80 : decode cX12_season 80 = .ok (.aload_n 0, 1) := by decide +kernel
theorem dX12_season_81 : decode cX12_season 81 = .ok (.iload 5, 2) := by decide +kernel
theorem dX12_season_83 : decode cX12_season 83 = .ok (.invokevirtual 277, 3) := by decide +kernel
theorem dX12_season_86 : decode cX12_season 86 = .ok (.iinc 3 1, 3) := by decide +kernel
theorem dX12_season_89 : decode cX12_season 89 = .ok (.iinc 4 1, 3) := by decide +kernel
theorem dX12_season_92 : decode cX12_season 92 = .ok (.goto (-37), 3) := by decide +kernel
theorem dX12_season_95 : decode cX12_season 95 = .ok (.iload_n 3, 1) := by decide +kernel
theorem dX12_season_96 : decode cX12_season 96 = .ok (.ifCond .le 7, 3) := by decide +kernel
theorem dX12_season_99 : decode cX12_season 99 = .ok (.aload_n 0, 1) := by decide +kernel
theorem dX12_season_100 : decode cX12_season 100 = .ok (.invokevirtual 270, 3) := by decide +kernel
theorem dX12_season_103 : decode cX12_season 103 = .ok (.iload_n 3, 1) := by decide +kernel
theorem dX12_season_104 : decode cX12_season 104 = .ok (.ireturn, 1) := by decide +kernel
set_option maxRecDepth 100000 in
set_option maxHeartbeats 4000000 in
theorem v_X12_season_b55 {l : Launch} {p : Program} {e : Env} {s : State} {mt : MethodId} {args : Array Value} {below : List Frame} {meth : Method} {c : Code} {A : Nat → Prop} {ad0 : Nat → Nat} {G : Gt}  (C : Cx G p s mt args meth c RX12 cX12_season 6 (some .int) "season" A)  : ∀ (n : Nat) (y2 : Int32) (y3 : Int32) (y4 : Int32) (m : Mem), V G SM oI l p e s mt args below meth c 6 7 A ad0 17 17 RM 17 RM 55 [(0, .ref 0), (2, .int y2), (3, .int y3), (4, .int y4)] [] m (X12_season_b55  n y2 y3 y4 m) := by
  intro n
  induction n with
  | zero =>
    intro y2 y3 y4 m
    rw [X12_season_b55]
    exact V.nil
  | succ n ih =>
    intro y2 y3 y4 m
    rw [X12_season_b55]
    refine V.iload (pc := 55) C dX12_season_55 3 rfl ?_
    refine V.iload_n (pc := 57) C dX12_season_57 1 rfl ?_
    refine V.icmp_ge (pc := 58) C dX12_season_58 95 (by decide) (fun _ => ?_) (fun _ => ?_)
    · refine V.iload_n (pc := 95) C dX12_season_95 2 rfl ?_
      refine V.if_le (pc := 96) C dX12_season_96 103 (by decide) (fun _ => ?_) (fun _ => ?_)
      · refine V.iload_n (pc := 103) C dX12_season_103 2 rfl ?_
        exact V.iret C dX12_season_104
      · refine V.aload_n (pc := 99) C dX12_season_99 0 rfl ?_
        refine V.callV (pc := 100) (st := []) C (c_X12_notes l  m) obV ck_X12_notes ml_RX12_270 rfl rfl sM0 kM0 rfl rfl (Nat.le_of_ble_eq_true rfl) ⟨by decide, by decide⟩ dX12_season_100 (fun r_7 m_8 _ => ?_)
        refine V.iload_n (pc := 103) C dX12_season_103 2 rfl ?_
        exact V.iret C dX12_season_104
    · refine V.aload_n (pc := 61) C dX12_season_61 0 rfl ?_
      refine V.callV (pc := 62) (st := []) C (c_X12_drawn l  m) obI ck_X12_drawn ml_RX12_313 rfl rfl sM0 kM0 rfl rfl (Nat.le_of_ble_eq_true rfl) ⟨by decide, by decide⟩ dX12_season_62 (fun r_9 m_10 _ => ?_)
      refine V.istore (pc := 65) C dX12_season_65 (L2 := [(5, .int r_9), (0, .ref 0), (2, .int y2), (3, .int y3), (4, .int y4)]) (by decide) rfl ?_
      refine V.aload_n (pc := 67) C dX12_season_67 1 rfl ?_
      refine V.iload (pc := 68) C dX12_season_68 0 rfl ?_
      refine V.i2l (pc := 70) C dX12_season_70 ?_
      refine V.callV (pc := 71) (st := []) C (c_X12_whyNot l (Int32.toInt64 r_9) m_10) obI ck_X12_whyNot ml_RX12_273 rfl rfl sM0 kM0 rfl rfl (Nat.le_of_ble_eq_true rfl) ⟨by decide, by decide⟩ dX12_season_71 (fun r_11 m_12 _ => ?_)
      refine V.if_eq (pc := 74) C dX12_season_74 80 (by decide) (fun _ => ?_) (fun _ => ?_)
      · refine V.aload_n (pc := 80) C dX12_season_80 1 rfl ?_
        refine V.iload (pc := 81) C dX12_season_81 0 rfl ?_
        refine V.callV (pc := 83) (st := []) C (c_X12_does l r_9 m_12) obV ck_X12_does ml_RX12_277 rfl rfl sM0 kM0 rfl rfl (Nat.le_of_ble_eq_true rfl) ⟨by decide, by decide⟩ dX12_season_83 (fun r_13 m_14 _ => ?_)
        refine V.iinc (pc := 86) C dX12_season_86 (v := 1) (L2 := [(3, .int (y3 + 1)), (5, .int r_9), (0, .ref 0), (2, .int y2), (4, .int y4)]) 3 rfl (by decide) (by decide) rfl ?_
        refine V.iinc (pc := 89) C dX12_season_89 (v := 1) (L2 := [(4, .int (y4 + 1)), (3, .int (y3 + 1)), (5, .int r_9), (0, .ref 0), (2, .int y2)]) 4 rfl (by decide) (by decide) rfl ?_
        refine V.goto (pc := 92) C dX12_season_92 55 (by decide) ?_
        refine V.wk [3, 4, 1, 0] rfl ?_
        exact ih y2 (y3 + 1) (y4 + 1) m_14
      · refine V.goto (pc := 77) C dX12_season_77 89 (by decide) ?_
        refine V.iinc (pc := 89) C dX12_season_89 (v := 1) (L2 := [(4, .int (y4 + 1)), (5, .int r_9), (0, .ref 0), (2, .int y2), (3, .int y3)]) 4 rfl (by decide) (by decide) rfl ?_
        refine V.goto (pc := 92) C dX12_season_92 55 (by decide) ?_
        refine V.wk [2, 3, 4, 0] rfl ?_
        exact ih y2 y3 (y4 + 1) m_12
set_option maxRecDepth 100000 in
set_option maxHeartbeats 4000000 in
theorem v_X12_season {l : Launch} {p : Program} {e : Env} {s : State} {mt : MethodId} {args : Array Value} {below : List Frame} {meth : Method} {c : Code} {A : Nat → Prop} {ad0 : Nat → Nat} {G : Gt}  (C : Cx G p s mt args meth c RX12 cX12_season 6 (some .int) "season" A)  (x1 : Int32) (x2 : Int32) (m : Mem) : V G SM oI l p e s mt args below meth c 6 7 A ad0 17 17 RM 17 RM 0 [(0, .ref 0), (1, .int x1), (2, .int x2)] [] m (X12_season  x1 x2 m) := by
  rw [X12_season]
  refine V.aload_n (pc := 0) C dX12_season_0 0 rfl ?_
  refine V.iconst (pc := 1) C dX12_season_1 (v := 0) (by decide) ?_
  refine V.puti (pc := 2) C fp_RX12_1 sM0 kM0 rfl dX12_season_2 ?_
  refine V.ltm (fun m_1 => ?_)
  refine V.iload_n (pc := 5) C dX12_season_5 2 rfl ?_
  refine V.i2l (pc := 6) C dX12_season_6 ?_
  refine V.lconst (pc := 7) C dX12_season_7 (v := 1) (by decide) ?_
  refine V.ldc2 (pc := 8) C dX12_season_8 (v := 40) cl_RX12_311 ?_
  refine V.callS (pc := 11) (st := []) C (c_X12_within l (Int32.toInt64 x2) 1 40 m_1) obI ck_X12_within ml_RX12_133 rfl rfl (Nat.le_of_ble_eq_true rfl) ⟨by decide, by decide⟩ dX12_season_11 (fun r_2 m_3 _ => ?_)
  refine V.if_ne (pc := 14) C dX12_season_14 20 (by decide) (fun _ => ?_) (fun _ => ?_)
  · refine V.aload_n (pc := 20) C dX12_season_20 0 rfl ?_
    refine V.getr (pc := 21) C fl_RX12_13 sM0 kM0 rfl rM0_1 dX12_season_21 ?_
    refine V.iconst (pc := 24) C dX12_season_24 (v := 1) (by decide) ?_
    refine V.iald (pc := 25) C sM1 kM1 dX12_season_25 (fun _ => ?_)
    refine V.if_eq (pc := 26) C dX12_season_26 38 (by decide) (fun _ => ?_) (fun _ => ?_)
    · refine V.bipush (pc := 38) C dX12_season_38 (v := (-5)) (by decide) ?_
      exact V.iret C dX12_season_40
    · refine V.aload_n (pc := 29) C dX12_season_29 0 rfl ?_
      refine V.getr (pc := 30) C fl_RX12_13 sM0 kM0 rfl rM0_1 dX12_season_30 ?_
      refine V.iconst (pc := 33) C dX12_season_33 (v := 2) (by decide) ?_
      refine V.iald (pc := 34) C sM1 kM1 dX12_season_34 (fun _ => ?_)
      refine V.if_ne (pc := 35) C dX12_season_35 41 (by decide) (fun _ => ?_) (fun _ => ?_)
      · refine V.aload_n (pc := 41) C dX12_season_41 0 rfl ?_
        refine V.callV (pc := 42) (st := []) C (c_X12_keeps l  m_3) obV ck_X12_keeps ml_RX12_267 rfl rfl sM0 kM0 rfl rfl (Nat.le_of_ble_eq_true rfl) ⟨by decide, by decide⟩ dX12_season_42 (fun r_4 m_5 _ => ?_)
        refine V.aload_n (pc := 45) C dX12_season_45 0 rfl ?_
        refine V.iload_n (pc := 46) C dX12_season_46 1 rfl ?_
        refine V.puti (pc := 47) C fp_RX12_305 sM0 kM0 rfl dX12_season_47 ?_
        refine V.ltm (fun m_6 => ?_)
        refine V.iconst (pc := 50) C dX12_season_50 (v := 0) (by decide) ?_
        refine V.istore_n (pc := 51) C dX12_season_51 (L2 := [(3, .int 0), (0, .ref 0), (1, .int x1), (2, .int x2)]) (by decide) rfl ?_
        refine V.iconst (pc := 52) C dX12_season_52 (v := 0) (by decide) ?_
        refine V.istore (pc := 53) C dX12_season_53 (L2 := [(4, .int 0), (3, .int 0), (0, .ref 0), (1, .int x1), (2, .int x2)]) (by decide) rfl ?_
        refine V.wk [2, 4, 1, 0] rfl ?_
        exact v_X12_season_b55 C  FU x2 0 0 m_6
      · refine V.bipush (pc := 38) C dX12_season_38 (v := (-5)) (by decide) ?_
        exact V.iret C dX12_season_40
  · refine V.bipush (pc := 17) C dX12_season_17 (v := (-3)) (by decide) ?_
    exact V.iret C dX12_season_19
theorem c_X12_season (l : Launch)   (x1 : Int32) (x2 : Int32) (m : Mem) : Ct l yX12_season cX12_season 6 (some .int) 7 SM oI 17 17 RM RM [.ref 0, .int x1, .int x2] m (X12_season  x1 x2 m) :=
  Ct.of (own := RX12) (nm := "season") (by decide) rfl rfl (Nat.le_of_ble_eq_true rfl) (fun _ _ _ _ _ _ _ _ _ _ _ C => v_X12_season C  x1 x2 m)
theorem dX12_sharer_0 : decode cX12_sharer 0 = .ok (.aload_n 0, 1) := by decide +kernel
theorem dX12_sharer_1 : decode cX12_sharer 1 = .ok (.iconst 0, 1) := by decide +kernel
theorem dX12_sharer_2 : decode cX12_sharer 2 = .ok (.putfield 1, 3) := by decide +kernel
theorem dX12_sharer_5 : decode cX12_sharer 5 = .ok (.aload_n 0, 1) := by decide +kernel
theorem dX12_sharer_6 : decode cX12_sharer 6 = .ok (.iload_n 1, 1) := by decide +kernel
theorem dX12_sharer_7 : decode cX12_sharer 7 = .ok (.i2l, 1) := by decide +kernel
theorem dX12_sharer_8 : decode cX12_sharer 8 = .ok (.invokevirtual 194, 3) := by decide +kernel
theorem dX12_sharer_11 : decode cX12_sharer 11 = .ok (.ifCond .ne 6, 3) := by decide +kernel
theorem dX12_sharer_14 : decode cX12_sharer 14 = .ok (.bipush (-2), 2) := by decide +kernel
theorem dX12_sharer_16 : decode cX12_sharer 16 = .ok (.ireturn, 1) := by decide +kernel
theorem dX12_sharer_17 : decode cX12_sharer 17 = .ok (.iconst (-1), 1) := by decide +kernel
theorem dX12_sharer_18 : decode cX12_sharer 18 = .ok (.istore_n 2, 1) := by decide +kernel
theorem dX12_sharer_19 : decode cX12_sharer 19 = .ok (.iconst 0, 1) := by decide +kernel
theorem dX12_sharer_20 : decode cX12_sharer 20 = .ok (.istore_n 3, 1) := by decide +kernel
theorem dX12_sharer_21 : decode cX12_sharer 21 = .ok (.iconst 0, 1) := by decide +kernel
theorem dX12_sharer_22 : decode cX12_sharer 22 = .ok (.istore 4, 2) := by decide +kernel
theorem dX12_sharer_24 : decode cX12_sharer 24 = .ok (.iload 4, 2) := by decide +kernel
theorem dX12_sharer_26 : decode cX12_sharer 26 = .ok (.aload_n 0, 1) := by decide +kernel
theorem dX12_sharer_27 : decode cX12_sharer 27 = .ok (.getfield 13, 3) := by decide +kernel
theorem dX12_sharer_30 : decode cX12_sharer 30 = .ok (.iconst 2, 1) := by decide +kernel
theorem dX12_sharer_31 : decode cX12_sharer 31 = .ok (.iaload, 1) := by decide +kernel
theorem dX12_sharer_32 : decode cX12_sharer 32 = .ok (.if_icmp .ge 51, 3) := by decide +kernel
theorem dX12_sharer_35 : decode cX12_sharer 35 = .ok (.iload 4, 2) := by decide +kernel
theorem dX12_sharer_37 : decode cX12_sharer 37 = .ok (.iload_n 1, 1) := by decide +kernel
theorem dX12_sharer_38 : decode cX12_sharer 38 = .ok (.if_icmp .ne 6, 3) := by decide +kernel
theorem dX12_sharer_41 : decode cX12_sharer 41 = .ok (.goto 36, 3) := by decide +kernel
theorem dX12_sharer_44 : decode cX12_sharer 44 = .ok (.aload_n 0, 1) := by decide +kernel
theorem dX12_sharer_45 : decode cX12_sharer 45 = .ok (.aload_n 0, 1) := by decide +kernel
theorem dX12_sharer_46 : decode cX12_sharer 46 = .ok (.iload_n 1, 1) := by decide +kernel
theorem dX12_sharer_47 : decode cX12_sharer 47 = .ok (.invokevirtual 207, 3) := by decide +kernel
theorem dX12_sharer_50 : decode cX12_sharer 50 = .ok (.aload_n 0, 1) := by decide +kernel
theorem dX12_sharer_51 : decode cX12_sharer 51 = .ok (.iload 4, 2) := by decide +kernel
theorem dX12_sharer_53 : decode cX12_sharer 53 = .ok (.invokevirtual 207, 3) := by decide +kernel
theorem dX12_sharer_56 : decode cX12_sharer 56 = .ok (.iand, 1) := by decide +kernel
theorem dX12_sharer_57 : decode cX12_sharer 57 = .ok (.invokevirtual 216, 3) := by decide +kernel
theorem dX12_sharer_60 : decode cX12_sharer 60 = .ok (.istore 5, 2) := by decide +kernel
theorem dX12_sharer_62 : decode cX12_sharer 62 = .ok (.iload 5, 2) := by decide +kernel
theorem dX12_sharer_64 : decode cX12_sharer 64 = .ok (.iload_n 3, 1) := by decide +kernel
theorem dX12_sharer_65 : decode cX12_sharer 65 = .ok (.if_icmp .gt 6, 3) := by decide +kernel
theorem dX12_sharer_68 : decode cX12_sharer 68 = .ok (.goto 9, 3) := by decide +kernel
theorem dX12_sharer_71 : decode cX12_sharer 71 = .ok (.iload 4, 2) := by decide +kernel
theorem dX12_sharer_73 : decode cX12_sharer 73 = .ok (.istore_n 2, 1) := by decide +kernel
theorem dX12_sharer_74 : decode cX12_sharer 74 = .ok (.iload 5, 2) := by decide +kernel
theorem dX12_sharer_76 : decode cX12_sharer 76 = .ok (.istore_n 3, 1) := by decide +kernel
theorem dX12_sharer_77 : decode cX12_sharer 77 = .ok (.iinc 4 1, 3) := by decide +kernel
theorem dX12_sharer_80 : decode cX12_sharer 80 = .ok (.goto (-56), 3) := by decide +kernel
theorem dX12_sharer_83 : decode cX12_sharer 83 = .ok (.iload_n 2, 1) := by decide +kernel
theorem dX12_sharer_84 : decode cX12_sharer 84 = .ok (.ireturn, 1) := by decide +kernel
set_option maxRecDepth 100000 in
set_option maxHeartbeats 4000000 in
theorem v_X12_sharer_b24 {l : Launch} {p : Program} {e : Env} {s : State} {mt : MethodId} {args : Array Value} {below : List Frame} {meth : Method} {c : Code} {A : Nat → Prop} {ad0 : Nat → Nat} {G : Gt}  (C : Cx G p s mt args meth c RX12 cX12_sharer 6 (some .int) "sharer" A)  : ∀ (n : Nat) (y1 : Int32) (y2 : Int32) (y3 : Int32) (y4 : Int32) (m : Mem), V G SM oI l p e s mt args below meth c 6 4 A ad0 17 17 RM 17 RM 24 [(0, .ref 0), (1, .int y1), (2, .int y2), (3, .int y3), (4, .int y4)] [] m (X12_sharer_b24  n y1 y2 y3 y4 m) := by
  intro n
  induction n with
  | zero =>
    intro y1 y2 y3 y4 m
    rw [X12_sharer_b24]
    exact V.nil
  | succ n ih =>
    intro y1 y2 y3 y4 m
    rw [X12_sharer_b24]
    refine V.iload (pc := 24) C dX12_sharer_24 4 rfl ?_
    refine V.aload_n (pc := 26) C dX12_sharer_26 0 rfl ?_
    refine V.getr (pc := 27) C fl_RX12_13 sM0 kM0 rfl rM0_1 dX12_sharer_27 ?_
    refine V.iconst (pc := 30) C dX12_sharer_30 (v := 2) (by decide) ?_
    refine V.iald (pc := 31) C sM1 kM1 dX12_sharer_31 (fun _ => ?_)
    refine V.icmp_ge (pc := 32) C dX12_sharer_32 83 (by decide) (fun _ => ?_) (fun _ => ?_)
    · refine V.iload_n (pc := 83) C dX12_sharer_83 2 rfl ?_
      exact V.iret C dX12_sharer_84
    · refine V.iload (pc := 35) C dX12_sharer_35 4 rfl ?_
      refine V.iload_n (pc := 37) C dX12_sharer_37 1 rfl ?_
      refine V.icmp_ne (pc := 38) C dX12_sharer_38 44 (by decide) (fun _ => ?_) (fun _ => ?_)
      · refine V.aload_n (pc := 44) C dX12_sharer_44 0 rfl ?_
        refine V.aload_n (pc := 45) C dX12_sharer_45 0 rfl ?_
        refine V.iload_n (pc := 46) C dX12_sharer_46 1 rfl ?_
        refine V.callV (pc := 47) (st := [.ref 0]) C (c_X12_listOf l y1 m) obI ck_X12_listOf ml_RX12_207 rfl rfl sM0 kM0 rfl rfl (Nat.le_of_ble_eq_true rfl) ⟨by decide, by decide⟩ dX12_sharer_47 (fun r_4 m_5 _ => ?_)
        refine V.aload_n (pc := 50) C dX12_sharer_50 0 rfl ?_
        refine V.iload (pc := 51) C dX12_sharer_51 4 rfl ?_
        refine V.callV (pc := 53) (st := [.int r_4, .ref 0]) C (c_X12_listOf l y4 m_5) obI ck_X12_listOf ml_RX12_207 rfl rfl sM0 kM0 rfl rfl (Nat.le_of_ble_eq_true rfl) ⟨by decide, by decide⟩ dX12_sharer_53 (fun r_6 m_7 _ => ?_)
        refine V.iand (pc := 56) C dX12_sharer_56 ?_
        refine V.callV (pc := 57) (st := []) C (c_X12_rareOfAll l (r_4 &&& r_6) m_7) obI ck_X12_rareOfAll ml_RX12_216 rfl rfl sM0 kM0 rfl rfl (Nat.le_of_ble_eq_true rfl) ⟨by decide, by decide⟩ dX12_sharer_57 (fun r_8 m_9 _ => ?_)
        refine V.istore (pc := 60) C dX12_sharer_60 (L2 := [(5, .int r_8), (0, .ref 0), (1, .int y1), (2, .int y2), (3, .int y3), (4, .int y4)]) (by decide) rfl ?_
        refine V.iload (pc := 62) C dX12_sharer_62 0 rfl ?_
        refine V.iload_n (pc := 64) C dX12_sharer_64 4 rfl ?_
        refine V.icmp_gt (pc := 65) C dX12_sharer_65 71 (by decide) (fun _ => ?_) (fun _ => ?_)
        · refine V.iload (pc := 71) C dX12_sharer_71 5 rfl ?_
          refine V.istore_n (pc := 73) C dX12_sharer_73 (L2 := [(2, .int y4), (5, .int r_8), (0, .ref 0), (1, .int y1), (3, .int y3), (4, .int y4)]) (by decide) rfl ?_
          refine V.iload (pc := 74) C dX12_sharer_74 1 rfl ?_
          refine V.istore_n (pc := 76) C dX12_sharer_76 (L2 := [(3, .int r_8), (2, .int y4), (5, .int r_8), (0, .ref 0), (1, .int y1), (4, .int y4)]) (by decide) rfl ?_
          refine V.iinc (pc := 77) C dX12_sharer_77 (v := 1) (L2 := [(4, .int (y4 + 1)), (3, .int r_8), (2, .int y4), (5, .int r_8), (0, .ref 0), (1, .int y1)]) 5 rfl (by decide) (by decide) rfl ?_
          refine V.goto (pc := 80) C dX12_sharer_80 24 (by decide) ?_
          refine V.wk [4, 5, 2, 1, 0] rfl ?_
          exact ih y1 y4 r_8 (y4 + 1) m_9
        · refine V.goto (pc := 68) C dX12_sharer_68 77 (by decide) ?_
          refine V.iinc (pc := 77) C dX12_sharer_77 (v := 1) (L2 := [(4, .int (y4 + 1)), (5, .int r_8), (0, .ref 0), (1, .int y1), (2, .int y2), (3, .int y3)]) 5 rfl (by decide) (by decide) rfl ?_
          refine V.goto (pc := 80) C dX12_sharer_80 24 (by decide) ?_
          refine V.wk [2, 3, 4, 5, 0] rfl ?_
          exact ih y1 y2 y3 (y4 + 1) m_9
      · refine V.goto (pc := 41) C dX12_sharer_41 77 (by decide) ?_
        refine V.iinc (pc := 77) C dX12_sharer_77 (v := 1) (L2 := [(4, .int (y4 + 1)), (0, .ref 0), (1, .int y1), (2, .int y2), (3, .int y3)]) 4 rfl (by decide) (by decide) rfl ?_
        refine V.goto (pc := 80) C dX12_sharer_80 24 (by decide) ?_
        refine V.wk [1, 2, 3, 4, 0] rfl ?_
        exact ih y1 y2 y3 (y4 + 1) m
set_option maxRecDepth 100000 in
set_option maxHeartbeats 4000000 in
theorem v_X12_sharer {l : Launch} {p : Program} {e : Env} {s : State} {mt : MethodId} {args : Array Value} {below : List Frame} {meth : Method} {c : Code} {A : Nat → Prop} {ad0 : Nat → Nat} {G : Gt}  (C : Cx G p s mt args meth c RX12 cX12_sharer 6 (some .int) "sharer" A)  (x1 : Int32) (m : Mem) : V G SM oI l p e s mt args below meth c 6 4 A ad0 17 17 RM 17 RM 0 [(0, .ref 0), (1, .int x1)] [] m (X12_sharer  x1 m) := by
  rw [X12_sharer]
  refine V.aload_n (pc := 0) C dX12_sharer_0 0 rfl ?_
  refine V.iconst (pc := 1) C dX12_sharer_1 (v := 0) (by decide) ?_
  refine V.puti (pc := 2) C fp_RX12_1 sM0 kM0 rfl dX12_sharer_2 ?_
  refine V.ltm (fun m_1 => ?_)
  refine V.aload_n (pc := 5) C dX12_sharer_5 0 rfl ?_
  refine V.iload_n (pc := 6) C dX12_sharer_6 1 rfl ?_
  refine V.i2l (pc := 7) C dX12_sharer_7 ?_
  refine V.callV (pc := 8) (st := []) C (c_X12_isPerson l (Int32.toInt64 x1) m_1) obI ck_X12_isPerson ml_RX12_194 rfl rfl sM0 kM0 rfl rfl (Nat.le_of_ble_eq_true rfl) ⟨by decide, by decide⟩ dX12_sharer_8 (fun r_2 m_3 _ => ?_)
  refine V.if_ne (pc := 11) C dX12_sharer_11 17 (by decide) (fun _ => ?_) (fun _ => ?_)
  · refine V.iconst (pc := 17) C dX12_sharer_17 (v := (-1)) (by decide) ?_
    refine V.istore_n (pc := 18) C dX12_sharer_18 (L2 := [(2, .int (-1)), (0, .ref 0), (1, .int x1)]) (by decide) rfl ?_
    refine V.iconst (pc := 19) C dX12_sharer_19 (v := 0) (by decide) ?_
    refine V.istore_n (pc := 20) C dX12_sharer_20 (L2 := [(3, .int 0), (2, .int (-1)), (0, .ref 0), (1, .int x1)]) (by decide) rfl ?_
    refine V.iconst (pc := 21) C dX12_sharer_21 (v := 0) (by decide) ?_
    refine V.istore (pc := 22) C dX12_sharer_22 (L2 := [(4, .int 0), (3, .int 0), (2, .int (-1)), (0, .ref 0), (1, .int x1)]) (by decide) rfl ?_
    refine V.wk [3, 4, 2, 1, 0] rfl ?_
    exact v_X12_sharer_b24 C  FU x1 (-1) 0 0 m_3
  · refine V.bipush (pc := 14) C dX12_sharer_14 (v := (-2)) (by decide) ?_
    exact V.iret C dX12_sharer_16
theorem c_X12_sharer (l : Launch)   (x1 : Int32) (m : Mem) : Ct l yX12_sharer cX12_sharer 6 (some .int) 4 SM oI 17 17 RM RM [.ref 0, .int x1] m (X12_sharer  x1 m) :=
  Ct.of (own := RX12) (nm := "sharer") (by decide) rfl rfl (Nat.le_of_ble_eq_true rfl) (fun _ _ _ _ _ _ _ _ _ _ _ C => v_X12_sharer C  x1 m)
theorem dX12_since_0 : decode cX12_since 0 = .ok (.aload_n 0, 1) := by decide +kernel
theorem dX12_since_1 : decode cX12_since 1 = .ok (.iconst 0, 1) := by decide +kernel
theorem dX12_since_2 : decode cX12_since 2 = .ok (.putfield 1, 3) := by decide +kernel
theorem dX12_since_5 : decode cX12_since 5 = .ok (.aload_n 0, 1) := by decide +kernel
theorem dX12_since_6 : decode cX12_since 6 = .ok (.iload_n 1, 1) := by decide +kernel
theorem dX12_since_7 : decode cX12_since 7 = .ok (.i2l, 1) := by decide +kernel
theorem dX12_since_8 : decode cX12_since 8 = .ok (.invokevirtual 194, 3) := by decide +kernel
theorem dX12_since_11 : decode cX12_since 11 = .ok (.ifCond .eq 29, 3) := by decide +kernel
theorem dX12_since_14 : decode cX12_since 14 = .ok (.aload_n 0, 1) := by decide +kernel
theorem dX12_since_15 : decode cX12_since 15 = .ok (.iload_n 2, 1) := by decide +kernel
theorem dX12_since_16 : decode cX12_since 16 = .ok (.i2l, 1) := by decide +kernel
theorem dX12_since_17 : decode cX12_since 17 = .ok (.invokevirtual 210, 3) := by decide +kernel
theorem dX12_since_20 : decode cX12_since 20 = .ok (.ifCond .eq 20, 3) := by decide +kernel
theorem dX12_since_23 : decode cX12_since 23 = .ok (.aload_n 0, 1) := by decide +kernel
theorem dX12_since_24 : decode cX12_since 24 = .ok (.getfield 13, 3) := by decide +kernel
theorem dX12_since_27 : decode cX12_since 27 = .ok (.bipush 41, 2) := by decide +kernel
theorem dX12_since_29 : decode cX12_since 29 = .ok (.bipush 14, 2) := by decide +kernel
theorem dX12_since_31 : decode cX12_since 31 = .ok (.iload_n 1, 1) := by decide +kernel
theorem dX12_since_32 : decode cX12_since 32 = .ok (.imul, 1) := by decide +kernel
theorem dX12_since_33 : decode cX12_since 33 = .ok (.iadd, 1) := by decide +kernel
theorem dX12_since_34 : decode cX12_since 34 = .ok (.iload_n 2, 1) := by decide +kernel
theorem dX12_since_35 : decode cX12_since 35 = .ok (.iadd, 1) := by decide +kernel
theorem dX12_since_36 : decode cX12_since 36 = .ok (.iaload, 1) := by decide +kernel
theorem dX12_since_37 : decode cX12_since 37 = .ok (.goto 5, 3) := by decide +kernel
theorem dX12_since_40 : decode cX12_since 40 = .ok (.bipush (-2), 2) := by decide +kernel
theorem dX12_since_42 : decode cX12_since 42 = .ok (.ireturn, 1) := by decide +kernel
set_option maxRecDepth 100000 in
set_option maxHeartbeats 4000000 in
theorem v_X12_since {l : Launch} {p : Program} {e : Env} {s : State} {mt : MethodId} {args : Array Value} {below : List Frame} {meth : Method} {c : Code} {A : Nat → Prop} {ad0 : Nat → Nat} {G : Gt}  (C : Cx G p s mt args meth c RX12 cX12_since 3 (some .int) "since" A)  (x1 : Int32) (x2 : Int32) (m : Mem) : V G SM oI l p e s mt args below meth c 3 3 A ad0 17 17 RM 17 RM 0 [(0, .ref 0), (1, .int x1), (2, .int x2)] [] m (X12_since  x1 x2 m) := by
  rw [X12_since]
  refine V.aload_n (pc := 0) C dX12_since_0 0 rfl ?_
  refine V.iconst (pc := 1) C dX12_since_1 (v := 0) (by decide) ?_
  refine V.puti (pc := 2) C fp_RX12_1 sM0 kM0 rfl dX12_since_2 ?_
  refine V.ltm (fun m_1 => ?_)
  refine V.aload_n (pc := 5) C dX12_since_5 0 rfl ?_
  refine V.iload_n (pc := 6) C dX12_since_6 1 rfl ?_
  refine V.i2l (pc := 7) C dX12_since_7 ?_
  refine V.callV (pc := 8) (st := []) C (c_X12_isPerson l (Int32.toInt64 x1) m_1) obI ck_X12_isPerson ml_RX12_194 rfl rfl sM0 kM0 rfl rfl (Nat.le_of_ble_eq_true rfl) ⟨by decide, by decide⟩ dX12_since_8 (fun r_2 m_3 _ => ?_)
  refine V.if_eq (pc := 11) C dX12_since_11 40 (by decide) (fun _ => ?_) (fun _ => ?_)
  · refine V.bipush (pc := 40) C dX12_since_40 (v := (-2)) (by decide) ?_
    exact V.iret C dX12_since_42
  · refine V.aload_n (pc := 14) C dX12_since_14 0 rfl ?_
    refine V.iload_n (pc := 15) C dX12_since_15 2 rfl ?_
    refine V.i2l (pc := 16) C dX12_since_16 ?_
    refine V.callV (pc := 17) (st := []) C (c_X12_isThing l (Int32.toInt64 x2) m_3) obI ck_X12_isThing ml_RX12_210 rfl rfl sM0 kM0 rfl rfl (Nat.le_of_ble_eq_true rfl) ⟨by decide, by decide⟩ dX12_since_17 (fun r_4 m_5 _ => ?_)
    refine V.if_eq (pc := 20) C dX12_since_20 40 (by decide) (fun _ => ?_) (fun _ => ?_)
    · refine V.bipush (pc := 40) C dX12_since_40 (v := (-2)) (by decide) ?_
      exact V.iret C dX12_since_42
    · refine V.aload_n (pc := 23) C dX12_since_23 0 rfl ?_
      refine V.getr (pc := 24) C fl_RX12_13 sM0 kM0 rfl rM0_1 dX12_since_24 ?_
      refine V.bipush (pc := 27) C dX12_since_27 (v := 41) (by decide) ?_
      refine V.bipush (pc := 29) C dX12_since_29 (v := 14) (by decide) ?_
      refine V.iload_n (pc := 31) C dX12_since_31 1 rfl ?_
      refine V.imul (pc := 32) C dX12_since_32 ?_
      refine V.iadd (pc := 33) C dX12_since_33 ?_
      refine V.iload_n (pc := 34) C dX12_since_34 2 rfl ?_
      refine V.iadd (pc := 35) C dX12_since_35 ?_
      refine V.iald (pc := 36) C sM1 kM1 dX12_since_36 (fun _ => ?_)
      refine V.goto (pc := 37) C dX12_since_37 42 (by decide) ?_
      exact V.iret C dX12_since_42
theorem c_X12_since (l : Launch)   (x1 : Int32) (x2 : Int32) (m : Mem) : Ct l yX12_since cX12_since 3 (some .int) 3 SM oI 17 17 RM RM [.ref 0, .int x1, .int x2] m (X12_since  x1 x2 m) :=
  Ct.of (own := RX12) (nm := "since") (by decide) rfl rfl (Nat.le_of_ble_eq_true rfl) (fun _ _ _ _ _ _ _ _ _ _ _ C => v_X12_since C  x1 x2 m)
