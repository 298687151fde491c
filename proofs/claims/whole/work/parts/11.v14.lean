theorem dX12_bitsOf_0 : decode cX12_bitsOf 0 = .ok (.iconst 0, 1) := by decide +kernel
theorem dX12_bitsOf_1 : decode cX12_bitsOf 1 = .ok (.istore_n 1, 1) := by decide +kernel
theorem dX12_bitsOf_2 : decode cX12_bitsOf 2 = .ok (.iconst 0, 1) := by decide +kernel
theorem dX12_bitsOf_3 : decode cX12_bitsOf 3 = .ok (.istore_n 2, 1) := by decide +kernel
theorem dX12_bitsOf_4 : decode cX12_bitsOf 4 = .ok (.iload_n 2, 1) := by decide +kernel
theorem dX12_bitsOf_5 : decode cX12_bitsOf 5 = .ok (.bipush 14, 2) := by decide +kernel
theorem dX12_bitsOf_7 : decode cX12_bitsOf 7 = .ok (.if_icmp .ge 17, 3) := by decide +kernel
theorem dX12_bitsOf_10 : decode cX12_bitsOf 10 = .ok (.iload_n 1, 1) := by decide +kernel
theorem dX12_bitsOf_11 : decode cX12_bitsOf 11 = .ok (.iload_n 0, 1) := by decide +kernel
theorem dX12_bitsOf_12 : decode cX12_bitsOf 12 = .ok (.iload_n 2, 1) := by decide +kernel
theorem dX12_bitsOf_13 : decode cX12_bitsOf 13 = .ok (.ishr, 1) := by decide +kernel
theorem dX12_bitsOf_14 : decode cX12_bitsOf 14 = .ok (.iconst 1, 1) := by decide +kernel
theorem dX12_bitsOf_15 : decode cX12_bitsOf 15 = .ok (.iand, 1) := by decide +kernel
theorem dX12_bitsOf_16 : decode cX12_bitsOf 16 = .ok (.iadd, 1) := by decide +kernel
theorem dX12_bitsOf_17 : decode cX12_bitsOf 17 = .ok (.istore_n 1, 1) := by decide +kernel
theorem dX12_bitsOf_18 : decode cX12_bitsOf 18 = .ok (.iinc 2 1, 3) := by decide +kernel
theorem dX12_bitsOf_21 : decode cX12_bitsOf 21 = .ok (.goto (-17), 3) := by decide +kernel
theorem dX12_bitsOf_24 : decode cX12_bitsOf 24 = .ok (.iload_n 1, 1) := by decide +kernel
theorem dX12_bitsOf_25 : decode cX12_bitsOf 25 = .ok (.ireturn, 1) := by decide +kernel
set_option maxRecDepth 100000 in
set_option maxHeartbeats 4000000 in
theorem v_X12_bitsOf_b4 {l : Launch} {p : Program} {e : Env} {s : State} {mt : MethodId} {args : Array Value} {below : List Frame} {meth : Method} {c : Code} {A : Nat → Prop} {ad0 : Nat → Nat} {G : Gt}  (C : Cx G p s mt args meth c RX12 cX12_bitsOf 3 (some .int) "bitsOf" A)  : ∀ (n : Nat) (y0 : Int32) (y1 : Int32) (y2 : Int32) (m : Mem), V G SM oI l p e s mt args below meth c 3 1 A ad0 17 17 RM 17 RM 4 [(0, .int y0), (1, .int y1), (2, .int y2)] [] m (X12_bitsOf_b4  n y0 y1 y2 m) := by
  intro n
  induction n with
  | zero =>
    intro y0 y1 y2 m
    rw [X12_bitsOf_b4]
    exact V.nil
  | succ n ih =>
    intro y0 y1 y2 m
    rw [X12_bitsOf_b4]
    refine V.iload_n (pc := 4) C dX12_bitsOf_4 2 rfl ?_
    refine V.bipush (pc := 5) C dX12_bitsOf_5 (v := 14) (by decide) ?_
    refine V.icmp_ge (pc := 7) C dX12_bitsOf_7 24 (by decide) (fun _ => ?_) (fun _ => ?_)
    · refine V.iload_n (pc := 24) C dX12_bitsOf_24 1 rfl ?_
      exact V.iret C dX12_bitsOf_25
    · refine V.iload_n (pc := 10) C dX12_bitsOf_10 1 rfl ?_
      refine V.iload_n (pc := 11) C dX12_bitsOf_11 0 rfl ?_
      refine V.iload_n (pc := 12) C dX12_bitsOf_12 2 rfl ?_
      refine V.ishr (pc := 13) C dX12_bitsOf_13 ?_
      refine V.iconst (pc := 14) C dX12_bitsOf_14 (v := 1) (by decide) ?_
      refine V.iand (pc := 15) C dX12_bitsOf_15 ?_
      refine V.iadd (pc := 16) C dX12_bitsOf_16 ?_
      refine V.lti (fun x_1 _ => ?_)
      refine V.istore_n (pc := 17) C dX12_bitsOf_17 (L2 := [(1, .int x_1), (0, .int y0), (2, .int y2)]) (by decide) rfl ?_
      refine V.iinc (pc := 18) C dX12_bitsOf_18 (v := 1) (L2 := [(2, .int (y2 + 1)), (1, .int x_1), (0, .int y0)]) 2 rfl (by decide) (by decide) rfl ?_
      refine V.goto (pc := 21) C dX12_bitsOf_21 4 (by decide) ?_
      refine V.wk [2, 1, 0] rfl ?_
      exact ih y0 x_1 (y2 + 1) m
set_option maxRecDepth 100000 in
set_option maxHeartbeats 4000000 in
theorem v_X12_bitsOf {l : Launch} {p : Program} {e : Env} {s : State} {mt : MethodId} {args : Array Value} {below : List Frame} {meth : Method} {c : Code} {A : Nat → Prop} {ad0 : Nat → Nat} {G : Gt}  (C : Cx G p s mt args meth c RX12 cX12_bitsOf 3 (some .int) "bitsOf" A)  (x1 : Int32) (m : Mem) : V G SM oI l p e s mt args below meth c 3 1 A ad0 17 17 RM 17 RM 0 [(0, .int x1)] [] m (X12_bitsOf  x1 m) := by
  rw [X12_bitsOf]
  refine V.iconst (pc := 0) C dX12_bitsOf_0 (v := 0) (by decide) ?_
  refine V.istore_n (pc := 1) C dX12_bitsOf_1 (L2 := [(1, .int 0), (0, .int x1)]) (by decide) rfl ?_
  refine V.iconst (pc := 2) C dX12_bitsOf_2 (v := 0) (by decide) ?_
  refine V.istore_n (pc := 3) C dX12_bitsOf_3 (L2 := [(2, .int 0), (1, .int 0), (0, .int x1)]) (by decide) rfl ?_
  refine V.wk [2, 1, 0] rfl ?_
  exact v_X12_bitsOf_b4 C  FU x1 0 0 m
theorem c_X12_bitsOf (l : Launch)   (x1 : Int32) (m : Mem) : Ct l yX12_bitsOf cX12_bitsOf 3 (some .int) 1 SM oI 17 17 RM RM [.int x1] m (X12_bitsOf  x1 m) :=
  Ct.of (own := RX12) (nm := "bitsOf") (by decide) rfl rfl (Nat.le_of_ble_eq_true rfl) (fun _ _ _ _ _ _ _ _ _ _ _ C => v_X12_bitsOf C  x1 m)
theorem dX12_sharedBy_0 : decode cX12_sharedBy 0 = .ok (.iconst 1, 1) := by decide +kernel
theorem dX12_sharedBy_1 : decode cX12_sharedBy 1 = .ok (.aload_n 0, 1) := by decide +kernel
theorem dX12_sharedBy_2 : decode cX12_sharedBy 2 = .ok (.getfield 13, 3) := by decide +kernel
theorem dX12_sharedBy_5 : decode cX12_sharedBy 5 = .ok (.iconst 1, 1) := by decide +kernel
theorem dX12_sharedBy_6 : decode cX12_sharedBy 6 = .ok (.iaload, 1) := by decide +kernel
theorem dX12_sharedBy_7 : decode cX12_sharedBy 7 = .ok (.ishl, 1) := by decide +kernel
theorem dX12_sharedBy_8 : decode cX12_sharedBy 8 = .ok (.iconst 1, 1) := by decide +kernel
theorem dX12_sharedBy_9 : decode cX12_sharedBy 9 = .ok (.isub, 1) := by decide +kernel
theorem dX12_sharedBy_10 : decode cX12_sharedBy 10 = .ok (.istore_n 2, 1) := by decide +kernel
theorem dX12_sharedBy_11 : decode cX12_sharedBy 11 = .ok (.iconst 0, 1) := by decide +kernel
theorem dX12_sharedBy_12 : decode cX12_sharedBy 12 = .ok (.istore_n 3, 1) := by decide +kernel
theorem dX12_sharedBy_13 : decode cX12_sharedBy 13 = .ok (.iload_n 3, 1) := by decide +kernel
theorem dX12_sharedBy_14 : decode cX12_sharedBy 14 = .ok (.aload_n 0, 1) := by decide +kernel
theorem dX12_sharedBy_15 : decode cX12_sharedBy 15 = .ok (.getfield 13, 3) := by decide +kernel
theorem dX12_sharedBy_18 : decode cX12_sharedBy 18 = .ok (.iconst 2, 1) := by decide +kernel
theorem dX12_sharedBy_19 : decode cX12_sharedBy 19 = .ok (.iaload, 1) := by decide +kernel
theorem dX12_sharedBy_20 : decode cX12_sharedBy 20 = .ok (.if_icmp .ge 30, 3) := by decide +kernel
theorem dX12_sharedBy_23 : decode cX12_sharedBy 23 = .ok (.iload_n 2, 1) := by decide +kernel
theorem dX12_sharedBy_24 : decode cX12_sharedBy 24 = .ok (.iload_n 1, 1) := by decide +kernel
theorem dX12_sharedBy_25 : decode cX12_sharedBy 25 = .ok (.i2l, 1) := by decide +kernel
theorem dX12_sharedBy_26 : decode cX12_sharedBy 26 = .ok (.iload_n 3, 1) := by decide +kernel
theorem dX12_sharedBy_27 : decode cX12_sharedBy 27 = .ok (.invokestatic 175, 3) := by decide +kernel
theorem dX12_sharedBy_30 : decode cX12_sharedBy 30 = .ok (.ifCond .eq 11, 3) := by decide +kernel
theorem dX12_sharedBy_33 : decode cX12_sharedBy 33 = .ok (.aload_n 0, 1) := by decide +kernel
theorem dX12_sharedBy_34 : decode cX12_sharedBy 34 = .ok (.iload_n 3, 1) := by decide +kernel
theorem dX12_sharedBy_35 : decode cX12_sharedBy 35 = .ok (.invokevirtual 207, 3) := by decide +kernel
theorem dX12_sharedBy_38 : decode cX12_sharedBy 38 = .ok (.goto 4, 3) := by decide +kernel
theorem dX12_sharedBy_41 : decode cX12_sharedBy 41 = .ok (.iconst (-1), 1) := by decide +kernel
theorem dX12_sharedBy_42 : decode cX12_sharedBy 42 = .ok (.iand, 1) := by decide +kernel
theorem dX12_sharedBy_43 : decode cX12_sharedBy 43 = .ok (.istore_n 2, 1) := by decide +kernel
theorem dX12_sharedBy_44 : decode cX12_sharedBy 44 = .ok (.iinc 3 1, 3) := by decide +kernel
theorem dX12_sharedBy_47 : decode cX12_sharedBy 47 = .ok (.goto (-34), 3) := by decide +kernel
theorem dX12_sharedBy_50 : decode cX12_sharedBy 50 = .ok (.iload_n 2, 1) := by decide +kernel
theorem dX12_sharedBy_51 : decode cX12_sharedBy 51 = .ok (.invokestatic 201, 3) := by decide +kernel
theorem dX12_sharedBy_54 : decode cX12_sharedBy 54 = .ok (.ireturn, 1) := by decide +kernel
set_option maxRecDepth 100000 in
set_option maxHeartbeats 4000000 in
theorem v_X12_sharedBy_b13 {l : Launch} {p : Program} {e : Env} {s : State} {mt : MethodId} {args : Array Value} {below : List Frame} {meth : Method} {c : Code} {A : Nat → Prop} {ad0 : Nat → Nat} {G : Gt}  (C : Cx G p s mt args meth c RX12 cX12_sharedBy 4 (some .int) "sharedBy" A)  : ∀ (n : Nat) (y1 : Int32) (y2 : Int32) (y3 : Int32) (m : Mem), V G SM oI l p e s mt args below meth c 4 2 A ad0 17 17 RM 17 RM 13 [(0, .ref 0), (1, .int y1), (2, .int y2), (3, .int y3)] [] m (X12_sharedBy_b13  n y1 y2 y3 m) := by
  intro n
  induction n with
  | zero =>
    intro y1 y2 y3 m
    rw [X12_sharedBy_b13]
    exact V.nil
  | succ n ih =>
    intro y1 y2 y3 m
    rw [X12_sharedBy_b13]
    refine V.iload_n (pc := 13) C dX12_sharedBy_13 3 rfl ?_
    refine V.aload_n (pc := 14) C dX12_sharedBy_14 0 rfl ?_
    refine V.getr (pc := 15) C fl_RX12_13 sM0 kM0 rfl rM0_1 dX12_sharedBy_15 ?_
    refine V.iconst (pc := 18) C dX12_sharedBy_18 (v := 2) (by decide) ?_
    refine V.iald (pc := 19) C sM1 kM1 dX12_sharedBy_19 (fun _ => ?_)
    refine V.icmp_ge (pc := 20) C dX12_sharedBy_20 50 (by decide) (fun _ => ?_) (fun _ => ?_)
    · refine V.iload_n (pc := 50) C dX12_sharedBy_50 2 rfl ?_
      refine V.callS (pc := 51) (st := []) C (c_X12_bitsOf l y2 m) obI ck_X12_bitsOf ml_RX12_201 rfl rfl (Nat.le_of_ble_eq_true rfl) ⟨by decide, by decide⟩ dX12_sharedBy_51 (fun r_2 m_3 _ => ?_)
      exact V.iret C dX12_sharedBy_54
    · refine V.iload_n (pc := 23) C dX12_sharedBy_23 2 rfl ?_
      refine V.iload_n (pc := 24) C dX12_sharedBy_24 1 rfl ?_
      refine V.i2l (pc := 25) C dX12_sharedBy_25 ?_
      refine V.iload_n (pc := 26) C dX12_sharedBy_26 3 rfl ?_
      refine V.callS (pc := 27) (st := [.int y2]) C (c_X12_isIn l (Int32.toInt64 y1) y3 m) obI ck_X12_isIn ml_RX12_175 rfl rfl (Nat.le_of_ble_eq_true rfl) ⟨by decide, by decide⟩ dX12_sharedBy_27 (fun r_4 m_5 _ => ?_)
      refine V.if_eq (pc := 30) C dX12_sharedBy_30 41 (by decide) (fun _ => ?_) (fun _ => ?_)
      · refine V.iconst (pc := 41) C dX12_sharedBy_41 (v := (-1)) (by decide) ?_
        refine V.iand (pc := 42) C dX12_sharedBy_42 ?_
        refine V.lti (fun x_6 _ => ?_)
        refine V.istore_n (pc := 43) C dX12_sharedBy_43 (L2 := [(2, .int x_6), (0, .ref 0), (1, .int y1), (3, .int y3)]) (by decide) rfl ?_
        refine V.iinc (pc := 44) C dX12_sharedBy_44 (v := 1) (L2 := [(3, .int (y3 + 1)), (2, .int x_6), (0, .ref 0), (1, .int y1)]) 3 rfl (by decide) (by decide) rfl ?_
        refine V.goto (pc := 47) C dX12_sharedBy_47 13 (by decide) ?_
        refine V.wk [2, 3, 1, 0] rfl ?_
        exact ih y1 x_6 (y3 + 1) m_5
      · refine V.aload_n (pc := 33) C dX12_sharedBy_33 0 rfl ?_
        refine V.iload_n (pc := 34) C dX12_sharedBy_34 3 rfl ?_
        refine V.callV (pc := 35) (st := [.int y2]) C (c_X12_listOf l y3 m_5) obI ck_X12_listOf ml_RX12_207 rfl rfl sM0 kM0 rfl rfl (Nat.le_of_ble_eq_true rfl) ⟨by decide, by decide⟩ dX12_sharedBy_35 (fun r_7 m_8 _ => ?_)
        refine V.goto (pc := 38) C dX12_sharedBy_38 42 (by decide) ?_
        refine V.iand (pc := 42) C dX12_sharedBy_42 ?_
        refine V.lti (fun x_9 _ => ?_)
        refine V.istore_n (pc := 43) C dX12_sharedBy_43 (L2 := [(2, .int x_9), (0, .ref 0), (1, .int y1), (3, .int y3)]) (by decide) rfl ?_
        refine V.iinc (pc := 44) C dX12_sharedBy_44 (v := 1) (L2 := [(3, .int (y3 + 1)), (2, .int x_9), (0, .ref 0), (1, .int y1)]) 3 rfl (by decide) (by decide) rfl ?_
        refine V.goto (pc := 47) C dX12_sharedBy_47 13 (by decide) ?_
        refine V.wk [2, 3, 1, 0] rfl ?_
        exact ih y1 x_9 (y3 + 1) m_8
set_option maxRecDepth 100000 in
set_option maxHeartbeats 4000000 in
theorem v_X12_sharedBy {l : Launch} {p : Program} {e : Env} {s : State} {mt : MethodId} {args : Array Value} {below : List Frame} {meth : Method} {c : Code} {A : Nat → Prop} {ad0 : Nat → Nat} {G : Gt}  (C : Cx G p s mt args meth c RX12 cX12_sharedBy 4 (some .int) "sharedBy" A)  (x1 : Int32) (m : Mem) : V G SM oI l p e s mt args below meth c 4 2 A ad0 17 17 RM 17 RM 0 [(0, .ref 0), (1, .int x1)] [] m (X12_sharedBy  x1 m) := by
  rw [X12_sharedBy]
  refine V.iconst (pc := 0) C dX12_sharedBy_0 (v := 1) (by decide) ?_
  refine V.aload_n (pc := 1) C dX12_sharedBy_1 0 rfl ?_
  refine V.getr (pc := 2) C fl_RX12_13 sM0 kM0 rfl rM0_1 dX12_sharedBy_2 ?_
  refine V.iconst (pc := 5) C dX12_sharedBy_5 (v := 1) (by decide) ?_
  refine V.iald (pc := 6) C sM1 kM1 dX12_sharedBy_6 (fun _ => ?_)
  refine V.ishl (pc := 7) C dX12_sharedBy_7 ?_
  refine V.iconst (pc := 8) C dX12_sharedBy_8 (v := 1) (by decide) ?_
  refine V.isub (pc := 9) C dX12_sharedBy_9 ?_
  refine V.lti (fun x_1 _ => ?_)
  refine V.istore_n (pc := 10) C dX12_sharedBy_10 (L2 := [(2, .int x_1), (0, .ref 0), (1, .int x1)]) (by decide) rfl ?_
  refine V.iconst (pc := 11) C dX12_sharedBy_11 (v := 0) (by decide) ?_
  refine V.istore_n (pc := 12) C dX12_sharedBy_12 (L2 := [(3, .int 0), (2, .int x_1), (0, .ref 0), (1, .int x1)]) (by decide) rfl ?_
  refine V.wk [2, 3, 1, 0] rfl ?_
  exact v_X12_sharedBy_b13 C  FU x1 x_1 0 m
theorem c_X12_sharedBy (l : Launch)   (x1 : Int32) (m : Mem) : Ct l yX12_sharedBy cX12_sharedBy 4 (some .int) 2 SM oI 17 17 RM RM [.ref 0, .int x1] m (X12_sharedBy  x1 m) :=
  Ct.of (own := RX12) (nm := "sharedBy") (by decide) rfl rfl (Nat.le_of_ble_eq_true rfl) (fun _ _ _ _ _ _ _ _ _ _ _ C => v_X12_sharedBy C  x1 m)
theorem dX12_biggest_0 : decode cX12_biggest 0 = .ok (.aload_n 0, 1) := by decide +kernel
theorem dX12_biggest_1 : decode cX12_biggest 1 = .ok (.iconst 0, 1) := by decide +kernel
theorem dX12_biggest_2 : decode cX12_biggest 2 = .ok (.putfield 1, 3) := by decide +kernel
theorem dX12_biggest_5 : decode cX12_biggest 5 = .ok (.iload_n 2, 1) := by decide +kernel
theorem dX12_biggest_6 : decode cX12_biggest 6 = .ok (.i2l, 1) := by decide +kernel
theorem dX12_biggest_7 : decode cX12_biggest 7 = .ok (.lconst 0, 1) := by decide +kernel
theorem dX12_biggest_8 : decode cX12_biggest 8 = .ok (.lconst 1, 1) := by decide +kernel
theorem dX12_biggest_9 : decode cX12_biggest 9 = .ok (.invokestatic 133, 3) := by decide +kernel
theorem dX12_biggest_12 : decode cX12_biggest 12 = .ok (.ifCond .ne 6, 3) := by decide +kernel
theorem dX12_biggest_15 : decode cX12_biggest 15 = .ok (.bipush (-2), 2) := by decide +kernel
theorem dX12_biggest_17 : decode cX12_biggest 17 = .ok (.ireturn, 1) := by decide +kernel
theorem dX12_biggest_18 : decode cX12_biggest 18 = .ok (.iload_n 1, 1) := by decide +kernel
theorem dX12_biggest_19 : decode cX12_biggest 19 = .ok (.i2l, 1) := by decide +kernel
theorem dX12_biggest_20 : decode cX12_biggest 20 = .ok (.lconst 0, 1) := by decide +kernel
theorem dX12_biggest_21 : decode cX12_biggest 21 = .ok (.ldc2_w 367, 3) := by decide +kernel
theorem dX12_biggest_24 : decode cX12_biggest 24 = .ok (.invokestatic 133, 3) := by decide +kernel
theorem dX12_biggest_27 : decode cX12_biggest 27 = .ok (.ifCond .ne 6, 3) := by decide +kernel
theorem dX12_biggest_30 : decode cX12_biggest 30 = .ok (.bipush (-3), 2) := by decide +kernel
theorem dX12_biggest_32 : decode cX12_biggest 32 = .ok (.ireturn, 1) := by decide +kernel
theorem dX12_biggest_33 : decode cX12_biggest 33 = .ok (.iconst 0, 1) := by decide +kernel
theorem dX12_biggest_34 : decode cX12_biggest 34 = .ok (.istore_n 3, 1) := by decide +kernel
theorem dX12_biggest_35 : decode cX12_biggest 35 = .ok (.iconst 1, 1) := by decide +kernel
theorem dX12_biggest_36 : decode cX12_biggest 36 = .ok (.istore 4, 2) := by decide +kernel
theorem dX12_biggest_38 : decode cX12_biggest 38 = .ok (.iload 4, 2) := by decide +kernel
theorem dX12_biggest_40 : decode cX12_biggest 40 = .ok (.iconst 1, 1) := by decide +kernel
theorem dX12_biggest_41 : decode cX12_biggest 41 = .ok (.aload_n 0, 1) := by decide +kernel
theorem dX12_biggest_42 : decode cX12_biggest 42 = .ok (.getfield 13, 3) := by decide +kernel
theorem dX12_biggest_45 : decode cX12_biggest 45 = .ok (.iconst 2, 1) := by decide +kernel
theorem dX12_biggest_46 : decode cX12_biggest 46 = .ok (.iaload, 1) := by decide +kernel
theorem dX12_biggest_47 : decode cX12_biggest 47 = .ok (.ishl, 1) := by decide +kernel
theorem dX12_biggest_48 : decode cX12_biggest 48 = .ok (.if_icmp .ge 34, 3) := by decide +kernel
theorem dX12_biggest_51 : decode cX12_biggest 51 = .ok (.iload 4, 2) := by decide +kernel
theorem dX12_biggest_53 : decode cX12_biggest 53 = .ok (.invokestatic 201, 3) := by decide +kernel
theorem dX12_biggest_56 : decode cX12_biggest 56 = .ok (.iload_n 3, 1) := by decide +kernel
theorem dX12_biggest_57 : decode cX12_biggest 57 = .ok (.invokestatic 201, 3) := by decide +kernel
theorem dX12_biggest_60 : decode cX12_biggest 60 = .ok (.if_icmp .le 16, 3) := by decide +kernel
theorem dX12_biggest_63 : decode cX12_biggest 63 = .ok (.aload_n 0, 1) := by decide +kernel
theorem dX12_biggest_64 : decode cX12_biggest 64 = .ok (.iload 4, 2) := by decide +kernel
theorem dX12_biggest_66 : decode cX12_biggest 66 = .ok (.invokevirtual 369, 3) := by decide +kernel
theorem dX12_biggest_69 : decode cX12_biggest 69 = .ok (.iload_n 1, 1) := by decide +kernel
theorem dX12_biggest_70 : decode cX12_biggest 70 = .ok (.if_icmp .lt 6, 3) := by decide +kernel
theorem dX12_biggest_73 : decode cX12_biggest 73 = .ok (.iload 4, 2) := by decide +kernel
theorem dX12_biggest_75 : decode cX12_biggest 75 = .ok (.istore_n 3, 1) := by decide +kernel
theorem dX12_biggest_76 : decode cX12_biggest 76 = .ok (.iinc 4 1, 3) := by decide +kernel
theorem dX12_biggest_79 : decode cX12_biggest 79 = .ok (.goto (-41), 3) := by decide +kernel
theorem dX12_biggest_82 : decode cX12_biggest 82 = .ok (.iload_n 2, 1) := by decide +kernel
theorem dX12_biggest_83 : decode cX12_biggest 83 = .ok (.ifCond .ne 10, 3) := by decide +kernel
theorem dX12_biggest_86 : decode cX12_biggest 86 = .ok (.iload_n 3, 1) := by decide +kernel
theorem dX12_biggest_87 : decode cX12_biggest 87 = .ok (.invokestatic 201, 3) := by decide +kernel
theorem dX12_biggest_90 : decode cX12_biggest 90 = .ok (.goto 4, 3) := by decide +kernel
theorem dX12_biggest_93 : decode cX12_biggest 93 = .ok (.iload_n 3, 1) := by decide +kernel
theorem dX12_biggest_94 : decode cX12_biggest 94 = .ok (.ireturn, 1) := by decide +kernel
set_option maxRecDepth 100000 in
set_option maxHeartbeats 4000000 in
theorem v_X12_biggest_b38 {l : Launch} {p : Program} {e : Env} {s : State} {mt : MethodId} {args : Array Value} {below : List Frame} {meth : Method} {c : Code} {A : Nat → Prop} {ad0 : Nat → Nat} {G : Gt}  (C : Cx G p s mt args meth c RX12 cX12_biggest 5 (some .int) "biggest" A)  : ∀ (n : Nat) (y1 : Int32) (y2 : Int32) (y3 : Int32) (y4 : Int32) (m : Mem), V G SM oI l p e s mt args below meth c 5 3 A ad0 17 17 RM 17 RM 38 [(0, .ref 0), (1, .int y1), (2, .int y2), (3, .int y3), (4, .int y4)] [] m (X12_biggest_b38  n y1 y2 y3 y4 m) := by
  intro n
  induction n with
  | zero =>
    intro y1 y2 y3 y4 m
    rw [X12_biggest_b38]
    exact V.nil
  | succ n ih =>
    intro y1 y2 y3 y4 m
    rw [X12_biggest_b38]
    refine V.iload (pc := 38) C dX12_biggest_38 4 rfl ?_
    refine V.iconst (pc := 40) C dX12_biggest_40 (v := 1) (by decide) ?_
    refine V.aload_n (pc := 41) C dX12_biggest_41 0 rfl ?_
    refine V.getr (pc := 42) C fl_RX12_13 sM0 kM0 rfl rM0_1 dX12_biggest_42 ?_
    refine V.iconst (pc := 45) C dX12_biggest_45 (v := 2) (by decide) ?_
    refine V.iald (pc := 46) C sM1 kM1 dX12_biggest_46 (fun _ => ?_)
    refine V.ishl (pc := 47) C dX12_biggest_47 ?_
    refine V.icmp_ge (pc := 48) C dX12_biggest_48 82 (by decide) (fun _ => ?_) (fun _ => ?_)
    · refine V.iload_n (pc := 82) C dX12_biggest_82 2 rfl ?_
      refine V.if_ne (pc := 83) C dX12_biggest_83 93 (by decide) (fun _ => ?_) (fun _ => ?_)
      · refine V.iload_n (pc := 93) C dX12_biggest_93 3 rfl ?_
        exact V.iret C dX12_biggest_94
      · refine V.iload_n (pc := 86) C dX12_biggest_86 3 rfl ?_
        refine V.callS (pc := 87) (st := []) C (c_X12_bitsOf l y3 m) obI ck_X12_bitsOf ml_RX12_201 rfl rfl (Nat.le_of_ble_eq_true rfl) ⟨by decide, by decide⟩ dX12_biggest_87 (fun r_6 m_7 _ => ?_)
        refine V.goto (pc := 90) C dX12_biggest_90 94 (by decide) ?_
        exact V.iret C dX12_biggest_94
    · refine V.iload (pc := 51) C dX12_biggest_51 4 rfl ?_
      refine V.callS (pc := 53) (st := []) C (c_X12_bitsOf l y4 m) obI ck_X12_bitsOf ml_RX12_201 rfl rfl (Nat.le_of_ble_eq_true rfl) ⟨by decide, by decide⟩ dX12_biggest_53 (fun r_8 m_9 _ => ?_)
      refine V.iload_n (pc := 56) C dX12_biggest_56 3 rfl ?_
      refine V.callS (pc := 57) (st := [.int r_8]) C (c_X12_bitsOf l y3 m_9) obI ck_X12_bitsOf ml_RX12_201 rfl rfl (Nat.le_of_ble_eq_true rfl) ⟨by decide, by decide⟩ dX12_biggest_57 (fun r_10 m_11 _ => ?_)
      refine V.icmp_le (pc := 60) C dX12_biggest_60 76 (by decide) (fun _ => ?_) (fun _ => ?_)
      · refine V.iinc (pc := 76) C dX12_biggest_76 (v := 1) (L2 := [(4, .int (y4 + 1)), (0, .ref 0), (1, .int y1), (2, .int y2), (3, .int y3)]) 4 rfl (by decide) (by decide) rfl ?_
        refine V.goto (pc := 79) C dX12_biggest_79 38 (by decide) ?_
        refine V.wk [1, 2, 3, 4, 0] rfl ?_
        exact ih y1 y2 y3 (y4 + 1) m_11
      · refine V.aload_n (pc := 63) C dX12_biggest_63 0 rfl ?_
        refine V.iload (pc := 64) C dX12_biggest_64 4 rfl ?_
        refine V.callV (pc := 66) (st := []) C (c_X12_sharedBy l y4 m_11) obI ck_X12_sharedBy ml_RX12_369 rfl rfl sM0 kM0 rfl rfl (Nat.le_of_ble_eq_true rfl) ⟨by decide, by decide⟩ dX12_biggest_66 (fun r_12 m_13 _ => ?_)
        refine V.iload_n (pc := 69) C dX12_biggest_69 1 rfl ?_
        refine V.icmp_lt (pc := 70) C dX12_biggest_70 76 (by decide) (fun _ => ?_) (fun _ => ?_)
        · refine V.iinc (pc := 76) C dX12_biggest_76 (v := 1) (L2 := [(4, .int (y4 + 1)), (0, .ref 0), (1, .int y1), (2, .int y2), (3, .int y3)]) 4 rfl (by decide) (by decide) rfl ?_
          refine V.goto (pc := 79) C dX12_biggest_79 38 (by decide) ?_
          refine V.wk [1, 2, 3, 4, 0] rfl ?_
          exact ih y1 y2 y3 (y4 + 1) m_13
        · refine V.iload (pc := 73) C dX12_biggest_73 4 rfl ?_
          refine V.istore_n (pc := 75) C dX12_biggest_75 (L2 := [(3, .int y4), (0, .ref 0), (1, .int y1), (2, .int y2), (4, .int y4)]) (by decide) rfl ?_
          refine V.iinc (pc := 76) C dX12_biggest_76 (v := 1) (L2 := [(4, .int (y4 + 1)), (3, .int y4), (0, .ref 0), (1, .int y1), (2, .int y2)]) 4 rfl (by decide) (by decide) rfl ?_
          refine V.goto (pc := 79) C dX12_biggest_79 38 (by decide) ?_
          refine V.wk [2, 3, 4, 1, 0] rfl ?_
          exact ih y1 y2 y4 (y4 + 1) m_13
set_option maxRecDepth 100000 in
set_option maxHeartbeats 4000000 in
theorem v_X12_biggest {l : Launch} {p : Program} {e : Env} {s : State} {mt : MethodId} {args : Array Value} {below : List Frame} {meth : Method} {c : Code} {A : Nat → Prop} {ad0 : Nat → Nat} {G : Gt}  (C : Cx G p s mt args meth c RX12 cX12_biggest 5 (some .int) "biggest" A)  (x1 : Int32) (x2 : Int32) (m : Mem) : V G SM oI l p e s mt args below meth c 5 3 A ad0 17 17 RM 17 RM 0 [(0, .ref 0), (1, .int x1), (2, .int x2)] [] m (X12_biggest  x1 x2 m) := by
  rw [X12_biggest]
  refine V.aload_n (pc := 0) C dX12_biggest_0 0 rfl ?_
  refine V.iconst (pc := 1) C dX12_biggest_1 (v := 0) (by decide) ?_
  refine V.puti (pc := 2) C fp_RX12_1 sM0 kM0 rfl dX12_biggest_2 ?_
  refine V.ltm (fun m_1 => ?_)
  refine V.iload_n (pc := 5) C dX12_biggest_5 2 rfl ?_
  refine V.i2l (pc := 6) C dX12_biggest_6 ?_
  refine V.lconst (pc := 7) C dX12_biggest_7 (v := 0) (by decide) ?_
  refine V.lconst (pc := 8) C dX12_biggest_8 (v := 1) (by decide) ?_
  refine V.callS (pc := 9) (st := []) C (c_X12_within l (Int32.toInt64 x2) 0 1 m_1) obI ck_X12_within ml_RX12_133 rfl rfl (Nat.le_of_ble_eq_true rfl) ⟨by decide, by decide⟩ dX12_biggest_9 (fun r_2 m_3 _ => ?_)
  refine V.if_ne (pc := 12) C dX12_biggest_12 18 (by decide) (fun _ => ?_) (fun _ => ?_)
  · refine V.iload_n (pc := 18) C dX12_biggest_18 1 rfl ?_
    refine V.i2l (pc := 19) C dX12_biggest_19 ?_
    refine V.lconst (pc := 20) C dX12_biggest_20 (v := 0) (by decide) ?_
    refine V.ldc2 (pc := 21) C dX12_biggest_21 (v := 14) cl_RX12_367 ?_
    refine V.callS (pc := 24) (st := []) C (c_X12_within l (Int32.toInt64 x1) 0 14 m_3) obI ck_X12_within ml_RX12_133 rfl rfl (Nat.le_of_ble_eq_true rfl) ⟨by decide, by decide⟩ dX12_biggest_24 (fun r_4 m_5 _ => ?_)
    refine V.if_ne (pc := 27) C dX12_biggest_27 33 (by decide) (fun _ => ?_) (fun _ => ?_)
    · refine V.iconst (pc := 33) C dX12_biggest_33 (v := 0) (by decide) ?_
      refine V.istore_n (pc := 34) C dX12_biggest_34 (L2 := [(3, .int 0), (0, .ref 0), (1, .int x1), (2, .int x2)]) (by decide) rfl ?_
      refine V.iconst (pc := 35) C dX12_biggest_35 (v := 1) (by decide) ?_
      refine V.istore (pc := 36) C dX12_biggest_36 (L2 := [(4, .int 1), (3, .int 0), (0, .ref 0), (1, .int x1), (2, .int x2)]) (by decide) rfl ?_
      refine V.wk [2, 3, 4, 1, 0] rfl ?_
      exact v_X12_biggest_b38 C  FU x1 x2 0 1 m_5
    · refine V.bipush (pc := 30) C dX12_biggest_30 (v := (-3)) (by decide) ?_
      exact V.iret C dX12_biggest_32
  · refine V.bipush (pc := 15) C dX12_biggest_15 (v := (-2)) (by decide) ?_
    exact V.iret C dX12_biggest_17
theorem c_X12_biggest (l : Launch)   (x1 : Int32) (x2 : Int32) (m : Mem) : Ct l yX12_biggest cX12_biggest 5 (some .int) 3 SM oI 17 17 RM RM [.ref 0, .int x1, .int x2] m (X12_biggest  x1 x2 m) :=
  Ct.of (own := RX12) (nm := "biggest") (by decide) rfl rfl (Nat.le_of_ble_eq_true rfl) (fun _ _ _ _ _ _ _ _ _ _ _ C => v_X12_biggest C  x1 x2 m)
theorem dX12_loathers_0 : decode cX12_loathers 0 = .ok (.iconst 0, 1) := by decide +kernel
theorem dX12_loathers_1 : decode cX12_loathers 1 = .ok (.istore_n 2, 1) := by decide +kernel
theorem dX12_loathers_2 : decode cX12_loathers 2 = .ok (.iconst 0, 1) := by decide +kernel
theorem dX12_loathers_3 : decode cX12_loathers 3 = .ok (.istore_n 3, 1) := by decide +kernel
theorem dX12_loathers_4 : decode cX12_loathers 4 = .ok (.iload_n 3, 1) := by decide +kernel
theorem dX12_loathers_5 : decode cX12_loathers 5 = .ok (.aload_n 0, 1) := by decide +kernel
theorem dX12_loathers_6 : decode cX12_loathers 6 = .ok (.getfield 13, 3) := by decide +kernel
theorem dX12_loathers_9 : decode cX12_loathers 9 = .ok (.iconst 2, 1) := by decide +kernel
theorem dX12_loathers_10 : decode cX12_loathers 10 = .ok (.iaload, 1) := by decide +kernel
theorem dX12_loathers_11 : decode cX12_loathers 11 = .ok (.if_icmp .ge 33, 3) := by decide +kernel
theorem dX12_loathers_14 : decode cX12_loathers 14 = .ok (.aload_n 0, 1) := by decide +kernel
theorem dX12_loathers_15 : decode cX12_loathers 15 = .ok (.getfield 13, 3) := by decide +kernel
theorem dX12_loathers_18 : decode cX12_loathers 18 = .ok (.bipush 41, 2) := by decide +kernel
theorem dX12_loathers_20 : decode cX12_loathers 20 = .ok (.bipush 14, 2) := by decide +kernel
theorem dX12_loathers_22 : decode cX12_loathers 22 = .ok (.iload_n 3, 1) := by decide +kernel
theorem dX12_loathers_23 : decode cX12_loathers 23 = .ok (.imul, 1) := by decide +kernel
theorem dX12_loathers_24 : decode cX12_loathers 24 = .ok (.iadd, 1) := by decide +kernel
theorem dX12_loathers_25 : decode cX12_loathers 25 = .ok (.iload_n 1, 1) := by decide +kernel
theorem dX12_loathers_26 : decode cX12_loathers 26 = .ok (.iadd, 1) := by decide +kernel
theorem dX12_loathers_27 : decode cX12_loathers 27 = .ok (.iaload, 1) := by decide +kernel
theorem dX12_loathers_28 : decode cX12_loathers 28 = .ok (.iconst (-1), 1) := by decide +kernel
theorem dX12_loathers_29 : decode cX12_loathers 29 = .ok (.if_icmp .eq 9, 3) := by decide +kernel
theorem dX12_loathers_32 : decode cX12_loathers 32 = .ok (.iload_n 2, 1) := by decide +kernel
theorem dX12_loathers_33 : decode cX12_loathers 33 = .ok (.iconst 1, 1) := by decide +kernel
theorem dX12_loathers_34 : decode cX12_loathers 34 = .ok (.iload_n 3, 1) := by decide +kernel
theorem dX12_loathers_35 : decode cX12_loathers 35 = .ok (.ishl, 1) := by decide +kernel
theorem dX12_loathers_36 : decode cX12_loathers 36 = .ok (.ior, 1) := by decide +kernel
theorem dX12_loathers_37 : decode cX12_loathers 37 = .ok (.istore_n 2, 1) := by decide +kernel
theorem dX12_loathers_38 : decode cX12_loathers 38 = .ok (.iinc 3 1, 3) := by decide +kernel
theorem dX12_loathers_41 : decode cX12_loathers 41 = .ok (.goto (-37), 3) := by decide +kernel
theorem dX12_loathers_44 : decode cX12_loathers 44 = .ok (.iload_n 2, 1) := by decide +kernel
theorem dX12_loathers_45 : decode cX12_loathers 45 = .ok (.ireturn, 1) := by decide +kernel
set_option maxRecDepth 100000 in
set_option maxHeartbeats 4000000 in
theorem v_X12_loathers_b4 {l : Launch} {p : Program} {e : Env} {s : State} {mt : MethodId} {args : Array Value} {below : List Frame} {meth : Method} {c : Code} {A : Nat → Prop} {ad0 : Nat → Nat} {G : Gt}  (C : Cx G p s mt args meth c RX12 cX12_loathers 4 (some .int) "loathers" A)  : ∀ (n : Nat) (y1 : Int32) (y2 : Int32) (y3 : Int32) (m : Mem), V G SM oI l p e s mt args below meth c 4 1 A ad0 17 17 RM 17 RM 4 [(0, .ref 0), (1, .int y1), (2, .int y2), (3, .int y3)] [] m (X12_loathers_b4  n y1 y2 y3 m) := by
  intro n
  induction n with
  | zero =>
    intro y1 y2 y3 m
    rw [X12_loathers_b4]
    exact V.nil
  | succ n ih =>
    intro y1 y2 y3 m
    rw [X12_loathers_b4]
    refine V.iload_n (pc := 4) C dX12_loathers_4 3 rfl ?_
    refine V.aload_n (pc := 5) C dX12_loathers_5 0 rfl ?_
    refine V.getr (pc := 6) C fl_RX12_13 sM0 kM0 rfl rM0_1 dX12_loathers_6 ?_
    refine V.iconst (pc := 9) C dX12_loathers_9 (v := 2) (by decide) ?_
    refine V.iald (pc := 10) C sM1 kM1 dX12_loathers_10 (fun _ => ?_)
    refine V.icmp_ge (pc := 11) C dX12_loathers_11 44 (by decide) (fun _ => ?_) (fun _ => ?_)
    · refine V.iload_n (pc := 44) C dX12_loathers_44 2 rfl ?_
      exact V.iret C dX12_loathers_45
    · refine V.aload_n (pc := 14) C dX12_loathers_14 0 rfl ?_
      refine V.getr (pc := 15) C fl_RX12_13 sM0 kM0 rfl rM0_1 dX12_loathers_15 ?_
      refine V.bipush (pc := 18) C dX12_loathers_18 (v := 41) (by decide) ?_
      refine V.bipush (pc := 20) C dX12_loathers_20 (v := 14) (by decide) ?_
      refine V.iload_n (pc := 22) C dX12_loathers_22 3 rfl ?_
      refine V.imul (pc := 23) C dX12_loathers_23 ?_
      refine V.iadd (pc := 24) C dX12_loathers_24 ?_
      refine V.iload_n (pc := 25) C dX12_loathers_25 1 rfl ?_
      refine V.iadd (pc := 26) C dX12_loathers_26 ?_
      refine V.iald (pc := 27) C sM1 kM1 dX12_loathers_27 (fun _ => ?_)
      refine V.iconst (pc := 28) C dX12_loathers_28 (v := (-1)) (by decide) ?_
      refine V.icmp_eq (pc := 29) C dX12_loathers_29 38 (by decide) (fun _ => ?_) (fun _ => ?_)
      · refine V.iinc (pc := 38) C dX12_loathers_38 (v := 1) (L2 := [(3, .int (y3 + 1)), (0, .ref 0), (1, .int y1), (2, .int y2)]) 3 rfl (by decide) (by decide) rfl ?_
        refine V.goto (pc := 41) C dX12_loathers_41 4 (by decide) ?_
        refine V.wk [1, 2, 3, 0] rfl ?_
        exact ih y1 y2 (y3 + 1) m
      · refine V.iload_n (pc := 32) C dX12_loathers_32 2 rfl ?_
        refine V.iconst (pc := 33) C dX12_loathers_33 (v := 1) (by decide) ?_
        refine V.iload_n (pc := 34) C dX12_loathers_34 3 rfl ?_
        refine V.ishl (pc := 35) C dX12_loathers_35 ?_
        refine V.ior (pc := 36) C dX12_loathers_36 ?_
        refine V.lti (fun x_1 _ => ?_)
        refine V.istore_n (pc := 37) C dX12_loathers_37 (L2 := [(2, .int x_1), (0, .ref 0), (1, .int y1), (3, .int y3)]) (by decide) rfl ?_
        refine V.iinc (pc := 38) C dX12_loathers_38 (v := 1) (L2 := [(3, .int (y3 + 1)), (2, .int x_1), (0, .ref 0), (1, .int y1)]) 3 rfl (by decide) (by decide) rfl ?_
        refine V.goto (pc := 41) C dX12_loathers_41 4 (by decide) ?_
        refine V.wk [2, 3, 1, 0] rfl ?_
        exact ih y1 x_1 (y3 + 1) m
set_option maxRecDepth 100000 in
set_option maxHeartbeats 4000000 in
theorem v_X12_loathers {l : Launch} {p : Program} {e : Env} {s : State} {mt : MethodId} {args : Array Value} {below : List Frame} {meth : Method} {c : Code} {A : Nat → Prop} {ad0 : Nat → Nat} {G : Gt}  (C : Cx G p s mt args meth c RX12 cX12_loathers 4 (some .int) "loathers" A)  (x1 : Int32) (m : Mem) : V G SM oI l p e s mt args below meth c 4 1 A ad0 17 17 RM 17 RM 0 [(0, .ref 0), (1, .int x1)] [] m (X12_loathers  x1 m) := by
  rw [X12_loathers]
  refine V.iconst (pc := 0) C dX12_loathers_0 (v := 0) (by decide) ?_
  refine V.istore_n (pc := 1) C dX12_loathers_1 (L2 := [(2, .int 0), (0, .ref 0), (1, .int x1)]) (by decide) rfl ?_
  refine V.iconst (pc := 2) C dX12_loathers_2 (v := 0) (by decide) ?_
  refine V.istore_n (pc := 3) C dX12_loathers_3 (L2 := [(3, .int 0), (2, .int 0), (0, .ref 0), (1, .int x1)]) (by decide) rfl ?_
  refine V.wk [2, 3, 1, 0] rfl ?_
  exact v_X12_loathers_b4 C  FU x1 0 0 m
theorem c_X12_loathers (l : Launch)   (x1 : Int32) (m : Mem) : Ct l yX12_loathers cX12_loathers 4 (some .int) 1 SM oI 17 17 RM RM [.ref 0, .int x1] m (X12_loathers  x1 m) :=
  Ct.of (own := RX12) (nm := "loathers") (by decide) rfl rfl (Nat.le_of_ble_eq_true rfl) (fun _ _ _ _ _ _ _ _ _ _ _ C => v_X12_loathers C  x1 m)
theorem dX12_rareOf_0 : decode cX12_rareOf 0 = .ok (.aload_n 0, 1) := by decide +kernel
theorem dX12_rareOf_1 : decode cX12_rareOf 1 = .ok (.getfield 13, 3) := by decide +kernel
theorem dX12_rareOf_4 : decode cX12_rareOf 4 = .ok (.iconst 2, 1) := by decide +kernel
theorem dX12_rareOf_5 : decode cX12_rareOf 5 = .ok (.iaload, 1) := by decide +kernel
theorem dX12_rareOf_6 : decode cX12_rareOf 6 = .ok (.aload_n 0, 1) := by decide +kernel
theorem dX12_rareOf_7 : decode cX12_rareOf 7 = .ok (.iload_n 1, 1) := by decide +kernel
theorem dX12_rareOf_8 : decode cX12_rareOf 8 = .ok (.invokevirtual 198, 3) := by decide +kernel
theorem dX12_rareOf_11 : decode cX12_rareOf 11 = .ok (.invokestatic 201, 3) := by decide +kernel
theorem dX12_rareOf_14 : decode cX12_rareOf 14 = .ok (.isub, 1) := by decide +kernel
theorem dX12_rareOf_15 : decode cX12_rareOf 15 = .ok (.iconst 1, 1) := by decide +kernel
theorem dX12_rareOf_16 : decode cX12_rareOf 16 = .ok (.iadd, 1) := by decide +kernel
theorem dX12_rareOf_17 : decode cX12_rareOf 17 = .ok (.ireturn, 1) := by decide +kernel
set_option maxRecDepth 100000 in
set_option maxHeartbeats 4000000 in
theorem v_X12_rareOf {l : Launch} {p : Program} {e : Env} {s : State} {mt : MethodId} {args : Array Value} {below : List Frame} {meth : Method} {c : Code} {A : Nat → Prop} {ad0 : Nat → Nat} {G : Gt}  (C : Cx G p s mt args meth c RX12 cX12_rareOf 2 (some .int) "rareOf" A)  (x1 : Int32) (m : Mem) : V G SM oI l p e s mt args below meth c 2 2 A ad0 17 17 RM 17 RM 0 [(0, .ref 0), (1, .int x1)] [] m (X12_rareOf  x1 m) := by
  rw [X12_rareOf]
  refine V.aload_n (pc := 0) C dX12_rareOf_0 0 rfl ?_
  refine V.getr (pc := 1) C fl_RX12_13 sM0 kM0 rfl rM0_1 dX12_rareOf_1 ?_
  refine V.iconst (pc := 4) C dX12_rareOf_4 (v := 2) (by decide) ?_
  refine V.iald (pc := 5) C sM1 kM1 dX12_rareOf_5 (fun _ => ?_)
  refine V.aload_n (pc := 6) C dX12_rareOf_6 0 rfl ?_
  refine V.iload_n (pc := 7) C dX12_rareOf_7 1 rfl ?_
  refine V.callV (pc := 8) (st := [.int (gi m 1 (ix 2))]) C (c_X12_loathers l x1 m) obI ck_X12_loathers ml_RX12_198 rfl rfl sM0 kM0 rfl rfl (Nat.le_of_ble_eq_true rfl) ⟨by decide, by decide⟩ dX12_rareOf_8 (fun r_1 m_2 _ => ?_)
  refine V.callS (pc := 11) (st := [.int (gi m 1 (ix 2))]) C (c_X12_bitsOf l r_1 m_2) obI ck_X12_bitsOf ml_RX12_201 rfl rfl (Nat.le_of_ble_eq_true rfl) ⟨by decide, by decide⟩ dX12_rareOf_11 (fun r_3 m_4 _ => ?_)
  refine V.isub (pc := 14) C dX12_rareOf_14 ?_
  refine V.iconst (pc := 15) C dX12_rareOf_15 (v := 1) (by decide) ?_
  refine V.iadd (pc := 16) C dX12_rareOf_16 ?_
  exact V.iret C dX12_rareOf_17
theorem c_X12_rareOf (l : Launch)   (x1 : Int32) (m : Mem) : Ct l yX12_rareOf cX12_rareOf 2 (some .int) 2 SM oI 17 17 RM RM [.ref 0, .int x1] m (X12_rareOf  x1 m) :=
  Ct.of (own := RX12) (nm := "rareOf") (by decide) rfl rfl (Nat.le_of_ble_eq_true rfl) (fun _ _ _ _ _ _ _ _ _ _ _ C => v_X12_rareOf C  x1 m)
theorem dX12_rareOfAll_0 : decode cX12_rareOfAll 0 = .ok (.iconst 0, 1) := by decide +kernel
theorem dX12_rareOfAll_1 : decode cX12_rareOfAll 1 = .ok (.istore_n 2, 1) := by decide +kernel
theorem dX12_rareOfAll_2 : decode cX12_rareOfAll 2 = .ok (.iconst 0, 1) := by decide +kernel
theorem dX12_rareOfAll_3 : decode cX12_rareOfAll 3 = .ok (.istore_n 3, 1) := by decide +kernel
theorem dX12_rareOfAll_4 : decode cX12_rareOfAll 4 = .ok (.iload_n 3, 1) := by decide +kernel
theorem dX12_rareOfAll_5 : decode cX12_rareOfAll 5 = .ok (.aload_n 0, 1) := by decide +kernel
theorem dX12_rareOfAll_6 : decode cX12_rareOfAll 6 = .ok (.getfield 13, 3) := by decide +kernel
theorem dX12_rareOfAll_9 : decode cX12_rareOfAll 9 = .ok (.iconst 1, 1) := by decide +kernel
theorem dX12_rareOfAll_10 : decode cX12_rareOfAll 10 = .ok (.iaload, 1) := by decide +kernel
theorem dX12_rareOfAll_11 : decode cX12_rareOfAll 11 = .ok (.if_icmp .ge 30, 3) := by decide +kernel
theorem dX12_rareOfAll_14 : decode cX12_rareOfAll 14 = .ok (.iload_n 2, 1) := by decide +kernel
theorem dX12_rareOfAll_15 : decode cX12_rareOfAll 15 = .ok (.iload_n 1, 1) := by decide +kernel
theorem dX12_rareOfAll_16 : decode cX12_rareOfAll 16 = .ok (.i2l, 1) := by decide +kernel
theorem dX12_rareOfAll_17 : decode cX12_rareOfAll 17 = .ok (.iload_n 3, 1) := by decide +kernel
theorem dX12_rareOfAll_18 : decode cX12_rareOfAll 18 = .ok (.invokestatic 175, 3) := by decide +kernel
theorem dX12_rareOfAll_21 : decode cX12_rareOfAll 21 = .ok (.ifCond .eq 11, 3) := by decide +kernel
theorem dX12_rareOfAll_24 : decode cX12_rareOfAll 24 = .ok (.aload_n 0, 1) := by decide +kernel
theorem dX12_rareOfAll_25 : decode cX12_rareOfAll 25 = .ok (.iload_n 3, 1) := by decide +kernel
theorem dX12_rareOfAll_26 : decode cX12_rareOfAll 26 = .ok (.invokevirtual 204, 3) := by decide +kernel
theorem dX12_rareOfAll_29 : decode cX12_rareOfAll 29 = .ok (.goto 4, 3) := by decide +kernel
theorem dX12_rareOfAll_32 : decode cX12_rareOfAll 32 = .ok (.iconst 0, 1) := by decide +kernel
theorem dX12_rareOfAll_33 : decode cX12_rareOfAll 33 = .ok (.iadd, 1) := by decide +kernel
theorem dX12_rareOfAll_34 : decode cX12_rareOfAll 34 = .ok (.istore_n 2, 1) := by decide +kernel
theorem dX12_rareOfAll_35 : decode cX12_rareOfAll 35 = .ok (.iinc 3 1, 3) := by decide +kernel
theorem dX12_rareOfAll_38 : decode cX12_rareOfAll 38 = .ok (.goto (-34), 3) := by decide +kernel
theorem dX12_rareOfAll_41 : decode cX12_rareOfAll 41 = .ok (.iload_n 2, 1) := by decide +kernel
theorem dX12_rareOfAll_42 : decode cX12_rareOfAll 42 = .ok (.ireturn, 1) := by decide +kernel
set_option maxRecDepth 100000 in
set_option maxHeartbeats 4000000 in
theorem v_X12_rareOfAll_b4 {l : Launch} {p : Program} {e : Env} {s : State} {mt : MethodId} {args : Array Value} {below : List Frame} {meth : Method} {c : Code} {A : Nat → Prop} {ad0 : Nat → Nat} {G : Gt}  (C : Cx G p s mt args meth c RX12 cX12_rareOfAll 4 (some .int) "rareOfAll" A)  : ∀ (n : Nat) (y1 : Int32) (y2 : Int32) (y3 : Int32) (m : Mem), V G SM oI l p e s mt args below meth c 4 3 A ad0 17 17 RM 17 RM 4 [(0, .ref 0), (1, .int y1), (2, .int y2), (3, .int y3)] [] m (X12_rareOfAll_b4  n y1 y2 y3 m) := by
  intro n
  induction n with
  | zero =>
    intro y1 y2 y3 m
    rw [X12_rareOfAll_b4]
    exact V.nil
  | succ n ih =>
    intro y1 y2 y3 m
    rw [X12_rareOfAll_b4]
    refine V.iload_n (pc := 4) C dX12_rareOfAll_4 3 rfl ?_
    refine V.aload_n (pc := 5) C dX12_rareOfAll_5 0 rfl ?_
    refine V.getr (pc := 6) C fl_RX12_13 sM0 kM0 rfl rM0_1 dX12_rareOfAll_6 ?_
    refine V.iconst (pc := 9) C dX12_rareOfAll_9 (v := 1) (by decide) ?_
    refine V.iald (pc := 10) C sM1 kM1 dX12_rareOfAll_10 (fun _ => ?_)
    refine V.icmp_ge (pc := 11) C dX12_rareOfAll_11 41 (by decide) (fun _ => ?_) (fun _ => ?_)
    · refine V.iload_n (pc := 41) C dX12_rareOfAll_41 2 rfl ?_
      exact V.iret C dX12_rareOfAll_42
    · refine V.iload_n (pc := 14) C dX12_rareOfAll_14 2 rfl ?_
      refine V.iload_n (pc := 15) C dX12_rareOfAll_15 1 rfl ?_
      refine V.i2l (pc := 16) C dX12_rareOfAll_16 ?_
      refine V.iload_n (pc := 17) C dX12_rareOfAll_17 3 rfl ?_
      refine V.callS (pc := 18) (st := [.int y2]) C (c_X12_isIn l (Int32.toInt64 y1) y3 m) obI ck_X12_isIn ml_RX12_175 rfl rfl (Nat.le_of_ble_eq_true rfl) ⟨by decide, by decide⟩ dX12_rareOfAll_18 (fun r_1 m_2 _ => ?_)
      refine V.if_eq (pc := 21) C dX12_rareOfAll_21 32 (by decide) (fun _ => ?_) (fun _ => ?_)
      · refine V.iconst (pc := 32) C dX12_rareOfAll_32 (v := 0) (by decide) ?_
        refine V.iadd (pc := 33) C dX12_rareOfAll_33 ?_
        refine V.lti (fun x_3 _ => ?_)
        refine V.istore_n (pc := 34) C dX12_rareOfAll_34 (L2 := [(2, .int x_3), (0, .ref 0), (1, .int y1), (3, .int y3)]) (by decide) rfl ?_
        refine V.iinc (pc := 35) C dX12_rareOfAll_35 (v := 1) (L2 := [(3, .int (y3 + 1)), (2, .int x_3), (0, .ref 0), (1, .int y1)]) 3 rfl (by decide) (by decide) rfl ?_
        refine V.goto (pc := 38) C dX12_rareOfAll_38 4 (by decide) ?_
        refine V.wk [2, 3, 1, 0] rfl ?_
        exact ih y1 x_3 (y3 + 1) m_2
      · refine V.aload_n (pc := 24) C dX12_rareOfAll_24 0 rfl ?_
        refine V.iload_n (pc := 25) C dX12_rareOfAll_25 3 rfl ?_
        refine V.callV (pc := 26) (st := [.int y2]) C (c_X12_rareOf l y3 m_2) obI ck_X12_rareOf ml_RX12_204 rfl rfl sM0 kM0 rfl rfl (Nat.le_of_ble_eq_true rfl) ⟨by decide, by decide⟩ dX12_rareOfAll_26 (fun r_4 m_5 _ => ?_)
        refine V.goto (pc := 29) C dX12_rareOfAll_29 33 (by decide) ?_
        refine V.iadd (pc := 33) C dX12_rareOfAll_33 ?_
        refine V.lti (fun x_6 _ => ?_)
        refine V.istore_n (pc := 34) C dX12_rareOfAll_34 (L2 := [(2, .int x_6), (0, .ref 0), (1, .int y1), (3, .int y3)]) (by decide) rfl ?_
        refine V.iinc (pc := 35) C dX12_rareOfAll_35 (v := 1) (L2 := [(3, .int (y3 + 1)), (2, .int x_6), (0, .ref 0), (1, .int y1)]) 3 rfl (by decide) (by decide) rfl ?_
        refine V.goto (pc := 38) C dX12_rareOfAll_38 4 (by decide) ?_
        refine V.wk [2, 3, 1, 0] rfl ?_
        exact ih y1 x_6 (y3 + 1) m_5
set_option maxRecDepth 100000 in
set_option maxHeartbeats 4000000 in
theorem v_X12_rareOfAll {l : Launch} {p : Program} {e : Env} {s : State} {mt : MethodId} {args : Array Value} {below : List Frame} {meth : Method} {c : Code} {A : Nat → Prop} {ad0 : Nat → Nat} {G : Gt}  (C : Cx G p s mt args meth c RX12 cX12_rareOfAll 4 (some .int) "rareOfAll" A)  (x1 : Int32) (m : Mem) : V G SM oI l p e s mt args below meth c 4 3 A ad0 17 17 RM 17 RM 0 [(0, .ref 0), (1, .int x1)] [] m (X12_rareOfAll  x1 m) := by
  rw [X12_rareOfAll]
  refine V.iconst (pc := 0) C dX12_rareOfAll_0 (v := 0) (by decide) ?_
  refine V.istore_n (pc := 1) C dX12_rareOfAll_1 (L2 := [(2, .int 0), (0, .ref 0), (1, .int x1)]) (by decide) rfl ?_
  refine V.iconst (pc := 2) C dX12_rareOfAll_2 (v := 0) (by decide) ?_
  refine V.istore_n (pc := 3) C dX12_rareOfAll_3 (L2 := [(3, .int 0), (2, .int 0), (0, .ref 0), (1, .int x1)]) (by decide) rfl ?_
  refine V.wk [2, 3, 1, 0] rfl ?_
  exact v_X12_rareOfAll_b4 C  FU x1 0 0 m
theorem c_X12_rareOfAll (l : Launch)   (x1 : Int32) (m : Mem) : Ct l yX12_rareOfAll cX12_rareOfAll 4 (some .int) 3 SM oI 17 17 RM RM [.ref 0, .int x1] m (X12_rareOfAll  x1 m) :=
  Ct.of (own := RX12) (nm := "rareOfAll") (by decide) rfl rfl (Nat.le_of_ble_eq_true rfl) (fun _ _ _ _ _ _ _ _ _ _ _ C => v_X12_rareOfAll C  x1 m)
theorem dX12_laysTwo_0 : decode cX12_laysTwo 0 = .ok (.aload_n 0, 1) := by decide +kernel
theorem dX12_laysTwo_1 : decode cX12_laysTwo 1 = .ok (.iload_n 1, 1) := by decide +kernel
theorem dX12_laysTwo_2 : decode cX12_laysTwo 2 = .ok (.invokevirtual 207, 3) := by decide +kernel
theorem dX12_laysTwo_5 : decode cX12_laysTwo 5 = .ok (.istore_n 3, 1) := by decide +kernel
theorem dX12_laysTwo_6 : decode cX12_laysTwo 6 = .ok (.aload_n 0, 1) := by decide +kernel
theorem dX12_laysTwo_7 : decode cX12_laysTwo 7 = .ok (.iload_n 2, 1) := by decide +kernel
theorem dX12_laysTwo_8 : decode cX12_laysTwo 8 = .ok (.invokevirtual 207, 3) := by decide +kernel
theorem dX12_laysTwo_11 : decode cX12_laysTwo 11 = .ok (.istore 4, 2) := by decide +kernel
theorem dX12_laysTwo_13 : decode cX12_laysTwo 13 = .ok (.aload_n 0, 1) := by decide +kernel
theorem dX12_laysTwo_14 : decode cX12_laysTwo 14 = .ok (.getfield 13, 3) := by decide +kernel
theorem dX12_laysTwo_17 : decode cX12_laysTwo 17 = .ok (.bipush 33, 2) := by decide +kernel
theorem dX12_laysTwo_19 : decode cX12_laysTwo 19 = .ok (.iload_n 1, 1) := by decide +kernel
theorem dX12_laysTwo_20 : decode cX12_laysTwo 20 = .ok (.iadd, 1) := by decide +kernel
theorem dX12_laysTwo_21 : decode cX12_laysTwo 21 = .ok (.iaload, 1) := by decide +kernel
theorem dX12_laysTwo_22 : decode cX12_laysTwo 22 = .ok (.istore 5, 2) := by decide +kernel
theorem dX12_laysTwo_24 : decode cX12_laysTwo 24 = .ok (.aload_n 0, 1) := by decide +kernel
theorem dX12_laysTwo_25 : decode cX12_laysTwo 25 = .ok (.getfield 13, 3) := by decide +kernel
theorem dX12_laysTwo_28 : decode cX12_laysTwo 28 = .ok (.bipush 33, 2) := by decide +kernel
theorem dX12_laysTwo_30 : decode cX12_laysTwo 30 = .ok (.iload_n 2, 1) := by decide +kernel
theorem dX12_laysTwo_31 : decode cX12_laysTwo 31 = .ok (.iadd, 1) := by decide +kernel
theorem dX12_laysTwo_32 : decode cX12_laysTwo 32 = .ok (.iaload, 1) := by decide +kernel
theorem dX12_laysTwo_33 : decode cX12_laysTwo 33 = .ok (.istore 6, 2) := by decide +kernel
theorem dX12_laysTwo_35 : decode cX12_laysTwo 35 = .ok (.aload_n 0, 1) := by decide +kernel
theorem dX12_laysTwo_36 : decode cX12_laysTwo 36 = .ok (.getfield 30, 3) := by decide +kernel
theorem dX12_laysTwo_39 : decode cX12_laysTwo 39 = .ok (.iconst 0, 1) := by decide +kernel
theorem dX12_laysTwo_40 : decode cX12_laysTwo 40 = .ok (.iload_n 3, 1) := by decide +kernel
theorem dX12_laysTwo_41 : decode cX12_laysTwo 41 = .ok (.iload 4, 2) := by decide +kernel
theorem dX12_laysTwo_43 : decode cX12_laysTwo 43 = .ok (.iand, 1) := by decide +kernel
theorem dX12_laysTwo_44 : decode cX12_laysTwo 44 = .ok (.invokestatic 201, 3) := by decide +kernel
theorem dX12_laysTwo_47 : decode cX12_laysTwo 47 = .ok (.iastore, 1) := by decide +kernel
theorem dX12_laysTwo_48 : decode cX12_laysTwo 48 = .ok (.aload_n 0, 1) := by decide +kernel
theorem dX12_laysTwo_49 : decode cX12_laysTwo 49 = .ok (.getfield 30, 3) := by decide +kernel
theorem dX12_laysTwo_52 : decode cX12_laysTwo 52 = .ok (.iconst 1, 1) := by decide +kernel
theorem dX12_laysTwo_53 : decode cX12_laysTwo 53 = .ok (.aload_n 0, 1) := by decide +kernel
theorem dX12_laysTwo_54 : decode cX12_laysTwo 54 = .ok (.iload_n 3, 1) := by decide +kernel
theorem dX12_laysTwo_55 : decode cX12_laysTwo 55 = .ok (.iload 4, 2) := by decide +kernel
theorem dX12_laysTwo_57 : decode cX12_laysTwo 57 = .ok (.iand, 1) := by decide +kernel
theorem dX12_laysTwo_58 : decode cX12_laysTwo 58 = .ok (.invokevirtual 216, 3) := by decide +kernel
theorem dX12_laysTwo_61 : decode cX12_laysTwo 61 = .ok (.iastore, 1) := by decide +kernel
theorem dX12_laysTwo_62 : decode cX12_laysTwo 62 = .ok (.aload_n 0, 1) := by decide +kernel
theorem dX12_laysTwo_63 : decode cX12_laysTwo 63 = .ok (.getfield 30, 3) := by decide +kernel
theorem dX12_laysTwo_66 : decode cX12_laysTwo 66 = .ok (.iconst 2, 1) := by decide +kernel
theorem dX12_laysTwo_67 : decode cX12_laysTwo 67 = .ok (.iload_n 3, 1) := by decide +kernel
theorem dX12_laysTwo_68 : decode cX12_laysTwo 68 = .ok (.aload_n 0, 1) := by decide +kernel
theorem dX12_laysTwo_69 : decode cX12_laysTwo 69 = .ok (.getfield 13, 3) := by decide +kernel
theorem dX12_laysTwo_72 : decode cX12_laysTwo 72 = .ok (.bipush 25, 2) := by decide +kernel
theorem dX12_laysTwo_74 : decode cX12_laysTwo 74 = .ok (.iload_n 2, 1) := by decide +kernel
theorem dX12_laysTwo_75 : decode cX12_laysTwo 75 = .ok (.iadd, 1) := by decide +kernel
theorem dX12_laysTwo_76 : decode cX12_laysTwo 76 = .ok (.iaload, 1) := by decide +kernel
theorem dX12_laysTwo_77 : decode cX12_laysTwo 77 = .ok (.iand, 1) := by decide +kernel
theorem dX12_laysTwo_78 : decode cX12_laysTwo 78 = .ok (.invokestatic 201, 3) := by decide +kernel
theorem dX12_laysTwo_81 : decode cX12_laysTwo 81 = .ok (.iload 4, 2) := by decide +kernel
theorem dX12_laysTwo_83 : decode cX12_laysTwo 83 = .ok (.aload_n 0, 1) := by decide +kernel
theorem dX12_laysTwo_84 : decode cX12_laysTwo 84 = .ok (.getfield 13, 3) := by decide +kernel
theorem dX12_laysTwo_87 : decode cX12_laysTwo 87 = .ok (.bipush 25, 2) := by decide +kernel
theorem dX12_laysTwo_89 : decode cX12_laysTwo 89 = .ok (.iload_n 1, 1) := by decide +kernel
theorem dX12_laysTwo_90 : decode cX12_laysTwo 90 = .ok (.iadd, 1) := by decide +kernel
theorem dX12_laysTwo_91 : decode cX12_laysTwo 91 = .ok (.iaload, 1) := by decide +kernel
theorem dX12_laysTwo_92 : decode cX12_laysTwo 92 = .ok (.iand, 1) := by decide +kernel
theorem dX12_laysTwo_93 : decode cX12_laysTwo 93 = .ok (.invokestatic 201, 3) := by decide +kernel
theorem dX12_laysTwo_96 : decode cX12_laysTwo 96 = .ok (.iadd, 1) := by decide +kernel
theorem dX12_laysTwo_97 : decode cX12_laysTwo 97 = .ok (.iastore, 1) := by decide +kernel
theorem dX12_laysTwo_98 : decode cX12_laysTwo 98 = .ok (.aload_n 0, 1) := by decide +kernel
theorem dX12_laysTwo_99 : decode cX12_laysTwo 99 = .ok (.getfield 30, 3) := by decide +kernel
theorem dX12_laysTwo_102 : decode cX12_laysTwo 102 = .ok (.iconst 3, 1) := by decide +kernel
theorem dX12_laysTwo_103 : decode cX12_laysTwo 103 = .ok (.iload_n 3, 1) := by decide +kernel
theorem dX12_laysTwo_104 : decode cX12_laysTwo 104 = .ok (.invokestatic 201, 3) := by decide +kernel
theorem dX12_laysTwo_107 : decode cX12_laysTwo 107 = .ok (.iload 4, 2) := by decide +kernel
theorem dX12_laysTwo_109 : decode cX12_laysTwo 109 = .ok (.invokestatic 201, 3) := by decide +kernel
theorem dX12_laysTwo_112 : decode cX12_laysTwo 112 = .ok (.iadd, 1) := by decide +kernel
theorem dX12_laysTwo_113 : decode cX12_laysTwo 113 = .ok (.iastore, 1) := by decide +kernel
theorem dX12_laysTwo_114 : decode cX12_laysTwo 114 = .ok (.aload_n 0, 1) := by decide +kernel
theorem dX12_laysTwo_115 : decode cX12_laysTwo 115 = .ok (.getfield 30, 3) := by decide +kernel
theorem dX12_laysTwo_118 : decode cX12_laysTwo 118 = .ok (.iconst 4, 1) := by decide +kernel
theorem dX12_laysTwo_119 : decode cX12_laysTwo 119 = .ok (.iload 5, 2) := by decide +kernel
theorem dX12_laysTwo_121 : decode cX12_laysTwo 121 = .ok (.iload 6, 2) := by decide +kernel
theorem dX12_laysTwo_123 : decode cX12_laysTwo 123 = .ok (.if_icmp .le 11, 3) := by decide +kernel
theorem dX12_laysTwo_126 : decode cX12_laysTwo 126 = .ok (.iload 5, 2) := by decide +kernel
theorem dX12_laysTwo_128 : decode cX12_laysTwo 128 = .ok (.iload 6, 2) := by decide +kernel
theorem dX12_laysTwo_130 : decode cX12_laysTwo 130 = .ok (.isub, 1) := by decide +kernel
theorem dX12_laysTwo_131 : decode cX12_laysTwo 131 = .ok (.goto 8, 3) := by decide +kernel
theorem dX12_laysTwo_134 : decode cX12_laysTwo 134 = .ok (.iload 6, 2) := by decide +kernel
theorem dX12_laysTwo_136 : decode cX12_laysTwo 136 = .ok (.iload 5, 2) := by decide +kernel
theorem dX12_laysTwo_138 : decode cX12_laysTwo 138 = .ok (.isub, 1) := by decide +kernel
theorem dX12_laysTwo_139 : decode cX12_laysTwo 139 = .ok (.iastore, 1) := by decide +kernel
theorem dX12_laysTwo_140 : decode cX12_laysTwo 140 = .ok (.aload_n 0, 1) := by decide +kernel
theorem dX12_laysTwo_141 : decode cX12_laysTwo 141 = .ok (.getfield 30, 3) := by decide +kernel
theorem dX12_laysTwo_144 : decode cX12_laysTwo 144 = .ok (.iconst 5, 1) := by decide +kernel
theorem dX12_laysTwo_145 : decode cX12_laysTwo 145 = .ok (.iload 5, 2) := by decide +kernel
theorem dX12_laysTwo_147 : decode cX12_laysTwo 147 = .ok (.iload 6, 2) := by decide +kernel
theorem dX12_laysTwo_149 : decode cX12_laysTwo 149 = .ok (.if_icmp .le 8, 3) := by decide +kernel
theorem dX12_laysTwo_152 : decode cX12_laysTwo 152 = .ok (.iload 5, 2) := by decide +kernel
theorem dX12_laysTwo_154 : decode cX12_laysTwo 154 = .ok (.goto 5, 3) := by decide +kernel
theorem dX12_laysTwo_157 : decode cX12_laysTwo 157 = .ok (.iload 6, 2) := by decide +kernel
theorem dX12_laysTwo_159 : decode cX12_laysTwo 159 = .ok (.iastore, 1) := by decide +kernel
theorem dX12_laysTwo_160 : decode cX12_laysTwo 160 = .ok (.aload_n 0, 1) := by decide +kernel
theorem dX12_laysTwo_161 : decode cX12_laysTwo 161 = .ok (.getfield 30, 3) := by decide +kernel
theorem dX12_laysTwo_164 : decode cX12_laysTwo 164 = .ok (.bipush 6, 2) := by decide +kernel
theorem dX12_laysTwo_166 : decode cX12_laysTwo 166 = .ok (.aload_n 0, 1) := by decide +kernel
theorem dX12_laysTwo_167 : decode cX12_laysTwo 167 = .ok (.getfield 13, 3) := by decide +kernel
theorem dX12_laysTwo_170 : decode cX12_laysTwo 170 = .ok (.sipush 161, 3) := by decide +kernel
theorem dX12_laysTwo_173 : decode cX12_laysTwo 173 = .ok (.iaload, 1) := by decide +kernel
theorem dX12_laysTwo_174 : decode cX12_laysTwo 174 = .ok (.iastore, 1) := by decide +kernel
theorem dX12_laysTwo_175 : decode cX12_laysTwo 175 = .ok (.return_, 1) := by decide +kernel
set_option maxRecDepth 100000 in
set_option maxHeartbeats 4000000 in
theorem v_X12_laysTwo_b159 {l : Launch} {p : Program} {e : Env} {s : State} {mt : MethodId} {args : Array Value} {below : List Frame} {meth : Method} {c : Code} {A : Nat → Prop} {ad0 : Nat → Nat} {G : Gt}  (C : Cx G p s mt args meth c RX12 cX12_laysTwo 7 none "laysTwo" A)  (z0 : Int32) (z1 : Int32) (m : Mem) : V G SM oV l p e s mt args below meth c 7 4 A ad0 17 17 RM 17 RM 159 [(0, .ref 0)] [.int z0, .int z1, .ref 5] m (X12_laysTwo_b159  z0 z1 m) := by
  rw [X12_laysTwo_b159]
  refine V.iast (pc := 159) C sM5 kM5 dX12_laysTwo_159 (fun _ => ?_)
  refine V.ltm (fun m_24 => ?_)
  refine V.aload_n (pc := 160) C dX12_laysTwo_160 0 rfl ?_
  refine V.getr (pc := 161) C fl_RX12_30 sM0 kM0 rfl rM0_15 dX12_laysTwo_161 ?_
  refine V.bipush (pc := 164) C dX12_laysTwo_164 (v := 6) (by decide) ?_
  refine V.aload_n (pc := 166) C dX12_laysTwo_166 0 rfl ?_
  refine V.getr (pc := 167) C fl_RX12_13 sM0 kM0 rfl rM0_1 dX12_laysTwo_167 ?_
  refine V.sipush (pc := 170) C dX12_laysTwo_170 (v := 161) (by decide) ?_
  refine V.iald (pc := 173) C sM1 kM1 dX12_laysTwo_173 (fun _ => ?_)
  refine V.iast (pc := 174) C sM5 kM5 dX12_laysTwo_174 (fun _ => ?_)
  refine V.ltm (fun m_25 => ?_)
  exact V.vret C dX12_laysTwo_175
set_option maxRecDepth 100000 in
set_option maxHeartbeats 4000000 in
theorem v_X12_laysTwo_b139 {l : Launch} {p : Program} {e : Env} {s : State} {mt : MethodId} {args : Array Value} {below : List Frame} {meth : Method} {c : Code} {A : Nat → Prop} {ad0 : Nat → Nat} {G : Gt}  (C : Cx G p s mt args meth c RX12 cX12_laysTwo 7 none "laysTwo" A)  (y5 : Int32) (y6 : Int32) (z0 : Int32) (z1 : Int32) (m : Mem) : V G SM oV l p e s mt args below meth c 7 4 A ad0 17 17 RM 17 RM 139 [(0, .ref 0), (5, .int y5), (6, .int y6)] [.int z0, .int z1, .ref 5] m (X12_laysTwo_b139  y5 y6 z0 z1 m) := by
  rw [X12_laysTwo_b139]
  refine V.iast (pc := 139) C sM5 kM5 dX12_laysTwo_139 (fun _ => ?_)
  refine V.ltm (fun m_23 => ?_)
  refine V.aload_n (pc := 140) C dX12_laysTwo_140 0 rfl ?_
  refine V.getr (pc := 141) C fl_RX12_30 sM0 kM0 rfl rM0_15 dX12_laysTwo_141 ?_
  refine V.iconst (pc := 144) C dX12_laysTwo_144 (v := 5) (by decide) ?_
  refine V.iload (pc := 145) C dX12_laysTwo_145 1 rfl ?_
  refine V.iload (pc := 147) C dX12_laysTwo_147 2 rfl ?_
  refine V.icmp_le (pc := 149) C dX12_laysTwo_149 157 (by decide) (fun _ => ?_) (fun _ => ?_)
  · refine V.iload (pc := 157) C dX12_laysTwo_157 2 rfl ?_
    refine V.wk [0] rfl ?_
    exact v_X12_laysTwo_b159 C  y6 5 m_23
  · refine V.iload (pc := 152) C dX12_laysTwo_152 1 rfl ?_
    refine V.goto (pc := 154) C dX12_laysTwo_154 159 (by decide) ?_
    refine V.wk [0] rfl ?_
    exact v_X12_laysTwo_b159 C  y5 5 m_23
set_option maxRecDepth 100000 in
set_option maxHeartbeats 4000000 in
theorem v_X12_laysTwo {l : Launch} {p : Program} {e : Env} {s : State} {mt : MethodId} {args : Array Value} {below : List Frame} {meth : Method} {c : Code} {A : Nat → Prop} {ad0 : Nat → Nat} {G : Gt}  (C : Cx G p s mt args meth c RX12 cX12_laysTwo 7 none "laysTwo" A)  (x1 : Int32) (x2 : Int32) (m : Mem) : V G SM oV l p e s mt args below meth c 7 4 A ad0 17 17 RM 17 RM 0 [(0, .ref 0), (1, .int x1), (2, .int x2)] [] m (X12_laysTwo  x1 x2 m) := by
  rw [X12_laysTwo]
  refine V.aload_n (pc := 0) C dX12_laysTwo_0 0 rfl ?_
  refine V.iload_n (pc := 1) C dX12_laysTwo_1 1 rfl ?_
  refine V.callV (pc := 2) (st := []) C (c_X12_listOf l x1 m) obI ck_X12_listOf ml_RX12_207 rfl rfl sM0 kM0 rfl rfl (Nat.le_of_ble_eq_true rfl) ⟨by decide, by decide⟩ dX12_laysTwo_2 (fun r_1 m_2 _ => ?_)
  refine V.istore_n (pc := 5) C dX12_laysTwo_5 (L2 := [(3, .int r_1), (0, .ref 0), (1, .int x1), (2, .int x2)]) (by decide) rfl ?_
  refine V.aload_n (pc := 6) C dX12_laysTwo_6 1 rfl ?_
  refine V.iload_n (pc := 7) C dX12_laysTwo_7 3 rfl ?_
  refine V.callV (pc := 8) (st := []) C (c_X12_listOf l x2 m_2) obI ck_X12_listOf ml_RX12_207 rfl rfl sM0 kM0 rfl rfl (Nat.le_of_ble_eq_true rfl) ⟨by decide, by decide⟩ dX12_laysTwo_8 (fun r_3 m_4 _ => ?_)
  refine V.istore (pc := 11) C dX12_laysTwo_11 (L2 := [(4, .int r_3), (3, .int r_1), (0, .ref 0), (1, .int x1), (2, .int x2)]) (by decide) rfl ?_
  refine V.aload_n (pc := 13) C dX12_laysTwo_13 2 rfl ?_
  refine V.getr (pc := 14) C fl_RX12_13 sM0 kM0 rfl rM0_1 dX12_laysTwo_14 ?_
  refine V.bipush (pc := 17) C dX12_laysTwo_17 (v := 33) (by decide) ?_
  refine V.iload_n (pc := 19) C dX12_laysTwo_19 3 rfl ?_
  refine V.iadd (pc := 20) C dX12_laysTwo_20 ?_
  refine V.iald (pc := 21) C sM1 kM1 dX12_laysTwo_21 (fun _ => ?_)
  refine V.lti (fun x_5 _ => ?_)
  refine V.istore (pc := 22) C dX12_laysTwo_22 (L2 := [(5, .int x_5), (4, .int r_3), (3, .int r_1), (0, .ref 0), (1, .int x1), (2, .int x2)]) (by decide) rfl ?_
  refine V.aload_n (pc := 24) C dX12_laysTwo_24 3 rfl ?_
  refine V.getr (pc := 25) C fl_RX12_13 sM0 kM0 rfl rM0_1 dX12_laysTwo_25 ?_
  refine V.bipush (pc := 28) C dX12_laysTwo_28 (v := 33) (by decide) ?_
  refine V.iload_n (pc := 30) C dX12_laysTwo_30 5 rfl ?_
  refine V.iadd (pc := 31) C dX12_laysTwo_31 ?_
  refine V.iald (pc := 32) C sM1 kM1 dX12_laysTwo_32 (fun _ => ?_)
  refine V.lti (fun x_6 _ => ?_)
  refine V.istore (pc := 33) C dX12_laysTwo_33 (L2 := [(6, .int x_6), (5, .int x_5), (4, .int r_3), (3, .int r_1), (0, .ref 0), (1, .int x1), (2, .int x2)]) (by decide) rfl ?_
  refine V.aload_n (pc := 35) C dX12_laysTwo_35 4 rfl ?_
  refine V.getr (pc := 36) C fl_RX12_30 sM0 kM0 rfl rM0_15 dX12_laysTwo_36 ?_
  refine V.iconst (pc := 39) C dX12_laysTwo_39 (v := 0) (by decide) ?_
  refine V.iload_n (pc := 40) C dX12_laysTwo_40 3 rfl ?_
  refine V.iload (pc := 41) C dX12_laysTwo_41 2 rfl ?_
  refine V.iand (pc := 43) C dX12_laysTwo_43 ?_
  refine V.callS (pc := 44) (st := [.int 0, .ref 5]) C (c_X12_bitsOf l (r_1 &&& r_3) m_4) obI ck_X12_bitsOf ml_RX12_201 rfl rfl (Nat.le_of_ble_eq_true rfl) ⟨by decide, by decide⟩ dX12_laysTwo_44 (fun r_7 m_8 _ => ?_)
  refine V.iast (pc := 47) C sM5 kM5 dX12_laysTwo_47 (fun _ => ?_)
  refine V.ltm (fun m_9 => ?_)
  refine V.aload_n (pc := 48) C dX12_laysTwo_48 4 rfl ?_
  refine V.getr (pc := 49) C fl_RX12_30 sM0 kM0 rfl rM0_15 dX12_laysTwo_49 ?_
  refine V.iconst (pc := 52) C dX12_laysTwo_52 (v := 1) (by decide) ?_
  refine V.aload_n (pc := 53) C dX12_laysTwo_53 4 rfl ?_
  refine V.iload_n (pc := 54) C dX12_laysTwo_54 3 rfl ?_
  refine V.iload (pc := 55) C dX12_laysTwo_55 2 rfl ?_
  refine V.iand (pc := 57) C dX12_laysTwo_57 ?_
  refine V.callV (pc := 58) (st := [.int 1, .ref 5]) C (c_X12_rareOfAll l (r_1 &&& r_3) m_9) obI ck_X12_rareOfAll ml_RX12_216 rfl rfl sM0 kM0 rfl rfl (Nat.le_of_ble_eq_true rfl) ⟨by decide, by decide⟩ dX12_laysTwo_58 (fun r_10 m_11 _ => ?_)
  refine V.iast (pc := 61) C sM5 kM5 dX12_laysTwo_61 (fun _ => ?_)
  refine V.ltm (fun m_12 => ?_)
  refine V.aload_n (pc := 62) C dX12_laysTwo_62 4 rfl ?_
  refine V.getr (pc := 63) C fl_RX12_30 sM0 kM0 rfl rM0_15 dX12_laysTwo_63 ?_
  refine V.iconst (pc := 66) C dX12_laysTwo_66 (v := 2) (by decide) ?_
  refine V.iload_n (pc := 67) C dX12_laysTwo_67 3 rfl ?_
  refine V.aload_n (pc := 68) C dX12_laysTwo_68 4 rfl ?_
  refine V.getr (pc := 69) C fl_RX12_13 sM0 kM0 rfl rM0_1 dX12_laysTwo_69 ?_
  refine V.bipush (pc := 72) C dX12_laysTwo_72 (v := 25) (by decide) ?_
  refine V.iload_n (pc := 74) C dX12_laysTwo_74 6 rfl ?_
  refine V.iadd (pc := 75) C dX12_laysTwo_75 ?_
  refine V.iald (pc := 76) C sM1 kM1 dX12_laysTwo_76 (fun _ => ?_)
  refine V.iand (pc := 77) C dX12_laysTwo_77 ?_
  refine V.callS (pc := 78) (st := [.int 2, .ref 5]) C (c_X12_bitsOf l (r_1 &&& (gi m_12 1 (ix (25 + x2)))) m_12) obI ck_X12_bitsOf ml_RX12_201 rfl rfl (Nat.le_of_ble_eq_true rfl) ⟨by decide, by decide⟩ dX12_laysTwo_78 (fun r_13 m_14 _ => ?_)
  refine V.iload (pc := 81) C dX12_laysTwo_81 2 rfl ?_
  refine V.aload_n (pc := 83) C dX12_laysTwo_83 4 rfl ?_
  refine V.getr (pc := 84) C fl_RX12_13 sM0 kM0 rfl rM0_1 dX12_laysTwo_84 ?_
  refine V.bipush (pc := 87) C dX12_laysTwo_87 (v := 25) (by decide) ?_
  refine V.iload_n (pc := 89) C dX12_laysTwo_89 5 rfl ?_
  refine V.iadd (pc := 90) C dX12_laysTwo_90 ?_
  refine V.iald (pc := 91) C sM1 kM1 dX12_laysTwo_91 (fun _ => ?_)
  refine V.iand (pc := 92) C dX12_laysTwo_92 ?_
  refine V.callS (pc := 93) (st := [.int r_13, .int 2, .ref 5]) C (c_X12_bitsOf l (r_3 &&& (gi m_14 1 (ix (25 + x1)))) m_14) obI ck_X12_bitsOf ml_RX12_201 rfl rfl (Nat.le_of_ble_eq_true rfl) ⟨by decide, by decide⟩ dX12_laysTwo_93 (fun r_15 m_16 _ => ?_)
  refine V.iadd (pc := 96) C dX12_laysTwo_96 ?_
  refine V.iast (pc := 97) C sM5 kM5 dX12_laysTwo_97 (fun _ => ?_)
  refine V.ltm (fun m_17 => ?_)
  refine V.aload_n (pc := 98) C dX12_laysTwo_98 4 rfl ?_
  refine V.getr (pc := 99) C fl_RX12_30 sM0 kM0 rfl rM0_15 dX12_laysTwo_99 ?_
  refine V.iconst (pc := 102) C dX12_laysTwo_102 (v := 3) (by decide) ?_
  refine V.iload_n (pc := 103) C dX12_laysTwo_103 3 rfl ?_
  refine V.callS (pc := 104) (st := [.int 3, .ref 5]) C (c_X12_bitsOf l r_1 m_17) obI ck_X12_bitsOf ml_RX12_201 rfl rfl (Nat.le_of_ble_eq_true rfl) ⟨by decide, by decide⟩ dX12_laysTwo_104 (fun r_18 m_19 _ => ?_)
  refine V.iload (pc := 107) C dX12_laysTwo_107 2 rfl ?_
  refine V.callS (pc := 109) (st := [.int r_18, .int 3, .ref 5]) C (c_X12_bitsOf l r_3 m_19) obI ck_X12_bitsOf ml_RX12_201 rfl rfl (Nat.le_of_ble_eq_true rfl) ⟨by decide, by decide⟩ dX12_laysTwo_109 (fun r_20 m_21 _ => ?_)
  refine V.iadd (pc := 112) C dX12_laysTwo_112 ?_
  refine V.iast (pc := 113) C sM5 kM5 dX12_laysTwo_113 (fun _ => ?_)
  refine V.ltm (fun m_22 => ?_)
  refine V.aload_n (pc := 114) C dX12_laysTwo_114 4 rfl ?_
  refine V.getr (pc := 115) C fl_RX12_30 sM0 kM0 rfl rM0_15 dX12_laysTwo_115 ?_
  refine V.iconst (pc := 118) C dX12_laysTwo_118 (v := 4) (by decide) ?_
  refine V.iload (pc := 119) C dX12_laysTwo_119 1 rfl ?_
  refine V.iload (pc := 121) C dX12_laysTwo_121 0 rfl ?_
  refine V.icmp_le (pc := 123) C dX12_laysTwo_123 134 (by decide) (fun _ => ?_) (fun _ => ?_)
  · refine V.iload (pc := 134) C dX12_laysTwo_134 0 rfl ?_
    refine V.iload (pc := 136) C dX12_laysTwo_136 1 rfl ?_
    refine V.isub (pc := 138) C dX12_laysTwo_138 ?_
    refine V.wk [4, 1, 0] rfl ?_
    exact v_X12_laysTwo_b139 C  x_5 x_6 (x_6 - x_5) 4 m_22
  · refine V.iload (pc := 126) C dX12_laysTwo_126 1 rfl ?_
    refine V.iload (pc := 128) C dX12_laysTwo_128 0 rfl ?_
    refine V.isub (pc := 130) C dX12_laysTwo_130 ?_
    refine V.goto (pc := 131) C dX12_laysTwo_131 139 (by decide) ?_
    refine V.wk [4, 1, 0] rfl ?_
    exact v_X12_laysTwo_b139 C  x_5 x_6 (x_5 - x_6) 4 m_22
theorem c_X12_laysTwo (l : Launch)   (x1 : Int32) (x2 : Int32) (m : Mem) : Ct l yX12_laysTwo cX12_laysTwo 7 none 4 SM oV 17 17 RM RM [.ref 0, .int x1, .int x2] m (X12_laysTwo  x1 x2 m) :=
  Ct.of (own := RX12) (nm := "laysTwo") (by decide) rfl rfl (Nat.le_of_ble_eq_true rfl) (fun _ _ _ _ _ _ _ _ _ _ _ C => v_X12_laysTwo C  x1 x2 m)
theorem dX12_reckons_0 : decode cX12_reckons 0 = .ok (.iconst 0, 1) := by decide +kernel
theorem dX12_reckons_1 : decode cX12_reckons 1 = .ok (.istore_n 2, 1) := by decide +kernel
theorem dX12_reckons_2 : decode cX12_reckons 2 = .ok (.iconst 0, 1) := by decide +kernel
theorem dX12_reckons_3 : decode cX12_reckons 3 = .ok (.istore_n 3, 1) := by decide +kernel
theorem dX12_reckons_4 : decode cX12_reckons 4 = .ok (.iload_n 3, 1) := by decide +kernel
theorem dX12_reckons_5 : decode cX12_reckons 5 = .ok (.aload_n 0, 1) := by decide +kernel
theorem dX12_reckons_6 : decode cX12_reckons 6 = .ok (.getfield 13, 3) := by decide +kernel
theorem dX12_reckons_9 : decode cX12_reckons 9 = .ok (.bipush 9, 2) := by decide +kernel
theorem dX12_reckons_11 : decode cX12_reckons 11 = .ok (.iload_n 1, 1) := by decide +kernel
theorem dX12_reckons_12 : decode cX12_reckons 12 = .ok (.iadd, 1) := by decide +kernel
theorem dX12_reckons_13 : decode cX12_reckons 13 = .ok (.iaload, 1) := by decide +kernel
theorem dX12_reckons_14 : decode cX12_reckons 14 = .ok (.if_icmp .ge 134, 3) := by decide +kernel
theorem dX12_reckons_17 : decode cX12_reckons 17 = .ok (.aload_n 0, 1) := by decide +kernel
theorem dX12_reckons_18 : decode cX12_reckons 18 = .ok (.getfield 13, 3) := by decide +kernel
theorem dX12_reckons_21 : decode cX12_reckons 21 = .ok (.sipush 1196, 3) := by decide +kernel
theorem dX12_reckons_24 : decode cX12_reckons 24 = .ok (.aload_n 0, 1) := by decide +kernel
theorem dX12_reckons_25 : decode cX12_reckons 25 = .ok (.getfield 13, 3) := by decide +kernel
theorem dX12_reckons_28 : decode cX12_reckons 28 = .ok (.bipush 7, 2) := by decide +kernel
theorem dX12_reckons_30 : decode cX12_reckons 30 = .ok (.iload_n 1, 1) := by decide +kernel
theorem dX12_reckons_31 : decode cX12_reckons 31 = .ok (.iadd, 1) := by decide +kernel
theorem dX12_reckons_32 : decode cX12_reckons 32 = .ok (.iaload, 1) := by decide +kernel
theorem dX12_reckons_33 : decode cX12_reckons 33 = .ok (.iadd, 1) := by decide +kernel
theorem dX12_reckons_34 : decode cX12_reckons 34 = .ok (.iload_n 3, 1) := by decide +kernel
theorem dX12_reckons_35 : decode cX12_reckons 35 = .ok (.iadd, 1) := by decide +kernel
theorem dX12_reckons_36 : decode cX12_reckons 36 = .ok (.iaload, 1) := by decide +kernel
theorem dX12_reckons_37 : decode cX12_reckons 37 = .ok (.istore 4, 2) := by decide +kernel
theorem dX12_reckons_39 : decode cX12_reckons 39 = .ok (.iload 4, 2) := by decide +kernel
theorem dX12_reckons_41 : decode cX12_reckons 41 = .ok (.sipush 3000, 3) := by decide +kernel
theorem dX12_reckons_44 : decode cX12_reckons 44 = .ok (.if_icmp .ge 39, 3) := by decide +kernel
theorem dX12_reckons_47 : decode cX12_reckons 47 = .ok (.aload_n 0, 1) := by decide +kernel
theorem dX12_reckons_48 : decode cX12_reckons 48 = .ok (.getfield 33, 3) := by decide +kernel
theorem dX12_reckons_51 : decode cX12_reckons 51 = .ok (.iload_n 2, 1) := by decide +kernel
theorem dX12_reckons_52 : decode cX12_reckons 52 = .ok (.iload 4, 2) := by decide +kernel
theorem dX12_reckons_54 : decode cX12_reckons 54 = .ok (.sipush 1000, 3) := by decide +kernel
theorem dX12_reckons_57 : decode cX12_reckons 57 = .ok (.if_icmp .ge 8, 3) := by decide +kernel
theorem dX12_reckons_60 : decode cX12_reckons 60 = .ok (.iload 4, 2) := by decide +kernel
theorem dX12_reckons_62 : decode cX12_reckons 62 = .ok (.goto 14, 3) := by decide +kernel
theorem dX12_reckons_65 : decode cX12_reckons 65 = .ok (.aload_n 0, 1) := by decide +kernel
theorem dX12_reckons_66 : decode cX12_reckons 66 = .ok (.getfield 30, 3) := by decide +kernel
theorem dX12_reckons_69 : decode cX12_reckons 69 = .ok (.iload 4, 2) := by decide +kernel
theorem dX12_reckons_71 : decode cX12_reckons 71 = .ok (.sipush 1000, 3) := by decide +kernel
theorem dX12_reckons_74 : decode cX12_reckons 74 = .ok (.isub, 1) := by decide +kernel
theorem dX12_reckons_75 : decode cX12_reckons 75 = .ok (.iaload, 1) := by decide +kernel
theorem dX12_reckons_76 : decode cX12_reckons 76 = .ok (.iastore, 1) := by decide +kernel
theorem dX12_reckons_77 : decode cX12_reckons 77 = .ok (.iinc 2 1, 3) := by decide +kernel
theorem dX12_reckons_80 : decode cX12_reckons 80 = .ok (.goto 62, 3) := by decide +kernel
theorem dX12_reckons_83 : decode cX12_reckons 83 = .ok (.iload 4, 2) := by decide +kernel
theorem dX12_reckons_85 : decode cX12_reckons 85 = .ok (.sipush 3008, 3) := by decide +kernel
theorem dX12_reckons_88 : decode cX12_reckons 88 = .ok (.if_icmp .ne 24, 3) := by decide +kernel
theorem dX12_reckons_91 : decode cX12_reckons 91 = .ok (.aload_n 0, 1) := by decide +kernel
theorem dX12_reckons_92 : decode cX12_reckons 92 = .ok (.getfield 33, 3) := by decide +kernel
theorem dX12_reckons_95 : decode cX12_reckons 95 = .ok (.iload_n 2, 1) := by decide +kernel
theorem dX12_reckons_96 : decode cX12_reckons 96 = .ok (.iconst 1, 1) := by decide +kernel
theorem dX12_reckons_97 : decode cX12_reckons 97 = .ok (.isub, 1) := by decide +kernel
theorem dX12_reckons_98 : decode cX12_reckons 98 = .ok (.iconst 1, 1) := by decide +kernel
theorem dX12_reckons_99 : decode cX12_reckons 99 = .ok (.aload_n 0, 1) := by decide +kernel
theorem dX12_reckons_100 : decode cX12_reckons 100 = .ok (.getfield 33, 3) := by decide +kernel
theorem dX12_reckons_103 : decode cX12_reckons 103 = .ok (.iload_n 2, 1) := by decide +kernel
theorem dX12_reckons_104 : decode cX12_reckons 104 = .ok (.iconst 1, 1) := by decide +kernel
theorem dX12_reckons_105 : decode cX12_reckons 105 = .ok (.isub, 1) := by decide +kernel
theorem dX12_reckons_106 : decode cX12_reckons 106 = .ok (.iaload, 1) := by decide +kernel
theorem dX12_reckons_107 : decode cX12_reckons 107 = .ok (.isub, 1) := by decide +kernel
theorem dX12_reckons_108 : decode cX12_reckons 108 = .ok (.iastore, 1) := by decide +kernel
theorem dX12_reckons_109 : decode cX12_reckons 109 = .ok (.goto 33, 3) := by decide +kernel
theorem dX12_reckons_112 : decode cX12_reckons 112 = .ok (.iinc 2 (-1), 3) := by decide +kernel
theorem dX12_reckons_115 : decode cX12_reckons 115 = .ok (.aload_n 0, 1) := by decide +kernel
theorem dX12_reckons_116 : decode cX12_reckons 116 = .ok (.getfield 33, 3) := by decide +kernel
theorem dX12_reckons_119 : decode cX12_reckons 119 = .ok (.iload_n 2, 1) := by decide +kernel
theorem dX12_reckons_120 : decode cX12_reckons 120 = .ok (.iconst 1, 1) := by decide +kernel
theorem dX12_reckons_121 : decode cX12_reckons 121 = .ok (.isub, 1) := by decide +kernel
theorem dX12_reckons_122 : decode cX12_reckons 122 = .ok (.iload 4, 2) := by decide +kernel
theorem dX12_reckons_124 : decode cX12_reckons 124 = .ok (.aload_n 0, 1) := by decide +kernel
theorem dX12_reckons_125 : decode cX12_reckons 125 = .ok (.getfield 33, 3) := by decide +kernel
theorem dX12_reckons_128 : decode cX12_reckons 128 = .ok (.iload_n 2, 1) := by decide +kernel
theorem dX12_reckons_129 : decode cX12_reckons 129 = .ok (.iconst 1, 1) := by decide +kernel
theorem dX12_reckons_130 : decode cX12_reckons 130 = .ok (.isub, 1) := by decide +kernel
theorem dX12_reckons_131 : decode cX12_reckons 131 = .ok (.iaload, 1) := by decide +kernel
theorem dX12_reckons_132 : decode cX12_reckons 132 = .ok (.aload_n 0, 1) := by decide +kernel
theorem dX12_reckons_133 : decode cX12_reckons 133 = .ok (.getfield 33, 3) := by decide +kernel
theorem dX12_reckons_136 : decode cX12_reckons 136 = .ok (.iload_n 2, 1) := by decide +kernel
theorem dX12_reckons_137 : decode cX12_reckons 137 = .ok (.iaload, 1) := by decide +kernel
theorem dX12_reckons_138 : decode cX12_reckons 138 = .ok (.invokestatic 223, 3) := by decide +kernel
theorem dX12_reckons_141 : decode cX12_reckons 141 = .ok (.iastore, 1) := by decide +kernel
theorem dX12_reckons_142 : decode cX12_reckons 142 = .ok (.iinc 3 1, 3) := by decide +kernel
theorem dX12_reckons_145 : decode cX12_reckons 145 = .ok (.goto (-141), 3) := by decide +kernel
theorem dX12_reckons_148 : decode cX12_reckons 148 = .ok (.aload_n 0, 1) := by decide +kernel
theorem dX12_reckons_149 : decode cX12_reckons 149 = .ok (.getfield 33, 3) := by decide +kernel
theorem dX12_reckons_152 : decode cX12_reckons 152 = .ok (.iconst 0, 1) := by decide +kernel
theorem dX12_reckons_153 : decode cX12_reckons 153 = .ok (.iaload, 1) := by decide +kernel
theorem dX12_reckons_154 : decode cX12_reckons 154 = .ok (.ireturn, 1) := by decide +kernel
set_option maxRecDepth 100000 in
set_option maxHeartbeats 4000000 in
theorem v_X12_reckons_b76 {l : Launch} {p : Program} {e : Env} {s : State} {mt : MethodId} {args : Array Value} {below : List Frame} {meth : Method} {c : Code} {A : Nat → Prop} {ad0 : Nat → Nat} {G : Gt}  (C : Cx G p s mt args meth c RX12 cX12_reckons 5 (some .int) "reckons" A) (k4 : Int32 → Int32 → Int32 → Mem → Option (Int32 × Mem)) (h4 : ∀ (y1 : Int32) (y2 : Int32) (y3 : Int32) (m : Mem), V G SM oI l p e s mt args below meth c 5 2 A ad0 17 17 RM 17 RM 4 [(0, .ref 0), (1, .int y1), (2, .int y2), (3, .int y3)] [] m (k4 y1 y2 y3 m)) (y1 : Int32) (y2 : Int32) (y3 : Int32) (z0 : Int32) (z1 : Int32) (m : Mem) : V G SM oI l p e s mt args below meth c 5 2 A ad0 17 17 RM 17 RM 76 [(0, .ref 0), (1, .int y1), (2, .int y2), (3, .int y3)] [.int z0, .int z1, .ref 6] m (X12_reckons_b76 k4 y1 y2 y3 z0 z1 m) := by
  rw [X12_reckons_b76]
  refine V.iast (pc := 76) C sM6 kM6 dX12_reckons_76 (fun _ => ?_)
  refine V.ltm (fun m_6 => ?_)
  refine V.iinc (pc := 77) C dX12_reckons_77 (v := 1) (L2 := [(2, .int (y2 + 1)), (0, .ref 0), (1, .int y1), (3, .int y3)]) 2 rfl (by decide) (by decide) rfl ?_
  refine V.goto (pc := 80) C dX12_reckons_80 142 (by decide) ?_
  refine V.iinc (pc := 142) C dX12_reckons_142 (v := 1) (L2 := [(3, .int (y3 + 1)), (2, .int (y2 + 1)), (0, .ref 0), (1, .int y1)]) 3 rfl (by decide) (by decide) rfl ?_
  refine V.goto (pc := 145) C dX12_reckons_145 4 (by decide) ?_
  refine V.wk [2, 3, 1, 0] rfl ?_
  exact h4 y1 (y2 + 1) (y3 + 1) m_6
set_option maxRecDepth 100000 in
set_option maxHeartbeats 4000000 in
theorem v_X12_reckons_b4 {l : Launch} {p : Program} {e : Env} {s : State} {mt : MethodId} {args : Array Value} {below : List Frame} {meth : Method} {c : Code} {A : Nat → Prop} {ad0 : Nat → Nat} {G : Gt}  (C : Cx G p s mt args meth c RX12 cX12_reckons 5 (some .int) "reckons" A)  : ∀ (n : Nat) (y1 : Int32) (y2 : Int32) (y3 : Int32) (m : Mem), V G SM oI l p e s mt args below meth c 5 2 A ad0 17 17 RM 17 RM 4 [(0, .ref 0), (1, .int y1), (2, .int y2), (3, .int y3)] [] m (X12_reckons_b4  n y1 y2 y3 m) := by
  intro n
  induction n with
  | zero =>
    intro y1 y2 y3 m
    rw [X12_reckons_b4]
    exact V.nil
  | succ n ih =>
    intro y1 y2 y3 m
    rw [X12_reckons_b4]
    refine V.iload_n (pc := 4) C dX12_reckons_4 3 rfl ?_
    refine V.aload_n (pc := 5) C dX12_reckons_5 0 rfl ?_
    refine V.getr (pc := 6) C fl_RX12_13 sM0 kM0 rfl rM0_1 dX12_reckons_6 ?_
    refine V.bipush (pc := 9) C dX12_reckons_9 (v := 9) (by decide) ?_
    refine V.iload_n (pc := 11) C dX12_reckons_11 1 rfl ?_
    refine V.iadd (pc := 12) C dX12_reckons_12 ?_
    refine V.iald (pc := 13) C sM1 kM1 dX12_reckons_13 (fun _ => ?_)
    refine V.icmp_ge (pc := 14) C dX12_reckons_14 148 (by decide) (fun _ => ?_) (fun _ => ?_)
    · refine V.aload_n (pc := 148) C dX12_reckons_148 0 rfl ?_
      refine V.getr (pc := 149) C fl_RX12_33 sM0 kM0 rfl rM0_16 dX12_reckons_149 ?_
      refine V.iconst (pc := 152) C dX12_reckons_152 (v := 0) (by decide) ?_
      refine V.iald (pc := 153) C sM6 kM6 dX12_reckons_153 (fun _ => ?_)
      exact V.iret C dX12_reckons_154
    · refine V.aload_n (pc := 17) C dX12_reckons_17 0 rfl ?_
      refine V.getr (pc := 18) C fl_RX12_13 sM0 kM0 rfl rM0_1 dX12_reckons_18 ?_
      refine V.sipush (pc := 21) C dX12_reckons_21 (v := 1196) (by decide) ?_
      refine V.aload_n (pc := 24) C dX12_reckons_24 0 rfl ?_
      refine V.getr (pc := 25) C fl_RX12_13 sM0 kM0 rfl rM0_1 dX12_reckons_25 ?_
      refine V.bipush (pc := 28) C dX12_reckons_28 (v := 7) (by decide) ?_
      refine V.iload_n (pc := 30) C dX12_reckons_30 1 rfl ?_
      refine V.iadd (pc := 31) C dX12_reckons_31 ?_
      refine V.iald (pc := 32) C sM1 kM1 dX12_reckons_32 (fun _ => ?_)
      refine V.iadd (pc := 33) C dX12_reckons_33 ?_
      refine V.iload_n (pc := 34) C dX12_reckons_34 3 rfl ?_
      refine V.iadd (pc := 35) C dX12_reckons_35 ?_
      refine V.iald (pc := 36) C sM1 kM1 dX12_reckons_36 (fun _ => ?_)
      refine V.lti (fun x_1 _ => ?_)
      refine V.istore (pc := 37) C dX12_reckons_37 (L2 := [(4, .int x_1), (0, .ref 0), (1, .int y1), (2, .int y2), (3, .int y3)]) (by decide) rfl ?_
      refine V.iload (pc := 39) C dX12_reckons_39 0 rfl ?_
      refine V.sipush (pc := 41) C dX12_reckons_41 (v := 3000) (by decide) ?_
      refine V.icmp_ge (pc := 44) C dX12_reckons_44 83 (by decide) (fun _ => ?_) (fun _ => ?_)
      · refine V.iload (pc := 83) C dX12_reckons_83 0 rfl ?_
        refine V.sipush (pc := 85) C dX12_reckons_85 (v := 3008) (by decide) ?_
        refine V.icmp_ne (pc := 88) C dX12_reckons_88 112 (by decide) (fun _ => ?_) (fun _ => ?_)
        · refine V.iinc (pc := 112) C dX12_reckons_112 (v := (-1)) (L2 := [(2, .int (y2 + (-1))), (4, .int x_1), (0, .ref 0), (1, .int y1), (3, .int y3)]) 3 rfl (by decide) (by decide) rfl ?_
          refine V.aload_n (pc := 115) C dX12_reckons_115 2 rfl ?_
          refine V.getr (pc := 116) C fl_RX12_33 sM0 kM0 rfl rM0_16 dX12_reckons_116 ?_
          refine V.iload_n (pc := 119) C dX12_reckons_119 0 rfl ?_
          refine V.iconst (pc := 120) C dX12_reckons_120 (v := 1) (by decide) ?_
          refine V.isub (pc := 121) C dX12_reckons_121 ?_
          refine V.iload (pc := 122) C dX12_reckons_122 1 rfl ?_
          refine V.aload_n (pc := 124) C dX12_reckons_124 2 rfl ?_
          refine V.getr (pc := 125) C fl_RX12_33 sM0 kM0 rfl rM0_16 dX12_reckons_125 ?_
          refine V.iload_n (pc := 128) C dX12_reckons_128 0 rfl ?_
          refine V.iconst (pc := 129) C dX12_reckons_129 (v := 1) (by decide) ?_
          refine V.isub (pc := 130) C dX12_reckons_130 ?_
          refine V.iald (pc := 131) C sM6 kM6 dX12_reckons_131 (fun _ => ?_)
          refine V.aload_n (pc := 132) C dX12_reckons_132 2 rfl ?_
          refine V.getr (pc := 133) C fl_RX12_33 sM0 kM0 rfl rM0_16 dX12_reckons_133 ?_
          refine V.iload_n (pc := 136) C dX12_reckons_136 0 rfl ?_
          refine V.iald (pc := 137) C sM6 kM6 dX12_reckons_137 (fun _ => ?_)
          refine V.callS (pc := 138) (st := [.int ((y2 + (-1)) - 1), .ref 6]) C (c_X12_between l x_1 (gi m 6 (ix ((y2 + (-1)) - 1))) (gi m 6 (ix (y2 + (-1)))) m) obI ck_X12_between ml_RX12_223 rfl rfl (Nat.le_of_ble_eq_true rfl) ⟨by decide, by decide⟩ dX12_reckons_138 (fun r_2 m_3 _ => ?_)
          refine V.iast (pc := 141) C sM6 kM6 dX12_reckons_141 (fun _ => ?_)
          refine V.ltm (fun m_4 => ?_)
          refine V.iinc (pc := 142) C dX12_reckons_142 (v := 1) (L2 := [(3, .int (y3 + 1)), (2, .int (y2 + (-1))), (4, .int x_1), (0, .ref 0), (1, .int y1)]) 4 rfl (by decide) (by decide) rfl ?_
          refine V.goto (pc := 145) C dX12_reckons_145 4 (by decide) ?_
          refine V.wk [3, 4, 1, 0] rfl ?_
          exact ih y1 (y2 + (-1)) (y3 + 1) m_4
        · refine V.aload_n (pc := 91) C dX12_reckons_91 1 rfl ?_
          refine V.getr (pc := 92) C fl_RX12_33 sM0 kM0 rfl rM0_16 dX12_reckons_92 ?_
          refine V.iload_n (pc := 95) C dX12_reckons_95 3 rfl ?_
          refine V.iconst (pc := 96) C dX12_reckons_96 (v := 1) (by decide) ?_
          refine V.isub (pc := 97) C dX12_reckons_97 ?_
          refine V.iconst (pc := 98) C dX12_reckons_98 (v := 1) (by decide) ?_
          refine V.aload_n (pc := 99) C dX12_reckons_99 1 rfl ?_
          refine V.getr (pc := 100) C fl_RX12_33 sM0 kM0 rfl rM0_16 dX12_reckons_100 ?_
          refine V.iload_n (pc := 103) C dX12_reckons_103 3 rfl ?_
          refine V.iconst (pc := 104) C dX12_reckons_104 (v := 1) (by decide) ?_
          refine V.isub (pc := 105) C dX12_reckons_105 ?_
          refine V.iald (pc := 106) C sM6 kM6 dX12_reckons_106 (fun _ => ?_)
          refine V.isub (pc := 107) C dX12_reckons_107 ?_
          refine V.iast (pc := 108) C sM6 kM6 dX12_reckons_108 (fun _ => ?_)
          refine V.ltm (fun m_5 => ?_)
          refine V.goto (pc := 109) C dX12_reckons_109 142 (by decide) ?_
          refine V.iinc (pc := 142) C dX12_reckons_142 (v := 1) (L2 := [(3, .int (y3 + 1)), (4, .int x_1), (0, .ref 0), (1, .int y1), (2, .int y2)]) 4 rfl (by decide) (by decide) rfl ?_
          refine V.goto (pc := 145) C dX12_reckons_145 4 (by decide) ?_
          refine V.wk [2, 3, 4, 0] rfl ?_
          exact ih y1 y2 (y3 + 1) m_5
      · refine V.aload_n (pc := 47) C dX12_reckons_47 1 rfl ?_
        refine V.getr (pc := 48) C fl_RX12_33 sM0 kM0 rfl rM0_16 dX12_reckons_48 ?_
        refine V.iload_n (pc := 51) C dX12_reckons_51 3 rfl ?_
        refine V.iload (pc := 52) C dX12_reckons_52 0 rfl ?_
        refine V.sipush (pc := 54) C dX12_reckons_54 (v := 1000) (by decide) ?_
        refine V.icmp_ge (pc := 57) C dX12_reckons_57 65 (by decide) (fun _ => ?_) (fun _ => ?_)
        · refine V.aload_n (pc := 65) C dX12_reckons_65 1 rfl ?_
          refine V.getr (pc := 66) C fl_RX12_30 sM0 kM0 rfl rM0_15 dX12_reckons_66 ?_
          refine V.iload (pc := 69) C dX12_reckons_69 0 rfl ?_
          refine V.sipush (pc := 71) C dX12_reckons_71 (v := 1000) (by decide) ?_
          refine V.isub (pc := 74) C dX12_reckons_74 ?_
          refine V.iald (pc := 75) C sM5 kM5 dX12_reckons_75 (fun _ => ?_)
          refine V.wk [1, 2, 3, 4] rfl ?_
          exact v_X12_reckons_b76 C (X12_reckons_b4 n) ih y1 y2 y3 (gi m 5 (ix (x_1 - 1000))) y2 m
        · refine V.iload (pc := 60) C dX12_reckons_60 0 rfl ?_
          refine V.goto (pc := 62) C dX12_reckons_62 76 (by decide) ?_
          refine V.wk [1, 2, 3, 4] rfl ?_
          exact v_X12_reckons_b76 C (X12_reckons_b4 n) ih y1 y2 y3 x_1 y2 m
set_option maxRecDepth 100000 in
set_option maxHeartbeats 4000000 in
theorem v_X12_reckons {l : Launch} {p : Program} {e : Env} {s : State} {mt : MethodId} {args : Array Value} {below : List Frame} {meth : Method} {c : Code} {A : Nat → Prop} {ad0 : Nat → Nat} {G : Gt}  (C : Cx G p s mt args meth c RX12 cX12_reckons 5 (some .int) "reckons" A)  (x1 : Int32) (m : Mem) : V G SM oI l p e s mt args below meth c 5 2 A ad0 17 17 RM 17 RM 0 [(0, .ref 0), (1, .int x1)] [] m (X12_reckons  x1 m) := by
  rw [X12_reckons]
  refine V.iconst (pc := 0) C dX12_reckons_0 (v := 0) (by decide) ?_
  refine V.istore_n (pc := 1) C dX12_reckons_1 (L2 := [(2, .int 0), (0, .ref 0), (1, .int x1)]) (by decide) rfl ?_
  refine V.iconst (pc := 2) C dX12_reckons_2 (v := 0) (by decide) ?_
  refine V.istore_n (pc := 3) C dX12_reckons_3 (L2 := [(3, .int 0), (2, .int 0), (0, .ref 0), (1, .int x1)]) (by decide) rfl ?_
  refine V.wk [2, 3, 1, 0] rfl ?_
  exact v_X12_reckons_b4 C  FU x1 0 0 m
theorem c_X12_reckons (l : Launch)   (x1 : Int32) (m : Mem) : Ct l yX12_reckons cX12_reckons 5 (some .int) 2 SM oI 17 17 RM RM [.ref 0, .int x1] m (X12_reckons  x1 m) :=
  Ct.of (own := RX12) (nm := "reckons") (by decide) rfl rfl (Nat.le_of_ble_eq_true rfl) (fun _ _ _ _ _ _ _ _ _ _ _ C => v_X12_reckons C  x1 m)
theorem dX12_goodOf_0 : decode cX12_goodOf 0 = .ok (.aload_n 0, 1) := by decide +kernel
theorem dX12_goodOf_1 : decode cX12_goodOf 1 = .ok (.iload_n 1, 1) := by decide +kernel
theorem dX12_goodOf_2 : decode cX12_goodOf 2 = .ok (.iload_n 2, 1) := by decide +kernel
theorem dX12_goodOf_3 : decode cX12_goodOf 3 = .ok (.invokevirtual 227, 3) := by decide +kernel
theorem dX12_goodOf_6 : decode cX12_goodOf 6 = .ok (.aload_n 0, 1) := by decide +kernel
theorem dX12_goodOf_7 : decode cX12_goodOf 7 = .ok (.getfield 13, 3) := by decide +kernel
theorem dX12_goodOf_10 : decode cX12_goodOf 10 = .ok (.iconst 5, 1) := by decide +kernel
theorem dX12_goodOf_11 : decode cX12_goodOf 11 = .ok (.iaload, 1) := by decide +kernel
theorem dX12_goodOf_12 : decode cX12_goodOf 12 = .ok (.ifCond .ne 21, 3) := by decide +kernel
theorem dX12_goodOf_15 : decode cX12_goodOf 15 = .ok (.aload_n 0, 1) := by decide +kernel
theorem dX12_goodOf_16 : decode cX12_goodOf 16 = .ok (.getfield 30, 3) := by decide +kernel
theorem dX12_goodOf_19 : decode cX12_goodOf 19 = .ok (.iconst 1, 1) := by decide +kernel
theorem dX12_goodOf_20 : decode cX12_goodOf 20 = .ok (.iaload, 1) := by decide +kernel
theorem dX12_goodOf_21 : decode cX12_goodOf 21 = .ok (.iconst 2, 1) := by decide +kernel
theorem dX12_goodOf_22 : decode cX12_goodOf 22 = .ok (.aload_n 0, 1) := by decide +kernel
theorem dX12_goodOf_23 : decode cX12_goodOf 23 = .ok (.getfield 30, 3) := by decide +kernel
theorem dX12_goodOf_26 : decode cX12_goodOf 26 = .ok (.iconst 2, 1) := by decide +kernel
theorem dX12_goodOf_27 : decode cX12_goodOf 27 = .ok (.iaload, 1) := by decide +kernel
theorem dX12_goodOf_28 : decode cX12_goodOf 28 = .ok (.imul, 1) := by decide +kernel
theorem dX12_goodOf_29 : decode cX12_goodOf 29 = .ok (.isub, 1) := by decide +kernel
theorem dX12_goodOf_30 : decode cX12_goodOf 30 = .ok (.goto 8, 3) := by decide +kernel
theorem dX12_goodOf_33 : decode cX12_goodOf 33 = .ok (.aload_n 0, 1) := by decide +kernel
theorem dX12_goodOf_34 : decode cX12_goodOf 34 = .ok (.iconst 0, 1) := by decide +kernel
theorem dX12_goodOf_35 : decode cX12_goodOf 35 = .ok (.invokevirtual 231, 3) := by decide +kernel
theorem dX12_goodOf_38 : decode cX12_goodOf 38 = .ok (.ireturn, 1) := by decide +kernel
set_option maxRecDepth 100000 in
set_option maxHeartbeats 4000000 in
theorem v_X12_goodOf {l : Launch} {p : Program} {e : Env} {s : State} {mt : MethodId} {args : Array Value} {below : List Frame} {meth : Method} {c : Code} {A : Nat → Prop} {ad0 : Nat → Nat} {G : Gt}  (C : Cx G p s mt args meth c RX12 cX12_goodOf 3 (some .int) "goodOf" A)  (x1 : Int32) (x2 : Int32) (m : Mem) : V G SM oI l p e s mt args below meth c 3 5 A ad0 17 17 RM 17 RM 0 [(0, .ref 0), (1, .int x1), (2, .int x2)] [] m (X12_goodOf  x1 x2 m) := by
  rw [X12_goodOf]
  refine V.aload_n (pc := 0) C dX12_goodOf_0 0 rfl ?_
  refine V.iload_n (pc := 1) C dX12_goodOf_1 1 rfl ?_
  refine V.iload_n (pc := 2) C dX12_goodOf_2 2 rfl ?_
  refine V.callV (pc := 3) (st := []) C (c_X12_laysTwo l x1 x2 m) obV ck_X12_laysTwo ml_RX12_227 rfl rfl sM0 kM0 rfl rfl (Nat.le_of_ble_eq_true rfl) ⟨by decide, by decide⟩ dX12_goodOf_3 (fun r_1 m_2 _ => ?_)
  refine V.aload_n (pc := 6) C dX12_goodOf_6 0 rfl ?_
  refine V.getr (pc := 7) C fl_RX12_13 sM0 kM0 rfl rM0_1 dX12_goodOf_7 ?_
  refine V.iconst (pc := 10) C dX12_goodOf_10 (v := 5) (by decide) ?_
  refine V.iald (pc := 11) C sM1 kM1 dX12_goodOf_11 (fun _ => ?_)
  refine V.if_ne (pc := 12) C dX12_goodOf_12 33 (by decide) (fun _ => ?_) (fun _ => ?_)
  · refine V.aload_n (pc := 33) C dX12_goodOf_33 0 rfl ?_
    refine V.iconst (pc := 34) C dX12_goodOf_34 (v := 0) (by decide) ?_
    refine V.callV (pc := 35) (st := []) C (c_X12_reckons l 0 m_2) obI ck_X12_reckons ml_RX12_231 rfl rfl sM0 kM0 rfl rfl (Nat.le_of_ble_eq_true rfl) ⟨by decide, by decide⟩ dX12_goodOf_35 (fun r_3 m_4 _ => ?_)
    exact V.iret C dX12_goodOf_38
  · refine V.aload_n (pc := 15) C dX12_goodOf_15 0 rfl ?_
    refine V.getr (pc := 16) C fl_RX12_30 sM0 kM0 rfl rM0_15 dX12_goodOf_16 ?_
    refine V.iconst (pc := 19) C dX12_goodOf_19 (v := 1) (by decide) ?_
    refine V.iald (pc := 20) C sM5 kM5 dX12_goodOf_20 (fun _ => ?_)
    refine V.iconst (pc := 21) C dX12_goodOf_21 (v := 2) (by decide) ?_
    refine V.aload_n (pc := 22) C dX12_goodOf_22 0 rfl ?_
    refine V.getr (pc := 23) C fl_RX12_30 sM0 kM0 rfl rM0_15 dX12_goodOf_23 ?_
    refine V.iconst (pc := 26) C dX12_goodOf_26 (v := 2) (by decide) ?_
    refine V.iald (pc := 27) C sM5 kM5 dX12_goodOf_27 (fun _ => ?_)
    refine V.imul (pc := 28) C dX12_goodOf_28 ?_
    refine V.isub (pc := 29) C dX12_goodOf_29 ?_
    refine V.goto (pc := 30) C dX12_goodOf_30 38 (by decide) ?_
    exact V.iret C dX12_goodOf_38
theorem c_X12_goodOf (l : Launch)   (x1 : Int32) (x2 : Int32) (m : Mem) : Ct l yX12_goodOf cX12_goodOf 3 (some .int) 5 SM oI 17 17 RM RM [.ref 0, .int x1, .int x2] m (X12_goodOf  x1 x2 m) :=
  Ct.of (own := RX12) (nm := "goodOf") (by decide) rfl rfl (Nat.le_of_ble_eq_true rfl) (fun _ _ _ _ _ _ _ _ _ _ _ C => v_X12_goodOf C  x1 x2 m)
theorem dX12_mayWed_0 : decode cX12_mayWed 0 = .ok (.aload_n 0, 1) := by decide +kernel
theorem dX12_mayWed_1 : decode cX12_mayWed 1 = .ok (.iload_n 1, 1) := by decide +kernel
theorem dX12_mayWed_2 : decode cX12_mayWed 2 = .ok (.iload_n 2, 1) := by decide +kernel
theorem dX12_mayWed_3 : decode cX12_mayWed 3 = .ok (.invokevirtual 227, 3) := by decide +kernel
theorem dX12_mayWed_6 : decode cX12_mayWed 6 = .ok (.aload_n 0, 1) := by decide +kernel
theorem dX12_mayWed_7 : decode cX12_mayWed 7 = .ok (.getfield 13, 3) := by decide +kernel
theorem dX12_mayWed_10 : decode cX12_mayWed 10 = .ok (.bipush 6, 2) := by decide +kernel
theorem dX12_mayWed_12 : decode cX12_mayWed 12 = .ok (.iaload, 1) := by decide +kernel
theorem dX12_mayWed_13 : decode cX12_mayWed 13 = .ok (.ifCond .eq 12, 3) := by decide +kernel
theorem dX12_mayWed_16 : decode cX12_mayWed 16 = .ok (.aload_n 0, 1) := by decide +kernel
theorem dX12_mayWed_17 : decode cX12_mayWed 17 = .ok (.iconst 1, 1) := by decide +kernel
theorem dX12_mayWed_18 : decode cX12_mayWed 18 = .ok (.invokevirtual 231, 3) := by decide +kernel
theorem dX12_mayWed_21 : decode cX12_mayWed 21 = .ok (.iconst 1, 1) := by decide +kernel
theorem dX12_mayWed_22 : decode cX12_mayWed 22 = .ok (.if_icmp .ne 7, 3) := by decide +kernel
theorem dX12_mayWed_25 : decode cX12_mayWed 25 = .ok (.iconst 1, 1) := by decide +kernel
theorem dX12_mayWed_26 : decode cX12_mayWed 26 = .ok (.goto 4, 3) := by decide +kernel
theorem dX12_mayWed_29 : decode cX12_mayWed 29 = .ok (.iconst 0, 1) := by decide +kernel
theorem dX12_mayWed_30 : decode cX12_mayWed 30 = .ok (.ireturn, 1) := by decide +kernel
set_option maxRecDepth 100000 in
set_option maxHeartbeats 4000000 in
theorem v_X12_mayWed {l : Launch} {p : Program} {e : Env} {s : State} {mt : MethodId} {args : Array Value} {below : List Frame} {meth : Method} {c : Code} {A : Nat → Prop} {ad0 : Nat → Nat} {G : Gt}  (C : Cx G p s mt args meth c RX12 cX12_mayWed 3 (some .boolean) "mayWed" A)  (x1 : Int32) (x2 : Int32) (m : Mem) : V G SM oI l p e s mt args below meth c 3 5 A ad0 17 17 RM 17 RM 0 [(0, .ref 0), (1, .int x1), (2, .int x2)] [] m (X12_mayWed  x1 x2 m) := by
  rw [X12_mayWed]
  refine V.aload_n (pc := 0) C dX12_mayWed_0 0 rfl ?_
  refine V.iload_n (pc := 1) C dX12_mayWed_1 1 rfl ?_
  refine V.iload_n (pc := 2) C dX12_mayWed_2 2 rfl ?_
  refine V.callV (pc := 3) (st := []) C (c_X12_laysTwo l x1 x2 m) obV ck_X12_laysTwo ml_RX12_227 rfl rfl sM0 kM0 rfl rfl (Nat.le_of_ble_eq_true rfl) ⟨by decide, by decide⟩ dX12_mayWed_3 (fun r_1 m_2 _ => ?_)
  refine V.aload_n (pc := 6) C dX12_mayWed_6 0 rfl ?_
  refine V.getr (pc := 7) C fl_RX12_13 sM0 kM0 rfl rM0_1 dX12_mayWed_7 ?_
  refine V.bipush (pc := 10) C dX12_mayWed_10 (v := 6) (by decide) ?_
  refine V.iald (pc := 12) C sM1 kM1 dX12_mayWed_12 (fun _ => ?_)
  refine V.if_eq (pc := 13) C dX12_mayWed_13 25 (by decide) (fun _ => ?_) (fun _ => ?_)
  · refine V.iconst (pc := 25) C dX12_mayWed_25 (v := 1) (by decide) ?_
    refine V.goto (pc := 26) C dX12_mayWed_26 30 (by decide) ?_
    exact V.zret rfl C dX12_mayWed_30
  · refine V.aload_n (pc := 16) C dX12_mayWed_16 0 rfl ?_
    refine V.iconst (pc := 17) C dX12_mayWed_17 (v := 1) (by decide) ?_
    refine V.callV (pc := 18) (st := []) C (c_X12_reckons l 1 m_2) obI ck_X12_reckons ml_RX12_231 rfl rfl sM0 kM0 rfl rfl (Nat.le_of_ble_eq_true rfl) ⟨by decide, by decide⟩ dX12_mayWed_18 (fun r_3 m_4 _ => ?_)
    refine V.iconst (pc := 21) C dX12_mayWed_21 (v := 1) (by decide) ?_
    refine V.icmp_ne (pc := 22) C dX12_mayWed_22 29 (by decide) (fun _ => ?_) (fun _ => ?_)
    · refine V.iconst (pc := 29) C dX12_mayWed_29 (v := 0) (by decide) ?_
      exact V.zret rfl C dX12_mayWed_30
    · refine V.iconst (pc := 25) C dX12_mayWed_25 (v := 1) (by decide) ?_
      refine V.goto (pc := 26) C dX12_mayWed_26 30 (by decide) ?_
      exact V.zret rfl C dX12_mayWed_30
theorem c_X12_mayWed (l : Launch)   (x1 : Int32) (x2 : Int32) (m : Mem) : Ct l yX12_mayWed cX12_mayWed 3 (some .boolean) 5 SM oI 17 17 RM RM [.ref 0, .int x1, .int x2] m (X12_mayWed  x1 x2 m) :=
  Ct.of (own := RX12) (nm := "mayWed") (by decide) rfl rfl (Nat.le_of_ble_eq_true rfl) (fun _ _ _ _ _ _ _ _ _ _ _ C => v_X12_mayWed C  x1 x2 m)
