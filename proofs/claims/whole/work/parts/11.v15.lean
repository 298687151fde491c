theorem dX12_keepsAhead_0 : decode cX12_keepsAhead 0 = .ok (.iconst 0, 1) := by decide +kernel
theorem dX12_keepsAhead_1 : decode cX12_keepsAhead 1 = .ok (.istore_n 1, 1) := by decide +kernel
theorem dX12_keepsAhead_2 : decode cX12_keepsAhead 2 = .ok (.iload_n 1, 1) := by decide +kernel
theorem dX12_keepsAhead_3 : decode cX12_keepsAhead 3 = .ok (.sipush 129, 3) := by decide +kernel
theorem dX12_keepsAhead_6 : decode cX12_keepsAhead 6 = .ok (.if_icmp .ge 24, 3) := by decide +kernel
theorem dX12_keepsAhead_9 : decode cX12_keepsAhead 9 = .ok (.aload_n 0, 1) := by decide +kernel
theorem dX12_keepsAhead_10 : decode cX12_keepsAhead 10 = .ok (.getfield 54, 3) := by decide +kernel
theorem dX12_keepsAhead_13 : decode cX12_keepsAhead 13 = .ok (.iload_n 1, 1) := by decide +kernel
theorem dX12_keepsAhead_14 : decode cX12_keepsAhead 14 = .ok (.aload_n 0, 1) := by decide +kernel
theorem dX12_keepsAhead_15 : decode cX12_keepsAhead 15 = .ok (.getfield 13, 3) := by decide +kernel
theorem dX12_keepsAhead_18 : decode cX12_keepsAhead 18 = .ok (.bipush 33, 2) := by decide +kernel
theorem dX12_keepsAhead_20 : decode cX12_keepsAhead 20 = .ok (.iload_n 1, 1) := by decide +kernel
theorem dX12_keepsAhead_21 : decode cX12_keepsAhead 21 = .ok (.iadd, 1) := by decide +kernel
theorem dX12_keepsAhead_22 : decode cX12_keepsAhead 22 = .ok (.iaload, 1) := by decide +kernel
theorem dX12_keepsAhead_23 : decode cX12_keepsAhead 23 = .ok (.iastore, 1) := by decide +kernel
theorem dX12_keepsAhead_24 : decode cX12_keepsAhead 24 = .ok (.iinc 1 1, 3) := by decide +kernel
theorem dX12_keepsAhead_27 : decode cX12_keepsAhead 27 = .ok (.goto (-25), 3) := by decide +kernel
theorem dX12_keepsAhead_30 : decode cX12_keepsAhead 30 = .ok (.return_, 1) := by decide +kernel
set_option maxRecDepth 100000 in
set_option maxHeartbeats 4000000 in
theorem v_X12_keepsAhead_b2 {l : Launch} {p : Program} {e : Env} {s : State} {mt : MethodId} {args : Array Value} {below : List Frame} {meth : Method} {c : Code} {A : Nat → Prop} {ad0 : Nat → Nat} {G : Gt}  (C : Cx G p s mt args meth c RX12 cX12_keepsAhead 2 none "keepsAhead" A)  : ∀ (n : Nat) (y1 : Int32) (m : Mem), V G SM oV l p e s mt args below meth c 2 1 A ad0 17 17 RM 17 RM 2 [(0, .ref 0), (1, .int y1)] [] m (X12_keepsAhead_b2  n y1 m) := by
  intro n
  induction n with
  | zero =>
    intro y1 m
    rw [X12_keepsAhead_b2]
    exact V.nil
  | succ n ih =>
    intro y1 m
    rw [X12_keepsAhead_b2]
    refine V.iload_n (pc := 2) C dX12_keepsAhead_2 1 rfl ?_
    refine V.sipush (pc := 3) C dX12_keepsAhead_3 (v := 129) (by decide) ?_
    refine V.icmp_ge (pc := 6) C dX12_keepsAhead_6 30 (by decide) (fun _ => ?_) (fun _ => ?_)
    · exact V.vret C dX12_keepsAhead_30
    · refine V.aload_n (pc := 9) C dX12_keepsAhead_9 0 rfl ?_
      refine V.getr (pc := 10) C fl_RX12_54 sM0 kM0 rfl rM0_29 dX12_keepsAhead_10 ?_
      refine V.iload_n (pc := 13) C dX12_keepsAhead_13 1 rfl ?_
      refine V.aload_n (pc := 14) C dX12_keepsAhead_14 0 rfl ?_
      refine V.getr (pc := 15) C fl_RX12_13 sM0 kM0 rfl rM0_1 dX12_keepsAhead_15 ?_
      refine V.bipush (pc := 18) C dX12_keepsAhead_18 (v := 33) (by decide) ?_
      refine V.iload_n (pc := 20) C dX12_keepsAhead_20 1 rfl ?_
      refine V.iadd (pc := 21) C dX12_keepsAhead_21 ?_
      refine V.iald (pc := 22) C sM1 kM1 dX12_keepsAhead_22 (fun _ => ?_)
      refine V.iast (pc := 23) C sM13 kM13 dX12_keepsAhead_23 (fun _ => ?_)
      refine V.ltm (fun m_1 => ?_)
      refine V.iinc (pc := 24) C dX12_keepsAhead_24 (v := 1) (L2 := [(1, .int (y1 + 1)), (0, .ref 0)]) 1 rfl (by decide) (by decide) rfl ?_
      refine V.goto (pc := 27) C dX12_keepsAhead_27 2 (by decide) ?_
      refine V.wk [1, 0] rfl ?_
      exact ih (y1 + 1) m_1
set_option maxRecDepth 100000 in
set_option maxHeartbeats 4000000 in
theorem v_X12_keepsAhead {l : Launch} {p : Program} {e : Env} {s : State} {mt : MethodId} {args : Array Value} {below : List Frame} {meth : Method} {c : Code} {A : Nat → Prop} {ad0 : Nat → Nat} {G : Gt}  (C : Cx G p s mt args meth c RX12 cX12_keepsAhead 2 none "keepsAhead" A)  (m : Mem) : V G SM oV l p e s mt args below meth c 2 1 A ad0 17 17 RM 17 RM 0 [(0, .ref 0)] [] m (X12_keepsAhead   m) := by
  rw [X12_keepsAhead]
  refine V.iconst (pc := 0) C dX12_keepsAhead_0 (v := 0) (by decide) ?_
  refine V.istore_n (pc := 1) C dX12_keepsAhead_1 (L2 := [(1, .int 0), (0, .ref 0)]) (by decide) rfl ?_
  refine V.wk [1, 0] rfl ?_
  exact v_X12_keepsAhead_b2 C  FU 0 m
theorem c_X12_keepsAhead (l : Launch)   (m : Mem) : Ct l yX12_keepsAhead cX12_keepsAhead 2 none 1 SM oV 17 17 RM RM [.ref 0] m (X12_keepsAhead   m) :=
  Ct.of (own := RX12) (nm := "keepsAhead") (by decide) rfl rfl (Nat.le_of_ble_eq_true rfl) (fun _ _ _ _ _ _ _ _ _ _ _ C => v_X12_keepsAhead C   m)
theorem dX12_copiesFrom_0 : decode cX12_copiesFrom 0 = .ok (.iload_n 2, 1) := by decide +kernel
theorem dX12_copiesFrom_1 : decode cX12_copiesFrom 1 = .ok (.ifCond .eq 21, 3) := by decide +kernel
theorem dX12_copiesFrom_4 : decode cX12_copiesFrom 4 = .ok (.aload_n 0, 1) := by decide +kernel
theorem dX12_copiesFrom_5 : decode cX12_copiesFrom 5 = .ok (.getfield 39, 3) := by decide +kernel
theorem dX12_copiesFrom_8 : decode cX12_copiesFrom 8 = .ok (.iload_n 1, 1) := by decide +kernel
theorem dX12_copiesFrom_9 : decode cX12_copiesFrom 9 = .ok (.iaload, 1) := by decide +kernel
theorem dX12_copiesFrom_10 : decode cX12_copiesFrom 10 = .ok (.invokestatic 201, 3) := by decide +kernel
theorem dX12_copiesFrom_13 : decode cX12_copiesFrom 13 = .ok (.aload_n 0, 1) := by decide +kernel
theorem dX12_copiesFrom_14 : decode cX12_copiesFrom 14 = .ok (.getfield 13, 3) := by decide +kernel
theorem dX12_copiesFrom_17 : decode cX12_copiesFrom 17 = .ok (.iconst 4, 1) := by decide +kernel
theorem dX12_copiesFrom_18 : decode cX12_copiesFrom 18 = .ok (.iaload, 1) := by decide +kernel
theorem dX12_copiesFrom_19 : decode cX12_copiesFrom 19 = .ok (.if_icmp .lt 4, 3) := by decide +kernel
theorem dX12_copiesFrom_22 : decode cX12_copiesFrom 22 = .ok (.return_, 1) := by decide +kernel
theorem dX12_copiesFrom_23 : decode cX12_copiesFrom 23 = .ok (.iconst 0, 1) := by decide +kernel
theorem dX12_copiesFrom_24 : decode cX12_copiesFrom 24 = .ok (.istore_n 3, 1) := by decide +kernel
theorem dX12_copiesFrom_25 : decode cX12_copiesFrom 25 = .ok (.iload_n 2, 1) := by decide +kernel
theorem dX12_copiesFrom_26 : decode cX12_copiesFrom 26 = .ok (.i2l, 1) := by decide +kernel
theorem dX12_copiesFrom_27 : decode cX12_copiesFrom 27 = .ok (.iload_n 3, 1) := by decide +kernel
theorem dX12_copiesFrom_28 : decode cX12_copiesFrom 28 = .ok (.invokestatic 175, 3) := by decide +kernel
theorem dX12_copiesFrom_31 : decode cX12_copiesFrom 31 = .ok (.ifCond .ne 9, 3) := by decide +kernel
theorem dX12_copiesFrom_34 : decode cX12_copiesFrom 34 = .ok (.iinc 3 1, 3) := by decide +kernel
theorem dX12_copiesFrom_37 : decode cX12_copiesFrom 37 = .ok (.goto (-12), 3) := by decide +kernel
theorem dX12_copiesFrom_40 : decode cX12_copiesFrom 40 = .ok (.aload_n 0, 1) := by decide +kernel
theorem dX12_copiesFrom_41 : decode cX12_copiesFrom 41 = .ok (.getfield 13, 3) := by decide +kernel
theorem dX12_copiesFrom_44 : decode cX12_copiesFrom 44 = .ok (.bipush 41, 2) := by decide +kernel
theorem dX12_copiesFrom_46 : decode cX12_copiesFrom 46 = .ok (.bipush 14, 2) := by decide +kernel
theorem dX12_copiesFrom_48 : decode cX12_copiesFrom 48 = .ok (.iload_n 1, 1) := by decide +kernel
theorem dX12_copiesFrom_49 : decode cX12_copiesFrom 49 = .ok (.imul, 1) := by decide +kernel
theorem dX12_copiesFrom_50 : decode cX12_copiesFrom 50 = .ok (.iadd, 1) := by decide +kernel
theorem dX12_copiesFrom_51 : decode cX12_copiesFrom 51 = .ok (.iload_n 3, 1) := by decide +kernel
theorem dX12_copiesFrom_52 : decode cX12_copiesFrom 52 = .ok (.iadd, 1) := by decide +kernel
theorem dX12_copiesFrom_53 : decode cX12_copiesFrom 53 = .ok (.iconst 0, 1) := by decide +kernel
theorem dX12_copiesFrom_54 : decode cX12_copiesFrom 54 = .ok (.iastore, 1) := by decide +kernel
theorem dX12_copiesFrom_55 : decode cX12_copiesFrom 55 = .ok (.return_, 1) := by decide +kernel
set_option maxRecDepth 100000 in
set_option maxHeartbeats 4000000 in
theorem v_X12_copiesFrom_b25 {l : Launch} {p : Program} {e : Env} {s : State} {mt : MethodId} {args : Array Value} {below : List Frame} {meth : Method} {c : Code} {A : Nat → Prop} {ad0 : Nat → Nat} {G : Gt}  (C : Cx G p s mt args meth c RX12 cX12_copiesFrom 4 none "copiesFrom" A)  : ∀ (n : Nat) (y1 : Int32) (y2 : Int32) (y3 : Int32) (m : Mem), V G SM oV l p e s mt args below meth c 4 2 A ad0 17 17 RM 17 RM 25 [(0, .ref 0), (1, .int y1), (2, .int y2), (3, .int y3)] [] m (X12_copiesFrom_b25  n y1 y2 y3 m) := by
  intro n
  induction n with
  | zero =>
    intro y1 y2 y3 m
    rw [X12_copiesFrom_b25]
    exact V.nil
  | succ n ih =>
    intro y1 y2 y3 m
    rw [X12_copiesFrom_b25]
    refine V.iload_n (pc := 25) C dX12_copiesFrom_25 2 rfl ?_
    refine V.i2l (pc := 26) C dX12_copiesFrom_26 ?_
    refine V.iload_n (pc := 27) C dX12_copiesFrom_27 3 rfl ?_
    refine V.callS (pc := 28) (st := []) C (c_X12_isIn l (Int32.toInt64 y2) y3 m) obI ck_X12_isIn ml_RX12_175 rfl rfl (Nat.le_of_ble_eq_true rfl) ⟨by decide, by decide⟩ dX12_copiesFrom_28 (fun r_3 m_4 _ => ?_)
    refine V.if_ne (pc := 31) C dX12_copiesFrom_31 40 (by decide) (fun _ => ?_) (fun _ => ?_)
    · refine V.aload_n (pc := 40) C dX12_copiesFrom_40 0 rfl ?_
      refine V.getr (pc := 41) C fl_RX12_13 sM0 kM0 rfl rM0_1 dX12_copiesFrom_41 ?_
      refine V.bipush (pc := 44) C dX12_copiesFrom_44 (v := 41) (by decide) ?_
      refine V.bipush (pc := 46) C dX12_copiesFrom_46 (v := 14) (by decide) ?_
      refine V.iload_n (pc := 48) C dX12_copiesFrom_48 1 rfl ?_
      refine V.imul (pc := 49) C dX12_copiesFrom_49 ?_
      refine V.iadd (pc := 50) C dX12_copiesFrom_50 ?_
      refine V.iload_n (pc := 51) C dX12_copiesFrom_51 3 rfl ?_
      refine V.iadd (pc := 52) C dX12_copiesFrom_52 ?_
      refine V.iconst (pc := 53) C dX12_copiesFrom_53 (v := 0) (by decide) ?_
      refine V.iast (pc := 54) C sM1 kM1 dX12_copiesFrom_54 (fun _ => ?_)
      refine V.ltm (fun m_5 => ?_)
      exact V.vret C dX12_copiesFrom_55
    · refine V.iinc (pc := 34) C dX12_copiesFrom_34 (v := 1) (L2 := [(3, .int (y3 + 1)), (0, .ref 0), (1, .int y1), (2, .int y2)]) 3 rfl (by decide) (by decide) rfl ?_
      refine V.goto (pc := 37) C dX12_copiesFrom_37 25 (by decide) ?_
      refine V.wk [1, 2, 3, 0] rfl ?_
      exact ih y1 y2 (y3 + 1) m_4
set_option maxRecDepth 100000 in
set_option maxHeartbeats 4000000 in
theorem v_X12_copiesFrom {l : Launch} {p : Program} {e : Env} {s : State} {mt : MethodId} {args : Array Value} {below : List Frame} {meth : Method} {c : Code} {A : Nat → Prop} {ad0 : Nat → Nat} {G : Gt}  (C : Cx G p s mt args meth c RX12 cX12_copiesFrom 4 none "copiesFrom" A)  (x1 : Int32) (x2 : Int32) (m : Mem) : V G SM oV l p e s mt args below meth c 4 2 A ad0 17 17 RM 17 RM 0 [(0, .ref 0), (1, .int x1), (2, .int x2)] [] m (X12_copiesFrom  x1 x2 m) := by
  rw [X12_copiesFrom]
  refine V.iload_n (pc := 0) C dX12_copiesFrom_0 2 rfl ?_
  refine V.if_eq (pc := 1) C dX12_copiesFrom_1 22 (by decide) (fun _ => ?_) (fun _ => ?_)
  · exact V.vret C dX12_copiesFrom_22
  · refine V.aload_n (pc := 4) C dX12_copiesFrom_4 0 rfl ?_
    refine V.getr (pc := 5) C fl_RX12_39 sM0 kM0 rfl rM0_18 dX12_copiesFrom_5 ?_
    refine V.iload_n (pc := 8) C dX12_copiesFrom_8 1 rfl ?_
    refine V.iald (pc := 9) C sM8 kM8 dX12_copiesFrom_9 (fun _ => ?_)
    refine V.callS (pc := 10) (st := []) C (c_X12_bitsOf l (gi m 8 (ix x1)) m) obI ck_X12_bitsOf ml_RX12_201 rfl rfl (Nat.le_of_ble_eq_true rfl) ⟨by decide, by decide⟩ dX12_copiesFrom_10 (fun r_1 m_2 _ => ?_)
    refine V.aload_n (pc := 13) C dX12_copiesFrom_13 0 rfl ?_
    refine V.getr (pc := 14) C fl_RX12_13 sM0 kM0 rfl rM0_1 dX12_copiesFrom_14 ?_
    refine V.iconst (pc := 17) C dX12_copiesFrom_17 (v := 4) (by decide) ?_
    refine V.iald (pc := 18) C sM1 kM1 dX12_copiesFrom_18 (fun _ => ?_)
    refine V.icmp_lt (pc := 19) C dX12_copiesFrom_19 23 (by decide) (fun _ => ?_) (fun _ => ?_)
    · refine V.iconst (pc := 23) C dX12_copiesFrom_23 (v := 0) (by decide) ?_
      refine V.istore_n (pc := 24) C dX12_copiesFrom_24 (L2 := [(3, .int 0), (0, .ref 0), (1, .int x1), (2, .int x2)]) (by decide) rfl ?_
      refine V.wk [1, 2, 3, 0] rfl ?_
      exact v_X12_copiesFrom_b25 C  FU x1 x2 0 m_2
    · exact V.vret C dX12_copiesFrom_22
theorem c_X12_copiesFrom (l : Launch)   (x1 : Int32) (x2 : Int32) (m : Mem) : Ct l yX12_copiesFrom cX12_copiesFrom 4 none 2 SM oV 17 17 RM RM [.ref 0, .int x1, .int x2] m (X12_copiesFrom  x1 x2 m) :=
  Ct.of (own := RX12) (nm := "copiesFrom") (by decide) rfl rfl (Nat.le_of_ble_eq_true rfl) (fun _ _ _ _ _ _ _ _ _ _ _ C => v_X12_copiesFrom C  x1 x2 m)
theorem dX12_year_0 : decode cX12_year 0 = .ok (.iconst 0, 1) := by decide +kernel
theorem dX12_year_1 : decode cX12_year 1 = .ok (.istore_n 3, 1) := by decide +kernel
theorem dX12_year_2 : decode cX12_year 2 = .ok (.iconst 0, 1) := by decide +kernel
theorem dX12_year_3 : decode cX12_year 3 = .ok (.istore 4, 2) := by decide +kernel
theorem dX12_year_5 : decode cX12_year 5 = .ok (.iload 4, 2) := by decide +kernel
theorem dX12_year_7 : decode cX12_year 7 = .ok (.aload_n 0, 1) := by decide +kernel
theorem dX12_year_8 : decode cX12_year 8 = .ok (.getfield 13, 3) := by decide +kernel
theorem dX12_year_11 : decode cX12_year 11 = .ok (.iconst 2, 1) := by decide +kernel
theorem dX12_year_12 : decode cX12_year 12 = .ok (.iaload, 1) := by decide +kernel
theorem dX12_year_13 : decode cX12_year 13 = .ok (.if_icmp .ge 145, 3) := by decide +kernel
theorem dX12_year_16 : decode cX12_year 16 = .ok (.aload_n 0, 1) := by decide +kernel
theorem dX12_year_17 : decode cX12_year 17 = .ok (.getfield 13, 3) := by decide +kernel
theorem dX12_year_20 : decode cX12_year 20 = .ok (.bipush 33, 2) := by decide +kernel
theorem dX12_year_22 : decode cX12_year 22 = .ok (.iload 4, 2) := by decide +kernel
theorem dX12_year_24 : decode cX12_year 24 = .ok (.iadd, 1) := by decide +kernel
theorem dX12_year_25 : decode cX12_year 25 = .ok (.dup2, 1) := by decide +kernel
theorem dX12_year_26 : decode cX12_year 26 = .ok (.iaload, 1) := by decide +kernel
theorem dX12_year_27 : decode cX12_year 27 = .ok (.iconst 1, 1) := by decide +kernel
theorem dX12_year_28 : decode cX12_year 28 = .ok (.iadd, 1) := by decide +kernel
theorem dX12_year_29 : decode cX12_year 29 = .ok (.iastore, 1) := by decide +kernel
theorem dX12_year_30 : decode cX12_year 30 = .ok (.iconst 0, 1) := by decide +kernel
theorem dX12_year_31 : decode cX12_year 31 = .ok (.istore 5, 2) := by decide +kernel
theorem dX12_year_33 : decode cX12_year 33 = .ok (.iload 5, 2) := by decide +kernel
theorem dX12_year_35 : decode cX12_year 35 = .ok (.aload_n 0, 1) := by decide +kernel
theorem dX12_year_36 : decode cX12_year 36 = .ok (.getfield 13, 3) := by decide +kernel
theorem dX12_year_39 : decode cX12_year 39 = .ok (.iconst 1, 1) := by decide +kernel
theorem dX12_year_40 : decode cX12_year 40 = .ok (.iaload, 1) := by decide +kernel
theorem dX12_year_41 : decode cX12_year 41 = .ok (.if_icmp .ge 111, 3) := by decide +kernel
theorem dX12_year_44 : decode cX12_year 44 = .ok (.iload_n 1, 1) := by decide +kernel
theorem dX12_year_45 : decode cX12_year 45 = .ok (.iconst (-1), 1) := by decide +kernel
theorem dX12_year_46 : decode cX12_year 46 = .ok (.if_icmp .eq 15, 3) := by decide +kernel
theorem dX12_year_49 : decode cX12_year 49 = .ok (.iload 4, 2) := by decide +kernel
theorem dX12_year_51 : decode cX12_year 51 = .ok (.iload_n 1, 1) := by decide +kernel
theorem dX12_year_52 : decode cX12_year 52 = .ok (.if_icmp .eq 9, 3) := by decide +kernel
theorem dX12_year_55 : decode cX12_year 55 = .ok (.iload 4, 2) := by decide +kernel
theorem dX12_year_57 : decode cX12_year 57 = .ok (.iload_n 2, 1) := by decide +kernel
theorem dX12_year_58 : decode cX12_year 58 = .ok (.if_icmp .ne 94, 3) := by decide +kernel
theorem dX12_year_61 : decode cX12_year 61 = .ok (.bipush 41, 2) := by decide +kernel
theorem dX12_year_63 : decode cX12_year 63 = .ok (.bipush 14, 2) := by decide +kernel
theorem dX12_year_65 : decode cX12_year 65 = .ok (.iload 4, 2) := by decide +kernel
theorem dX12_year_67 : decode cX12_year 67 = .ok (.imul, 1) := by decide +kernel
theorem dX12_year_68 : decode cX12_year 68 = .ok (.iadd, 1) := by decide +kernel
theorem dX12_year_69 : decode cX12_year 69 = .ok (.iload 5, 2) := by decide +kernel
theorem dX12_year_71 : decode cX12_year 71 = .ok (.iadd, 1) := by decide +kernel
theorem dX12_year_72 : decode cX12_year 72 = .ok (.istore 6, 2) := by decide +kernel
theorem dX12_year_74 : decode cX12_year 74 = .ok (.aload_n 0, 1) := by decide +kernel
theorem dX12_year_75 : decode cX12_year 75 = .ok (.getfield 13, 3) := by decide +kernel
theorem dX12_year_78 : decode cX12_year 78 = .ok (.iload 6, 2) := by decide +kernel
theorem dX12_year_80 : decode cX12_year 80 = .ok (.iaload, 1) := by decide +kernel
theorem dX12_year_81 : decode cX12_year 81 = .ok (.iconst (-1), 1) := by decide +kernel
theorem dX12_year_82 : decode cX12_year 82 = .ok (.if_icmp .ne 6, 3) := by decide +kernel
theorem dX12_year_85 : decode cX12_year 85 = .ok (.goto 61, 3) := by decide +kernel
theorem dX12_year_88 : decode cX12_year 88 = .ok (.aload_n 0, 1) := by decide +kernel
theorem dX12_year_89 : decode cX12_year 89 = .ok (.getfield 13, 3) := by decide +kernel
theorem dX12_year_92 : decode cX12_year 92 = .ok (.iload 6, 2) := by decide +kernel
theorem dX12_year_94 : decode cX12_year 94 = .ok (.dup2, 1) := by decide +kernel
theorem dX12_year_95 : decode cX12_year 95 = .ok (.iaload, 1) := by decide +kernel
theorem dX12_year_96 : decode cX12_year 96 = .ok (.iconst 1, 1) := by decide +kernel
theorem dX12_year_97 : decode cX12_year 97 = .ok (.iadd, 1) := by decide +kernel
theorem dX12_year_98 : decode cX12_year 98 = .ok (.iastore, 1) := by decide +kernel
theorem dX12_year_99 : decode cX12_year 99 = .ok (.aload_n 0, 1) := by decide +kernel
theorem dX12_year_100 : decode cX12_year 100 = .ok (.getfield 13, 3) := by decide +kernel
theorem dX12_year_103 : decode cX12_year 103 = .ok (.bipush 11, 2) := by decide +kernel
theorem dX12_year_105 : decode cX12_year 105 = .ok (.iload 5, 2) := by decide +kernel
theorem dX12_year_107 : decode cX12_year 107 = .ok (.iadd, 1) := by decide +kernel
theorem dX12_year_108 : decode cX12_year 108 = .ok (.iaload, 1) := by decide +kernel
theorem dX12_year_109 : decode cX12_year 109 = .ok (.ifCond .eq 37, 3) := by decide +kernel
theorem dX12_year_112 : decode cX12_year 112 = .ok (.aload_n 0, 1) := by decide +kernel
theorem dX12_year_113 : decode cX12_year 113 = .ok (.getfield 13, 3) := by decide +kernel
theorem dX12_year_116 : decode cX12_year 116 = .ok (.iload 6, 2) := by decide +kernel
theorem dX12_year_118 : decode cX12_year 118 = .ok (.iaload, 1) := by decide +kernel
theorem dX12_year_119 : decode cX12_year 119 = .ok (.aload_n 0, 1) := by decide +kernel
theorem dX12_year_120 : decode cX12_year 120 = .ok (.getfield 13, 3) := by decide +kernel
theorem dX12_year_123 : decode cX12_year 123 = .ok (.bipush 11, 2) := by decide +kernel
theorem dX12_year_125 : decode cX12_year 125 = .ok (.iload 5, 2) := by decide +kernel
theorem dX12_year_127 : decode cX12_year 127 = .ok (.iadd, 1) := by decide +kernel
theorem dX12_year_128 : decode cX12_year 128 = .ok (.iaload, 1) := by decide +kernel
theorem dX12_year_129 : decode cX12_year 129 = .ok (.if_icmp .ge 6, 3) := by decide +kernel
theorem dX12_year_132 : decode cX12_year 132 = .ok (.goto 14, 3) := by decide +kernel
theorem dX12_year_135 : decode cX12_year 135 = .ok (.aload_n 0, 1) := by decide +kernel
theorem dX12_year_136 : decode cX12_year 136 = .ok (.getfield 13, 3) := by decide +kernel
theorem dX12_year_139 : decode cX12_year 139 = .ok (.iload 6, 2) := by decide +kernel
theorem dX12_year_141 : decode cX12_year 141 = .ok (.iconst (-1), 1) := by decide +kernel
theorem dX12_year_142 : decode cX12_year 142 = .ok (.iastore, 1) := by decide +kernel
theorem dX12_year_143 : decode cX12_year 143 = .ok (.iinc 3 1, 3) := by decide +kernel
theorem dX12_year_146 : decode cX12_year 146 = .ok (.iinc 5 1, 3) := by decide +kernel
theorem dX12_year_149 : decode cX12_year 149 = .ok (.goto (-116), 3) := by decide +kernel
theorem dX12_year_152 : decode cX12_year 152 = .ok (.iinc 4 1, 3) := by decide +kernel
theorem dX12_year_155 : decode cX12_year 155 = .ok (.goto (-150), 3) := by decide +kernel
theorem dX12_year_158 : decode cX12_year 158 = .ok (.iconst 0, 1) := by decide +kernel
theorem dX12_year_159 : decode cX12_year 159 = .ok (.istore 4, 2) := by decide +kernel
theorem dX12_year_161 : decode cX12_year 161 = .ok (.iload 4, 2) := by decide +kernel
theorem dX12_year_163 : decode cX12_year 163 = .ok (.aload_n 0, 1) := by decide +kernel
theorem dX12_year_164 : decode cX12_year 164 = .ok (.getfield 13, 3) := by decide +kernel
theorem dX12_year_167 : decode cX12_year 167 = .ok (.iconst 2, 1) := by decide +kernel
theorem dX12_year_168 : decode cX12_year 168 = .ok (.iaload, 1) := by decide +kernel
theorem dX12_year_169 : decode cX12_year 169 = .ok (.if_icmp .ge 22, 3) := by decide +kernel
theorem dX12_year_172 : decode cX12_year 172 = .ok (.aload_n 0, 1) := by decide +kernel
theorem dX12_year_173 : decode cX12_year 173 = .ok (.getfield 39, 3) := by decide +kernel
theorem dX12_year_176 : decode cX12_year 176 = .ok (.iload 4, 2) := by decide +kernel
theorem dX12_year_178 : decode cX12_year 178 = .ok (.aload_n 0, 1) := by decide +kernel
theorem dX12_year_179 : decode cX12_year 179 = .ok (.iload 4, 2) := by decide +kernel
theorem dX12_year_181 : decode cX12_year 181 = .ok (.invokevirtual 207, 3) := by decide +kernel
theorem dX12_year_184 : decode cX12_year 184 = .ok (.iastore, 1) := by decide +kernel
theorem dX12_year_185 : decode cX12_year 185 = .ok (.iinc 4 1, 3) := by decide +kernel
theorem dX12_year_188 : decode cX12_year 188 = .ok (.goto (-27), 3) := by decide +kernel
theorem dX12_year_191 : decode cX12_year 191 = .ok (.iconst 0, 1) := by decide +kernel
theorem dX12_year_192 : decode cX12_year 192 = .ok (.istore 4, 2) := by decide +kernel
theorem dX12_year_194 : decode cX12_year 194 = .ok (.iload 4, 2) := by decide +kernel
theorem dX12_year_196 : decode cX12_year 196 = .ok (.aload_n 0, 1) := by decide +kernel
theorem dX12_year_197 : decode cX12_year 197 = .ok (.getfield 13, 3) := by decide +kernel
theorem dX12_year_200 : decode cX12_year 200 = .ok (.iconst 2, 1) := by decide +kernel
theorem dX12_year_201 : decode cX12_year 201 = .ok (.iaload, 1) := by decide +kernel
theorem dX12_year_202 : decode cX12_year 202 = .ok (.if_icmp .ge 80, 3) := by decide +kernel
theorem dX12_year_205 : decode cX12_year 205 = .ok (.iload_n 1, 1) := by decide +kernel
theorem dX12_year_206 : decode cX12_year 206 = .ok (.iconst (-1), 1) := by decide +kernel
theorem dX12_year_207 : decode cX12_year 207 = .ok (.if_icmp .ne 17, 3) := by decide +kernel
theorem dX12_year_210 : decode cX12_year 210 = .ok (.aload_n 0, 1) := by decide +kernel
theorem dX12_year_211 : decode cX12_year 211 = .ok (.getfield 13, 3) := by decide +kernel
theorem dX12_year_214 : decode cX12_year 214 = .ok (.sipush 153, 3) := by decide +kernel
theorem dX12_year_217 : decode cX12_year 217 = .ok (.iload 4, 2) := by decide +kernel
theorem dX12_year_219 : decode cX12_year 219 = .ok (.iadd, 1) := by decide +kernel
theorem dX12_year_220 : decode cX12_year 220 = .ok (.iaload, 1) := by decide +kernel
theorem dX12_year_221 : decode cX12_year 221 = .ok (.goto 24, 3) := by decide +kernel
theorem dX12_year_224 : decode cX12_year 224 = .ok (.iload 4, 2) := by decide +kernel
theorem dX12_year_226 : decode cX12_year 226 = .ok (.iload_n 1, 1) := by decide +kernel
theorem dX12_year_227 : decode cX12_year 227 = .ok (.if_icmp .ne 7, 3) := by decide +kernel
theorem dX12_year_230 : decode cX12_year 230 = .ok (.iload_n 2, 1) := by decide +kernel
theorem dX12_year_231 : decode cX12_year 231 = .ok (.goto 14, 3) := by decide +kernel
theorem dX12_year_234 : decode cX12_year 234 = .ok (.iload 4, 2) := by decide +kernel
theorem dX12_year_236 : decode cX12_year 236 = .ok (.iload_n 2, 1) := by decide +kernel
theorem dX12_year_237 : decode cX12_year 237 = .ok (.if_icmp .ne 7, 3) := by decide +kernel
theorem dX12_year_240 : decode cX12_year 240 = .ok (.iload_n 1, 1) := by decide +kernel
theorem dX12_year_241 : decode cX12_year 241 = .ok (.goto 4, 3) := by decide +kernel
theorem dX12_year_244 : decode cX12_year 244 = .ok (.iconst (-1), 1) := by decide +kernel
theorem dX12_year_245 : decode cX12_year 245 = .ok (.istore 5, 2) := by decide +kernel
theorem dX12_year_247 : decode cX12_year 247 = .ok (.iload 5, 2) := by decide +kernel
theorem dX12_year_249 : decode cX12_year 249 = .ok (.iconst (-1), 1) := by decide +kernel
theorem dX12_year_250 : decode cX12_year 250 = .ok (.if_icmp .eq 26, 3) := by decide +kernel
theorem dX12_year_253 : decode cX12_year 253 = .ok (.aload_n 0, 1) := by decide +kernel
theorem dX12_year_254 : decode cX12_year 254 = .ok (.iload 4, 2) := by decide +kernel
theorem dX12_year_256 : decode cX12_year 256 = .ok (.aload_n 0, 1) := by decide +kernel
theorem dX12_year_257 : decode cX12_year 257 = .ok (.getfield 39, 3) := by decide +kernel
theorem dX12_year_260 : decode cX12_year 260 = .ok (.iload 5, 2) := by decide +kernel
theorem dX12_year_262 : decode cX12_year 262 = .ok (.iaload, 1) := by decide +kernel
theorem dX12_year_263 : decode cX12_year 263 = .ok (.aload_n 0, 1) := by decide +kernel
theorem dX12_year_264 : decode cX12_year 264 = .ok (.getfield 39, 3) := by decide +kernel
theorem dX12_year_267 : decode cX12_year 267 = .ok (.iload 4, 2) := by decide +kernel
theorem dX12_year_269 : decode cX12_year 269 = .ok (.iaload, 1) := by decide +kernel
theorem dX12_year_270 : decode cX12_year 270 = .ok (.iconst (-1), 1) := by decide +kernel
theorem dX12_year_271 : decode cX12_year 271 = .ok (.ixor, 1) := by decide +kernel
theorem dX12_year_272 : decode cX12_year 272 = .ok (.iand, 1) := by decide +kernel
theorem dX12_year_273 : decode cX12_year 273 = .ok (.invokevirtual 264, 3) := by decide +kernel
theorem dX12_year_276 : decode cX12_year 276 = .ok (.iinc 4 1, 3) := by decide +kernel
theorem dX12_year_279 : decode cX12_year 279 = .ok (.goto (-85), 3) := by decide +kernel
theorem dX12_year_282 : decode cX12_year 282 = .ok (.aload_n 0, 1) := by decide +kernel
theorem dX12_year_283 : decode cX12_year 283 = .ok (.getfield 13, 3) := by decide +kernel
theorem dX12_year_286 : decode cX12_year 286 = .ok (.sipush 161, 3) := by decide +kernel
theorem dX12_year_289 : decode cX12_year 289 = .ok (.dup2, 1) := by decide +kernel
theorem dX12_year_290 : decode cX12_year 290 = .ok (.iaload, 1) := by decide +kernel
theorem dX12_year_291 : decode cX12_year 291 = .ok (.iconst 1, 1) := by decide +kernel
theorem dX12_year_292 : decode cX12_year 292 = .ok (.iadd, 1) := by decide +kernel
theorem dX12_year_293 : decode cX12_year 293 = .ok (.iastore, 1) := by decide +kernel
theorem dX12_year_294 : decode cX12_year 294 = .ok (.iload_n 3, 1) := by decide +kernel
theorem dX12_year_295 : decode cX12_year 295 = .ok (.ireturn, 1) := by decide +kernel
set_option maxRecDepth 100000 in
set_option maxHeartbeats 4000000 in
theorem v_X12_year_b245 {l : Launch} {p : Program} {e : Env} {s : State} {mt : MethodId} {args : Array Value} {below : List Frame} {meth : Method} {c : Code} {A : Nat → Prop} {ad0 : Nat → Nat} {G : Gt}  (C : Cx G p s mt args meth c RX12 cX12_year 7 (some .int) "year" A) (k194 : Int32 → Int32 → Int32 → Int32 → Mem → Option (Int32 × Mem)) (h194 : ∀ (y1 : Int32) (y2 : Int32) (y3 : Int32) (y4 : Int32) (m : Mem), V G SM oI l p e s mt args below meth c 7 3 A ad0 17 17 RM 17 RM 194 [(0, .ref 0), (1, .int y1), (2, .int y2), (3, .int y3), (4, .int y4)] [] m (k194 y1 y2 y3 y4 m)) (y1 : Int32) (y2 : Int32) (y3 : Int32) (y4 : Int32) (z0 : Int32) (m : Mem) : V G SM oI l p e s mt args below meth c 7 3 A ad0 17 17 RM 17 RM 245 [(0, .ref 0), (1, .int y1), (2, .int y2), (3, .int y3), (4, .int y4)] [.int z0] m (X12_year_b245 k194 y1 y2 y3 y4 z0 m) := by
  rw [X12_year_b245]
  refine V.istore (pc := 245) C dX12_year_245 (L2 := [(5, .int z0), (0, .ref 0), (1, .int y1), (2, .int y2), (3, .int y3), (4, .int y4)]) (by decide) rfl ?_
  refine V.iload (pc := 247) C dX12_year_247 0 rfl ?_
  refine V.iconst (pc := 249) C dX12_year_249 (v := (-1)) (by decide) ?_
  refine V.icmp_eq (pc := 250) C dX12_year_250 276 (by decide) (fun _ => ?_) (fun _ => ?_)
  · refine V.iinc (pc := 276) C dX12_year_276 (v := 1) (L2 := [(4, .int (y4 + 1)), (5, .int z0), (0, .ref 0), (1, .int y1), (2, .int y2), (3, .int y3)]) 5 rfl (by decide) (by decide) rfl ?_
    refine V.goto (pc := 279) C dX12_year_279 194 (by decide) ?_
    refine V.wk [2, 3, 4, 5, 0] rfl ?_
    exact h194 y1 y2 y3 (y4 + 1) m
  · refine V.aload_n (pc := 253) C dX12_year_253 1 rfl ?_
    refine V.iload (pc := 254) C dX12_year_254 5 rfl ?_
    refine V.aload_n (pc := 256) C dX12_year_256 1 rfl ?_
    refine V.getr (pc := 257) C fl_RX12_39 sM0 kM0 rfl rM0_18 dX12_year_257 ?_
    refine V.iload (pc := 260) C dX12_year_260 0 rfl ?_
    refine V.iald (pc := 262) C sM8 kM8 dX12_year_262 (fun _ => ?_)
    refine V.aload_n (pc := 263) C dX12_year_263 1 rfl ?_
    refine V.getr (pc := 264) C fl_RX12_39 sM0 kM0 rfl rM0_18 dX12_year_264 ?_
    refine V.iload (pc := 267) C dX12_year_267 5 rfl ?_
    refine V.iald (pc := 269) C sM8 kM8 dX12_year_269 (fun _ => ?_)
    refine V.iconst (pc := 270) C dX12_year_270 (v := (-1)) (by decide) ?_
    refine V.ixor (pc := 271) C dX12_year_271 ?_
    refine V.iand (pc := 272) C dX12_year_272 ?_
    refine V.callV (pc := 273) (st := []) C (c_X12_copiesFrom l y4 ((gi m 8 (ix z0)) &&& ((gi m 8 (ix y4)) ^^^ (-1))) m) obV ck_X12_copiesFrom ml_RX12_264 rfl rfl sM0 kM0 rfl rfl (Nat.le_of_ble_eq_true rfl) ⟨by decide, by decide⟩ dX12_year_273 (fun r_2 m_3 _ => ?_)
    refine V.iinc (pc := 276) C dX12_year_276 (v := 1) (L2 := [(4, .int (y4 + 1)), (5, .int z0), (0, .ref 0), (1, .int y1), (2, .int y2), (3, .int y3)]) 5 rfl (by decide) (by decide) rfl ?_
    refine V.goto (pc := 279) C dX12_year_279 194 (by decide) ?_
    refine V.wk [2, 3, 4, 5, 0] rfl ?_
    exact h194 y1 y2 y3 (y4 + 1) m_3
set_option maxRecDepth 100000 in
set_option maxHeartbeats 4000000 in
theorem v_X12_year_b194 {l : Launch} {p : Program} {e : Env} {s : State} {mt : MethodId} {args : Array Value} {below : List Frame} {meth : Method} {c : Code} {A : Nat → Prop} {ad0 : Nat → Nat} {G : Gt}  (C : Cx G p s mt args meth c RX12 cX12_year 7 (some .int) "year" A)  : ∀ (n : Nat) (y1 : Int32) (y2 : Int32) (y3 : Int32) (y4 : Int32) (m : Mem), V G SM oI l p e s mt args below meth c 7 3 A ad0 17 17 RM 17 RM 194 [(0, .ref 0), (1, .int y1), (2, .int y2), (3, .int y3), (4, .int y4)] [] m (X12_year_b194  n y1 y2 y3 y4 m) := by
  intro n
  induction n with
  | zero =>
    intro y1 y2 y3 y4 m
    rw [X12_year_b194]
    exact V.nil
  | succ n ih =>
    intro y1 y2 y3 y4 m
    rw [X12_year_b194]
    refine V.iload (pc := 194) C dX12_year_194 4 rfl ?_
    refine V.aload_n (pc := 196) C dX12_year_196 0 rfl ?_
    refine V.getr (pc := 197) C fl_RX12_13 sM0 kM0 rfl rM0_1 dX12_year_197 ?_
    refine V.iconst (pc := 200) C dX12_year_200 (v := 2) (by decide) ?_
    refine V.iald (pc := 201) C sM1 kM1 dX12_year_201 (fun _ => ?_)
    refine V.icmp_ge (pc := 202) C dX12_year_202 282 (by decide) (fun _ => ?_) (fun _ => ?_)
    · refine V.aload_n (pc := 282) C dX12_year_282 0 rfl ?_
      refine V.getr (pc := 283) C fl_RX12_13 sM0 kM0 rfl rM0_1 dX12_year_283 ?_
      refine V.sipush (pc := 286) C dX12_year_286 (v := 161) (by decide) ?_
      refine V.dup2 (pc := 289) C dX12_year_289 rfl rfl ?_
      refine V.iald (pc := 290) C sM1 kM1 dX12_year_290 (fun _ => ?_)
      refine V.iconst (pc := 291) C dX12_year_291 (v := 1) (by decide) ?_
      refine V.iadd (pc := 292) C dX12_year_292 ?_
      refine V.iast (pc := 293) C sM1 kM1 dX12_year_293 (fun _ => ?_)
      refine V.ltm (fun m_1 => ?_)
      refine V.iload_n (pc := 294) C dX12_year_294 3 rfl ?_
      exact V.iret C dX12_year_295
    · refine V.iload_n (pc := 205) C dX12_year_205 1 rfl ?_
      refine V.iconst (pc := 206) C dX12_year_206 (v := (-1)) (by decide) ?_
      refine V.icmp_ne (pc := 207) C dX12_year_207 224 (by decide) (fun _ => ?_) (fun _ => ?_)
      · refine V.iload (pc := 224) C dX12_year_224 4 rfl ?_
        refine V.iload_n (pc := 226) C dX12_year_226 1 rfl ?_
        refine V.icmp_ne (pc := 227) C dX12_year_227 234 (by decide) (fun _ => ?_) (fun _ => ?_)
        · refine V.iload (pc := 234) C dX12_year_234 4 rfl ?_
          refine V.iload_n (pc := 236) C dX12_year_236 2 rfl ?_
          refine V.icmp_ne (pc := 237) C dX12_year_237 244 (by decide) (fun _ => ?_) (fun _ => ?_)
          · refine V.iconst (pc := 244) C dX12_year_244 (v := (-1)) (by decide) ?_
            refine V.wk [0, 1, 2, 3, 4] rfl ?_
            exact v_X12_year_b245 C (X12_year_b194 n) ih y1 y2 y3 y4 (-1) m
          · refine V.iload_n (pc := 240) C dX12_year_240 1 rfl ?_
            refine V.goto (pc := 241) C dX12_year_241 245 (by decide) ?_
            refine V.wk [0, 1, 2, 3, 4] rfl ?_
            exact v_X12_year_b245 C (X12_year_b194 n) ih y1 y2 y3 y4 y1 m
        · refine V.iload_n (pc := 230) C dX12_year_230 2 rfl ?_
          refine V.goto (pc := 231) C dX12_year_231 245 (by decide) ?_
          refine V.wk [0, 1, 2, 3, 4] rfl ?_
          exact v_X12_year_b245 C (X12_year_b194 n) ih y1 y2 y3 y4 y2 m
      · refine V.aload_n (pc := 210) C dX12_year_210 0 rfl ?_
        refine V.getr (pc := 211) C fl_RX12_13 sM0 kM0 rfl rM0_1 dX12_year_211 ?_
        refine V.sipush (pc := 214) C dX12_year_214 (v := 153) (by decide) ?_
        refine V.iload (pc := 217) C dX12_year_217 4 rfl ?_
        refine V.iadd (pc := 219) C dX12_year_219 ?_
        refine V.iald (pc := 220) C sM1 kM1 dX12_year_220 (fun _ => ?_)
        refine V.goto (pc := 221) C dX12_year_221 245 (by decide) ?_
        refine V.wk [0, 1, 2, 3, 4] rfl ?_
        exact v_X12_year_b245 C (X12_year_b194 n) ih y1 y2 y3 y4 (gi m 1 (ix (153 + y4))) m
set_option maxRecDepth 100000 in
set_option maxHeartbeats 4000000 in
theorem v_X12_year_b161 {l : Launch} {p : Program} {e : Env} {s : State} {mt : MethodId} {args : Array Value} {below : List Frame} {meth : Method} {c : Code} {A : Nat → Prop} {ad0 : Nat → Nat} {G : Gt}  (C : Cx G p s mt args meth c RX12 cX12_year 7 (some .int) "year" A)  : ∀ (n : Nat) (y1 : Int32) (y2 : Int32) (y3 : Int32) (y4 : Int32) (m : Mem), V G SM oI l p e s mt args below meth c 7 3 A ad0 17 17 RM 17 RM 161 [(0, .ref 0), (1, .int y1), (2, .int y2), (3, .int y3), (4, .int y4)] [] m (X12_year_b161  n y1 y2 y3 y4 m) := by
  intro n
  induction n with
  | zero =>
    intro y1 y2 y3 y4 m
    rw [X12_year_b161]
    exact V.nil
  | succ n ih =>
    intro y1 y2 y3 y4 m
    rw [X12_year_b161]
    refine V.iload (pc := 161) C dX12_year_161 4 rfl ?_
    refine V.aload_n (pc := 163) C dX12_year_163 0 rfl ?_
    refine V.getr (pc := 164) C fl_RX12_13 sM0 kM0 rfl rM0_1 dX12_year_164 ?_
    refine V.iconst (pc := 167) C dX12_year_167 (v := 2) (by decide) ?_
    refine V.iald (pc := 168) C sM1 kM1 dX12_year_168 (fun _ => ?_)
    refine V.icmp_ge (pc := 169) C dX12_year_169 191 (by decide) (fun _ => ?_) (fun _ => ?_)
    · refine V.iconst (pc := 191) C dX12_year_191 (v := 0) (by decide) ?_
      refine V.istore (pc := 192) C dX12_year_192 (L2 := [(4, .int 0), (0, .ref 0), (1, .int y1), (2, .int y2), (3, .int y3)]) (by decide) rfl ?_
      refine V.wk [1, 2, 3, 4, 0] rfl ?_
      exact v_X12_year_b194 C  FU y1 y2 y3 0 m
    · refine V.aload_n (pc := 172) C dX12_year_172 0 rfl ?_
      refine V.getr (pc := 173) C fl_RX12_39 sM0 kM0 rfl rM0_18 dX12_year_173 ?_
      refine V.iload (pc := 176) C dX12_year_176 4 rfl ?_
      refine V.aload_n (pc := 178) C dX12_year_178 0 rfl ?_
      refine V.iload (pc := 179) C dX12_year_179 4 rfl ?_
      refine V.callV (pc := 181) (st := [.int y4, .ref 8]) C (c_X12_listOf l y4 m) obI ck_X12_listOf ml_RX12_207 rfl rfl sM0 kM0 rfl rfl (Nat.le_of_ble_eq_true rfl) ⟨by decide, by decide⟩ dX12_year_181 (fun r_4 m_5 _ => ?_)
      refine V.iast (pc := 184) C sM8 kM8 dX12_year_184 (fun _ => ?_)
      refine V.ltm (fun m_6 => ?_)
      refine V.iinc (pc := 185) C dX12_year_185 (v := 1) (L2 := [(4, .int (y4 + 1)), (0, .ref 0), (1, .int y1), (2, .int y2), (3, .int y3)]) 4 rfl (by decide) (by decide) rfl ?_
      refine V.goto (pc := 188) C dX12_year_188 161 (by decide) ?_
      refine V.wk [1, 2, 3, 4, 0] rfl ?_
      exact ih y1 y2 y3 (y4 + 1) m_6
set_option maxRecDepth 100000 in
set_option maxHeartbeats 4000000 in
theorem v_X12_year_b61 {l : Launch} {p : Program} {e : Env} {s : State} {mt : MethodId} {args : Array Value} {below : List Frame} {meth : Method} {c : Code} {A : Nat → Prop} {ad0 : Nat → Nat} {G : Gt}  (C : Cx G p s mt args meth c RX12 cX12_year 7 (some .int) "year" A) (k5 : Int32 → Int32 → Int32 → Int32 → Mem → Option (Int32 × Mem)) (h5 : ∀ (y1 : Int32) (y2 : Int32) (y3 : Int32) (y4 : Int32) (m : Mem), V G SM oI l p e s mt args below meth c 7 3 A ad0 17 17 RM 17 RM 5 [(0, .ref 0), (1, .int y1), (2, .int y2), (3, .int y3), (4, .int y4)] [] m (k5 y1 y2 y3 y4 m)) (k33 : Int32 → Int32 → Int32 → Int32 → Int32 → Mem → Option (Int32 × Mem)) (h33 : ∀ (y1 : Int32) (y2 : Int32) (y3 : Int32) (y4 : Int32) (y5 : Int32) (m : Mem), V G SM oI l p e s mt args below meth c 7 3 A ad0 17 17 RM 17 RM 33 [(0, .ref 0), (1, .int y1), (2, .int y2), (3, .int y3), (4, .int y4), (5, .int y5)] [] m (k33 y1 y2 y3 y4 y5 m)) (y1 : Int32) (y2 : Int32) (y3 : Int32) (y4 : Int32) (y5 : Int32) (m : Mem) : V G SM oI l p e s mt args below meth c 7 3 A ad0 17 17 RM 17 RM 61 [(0, .ref 0), (1, .int y1), (2, .int y2), (3, .int y3), (4, .int y4), (5, .int y5)] [] m (X12_year_b61 k5 k33 y1 y2 y3 y4 y5 m) := by
  rw [X12_year_b61]
  refine V.bipush (pc := 61) C dX12_year_61 (v := 41) (by decide) ?_
  refine V.bipush (pc := 63) C dX12_year_63 (v := 14) (by decide) ?_
  refine V.iload (pc := 65) C dX12_year_65 4 rfl ?_
  refine V.imul (pc := 67) C dX12_year_67 ?_
  refine V.iadd (pc := 68) C dX12_year_68 ?_
  refine V.iload (pc := 69) C dX12_year_69 5 rfl ?_
  refine V.iadd (pc := 71) C dX12_year_71 ?_
  refine V.lti (fun x_9 _ => ?_)
  refine V.istore (pc := 72) C dX12_year_72 (L2 := [(6, .int x_9), (0, .ref 0), (1, .int y1), (2, .int y2), (3, .int y3), (4, .int y4), (5, .int y5)]) (by decide) rfl ?_
  refine V.aload_n (pc := 74) C dX12_year_74 1 rfl ?_
  refine V.getr (pc := 75) C fl_RX12_13 sM0 kM0 rfl rM0_1 dX12_year_75 ?_
  refine V.iload (pc := 78) C dX12_year_78 0 rfl ?_
  refine V.iald (pc := 80) C sM1 kM1 dX12_year_80 (fun _ => ?_)
  refine V.iconst (pc := 81) C dX12_year_81 (v := (-1)) (by decide) ?_
  refine V.icmp_ne (pc := 82) C dX12_year_82 88 (by decide) (fun _ => ?_) (fun _ => ?_)
  · refine V.aload_n (pc := 88) C dX12_year_88 1 rfl ?_
    refine V.getr (pc := 89) C fl_RX12_13 sM0 kM0 rfl rM0_1 dX12_year_89 ?_
    refine V.iload (pc := 92) C dX12_year_92 0 rfl ?_
    refine V.dup2 (pc := 94) C dX12_year_94 rfl rfl ?_
    refine V.iald (pc := 95) C sM1 kM1 dX12_year_95 (fun _ => ?_)
    refine V.iconst (pc := 96) C dX12_year_96 (v := 1) (by decide) ?_
    refine V.iadd (pc := 97) C dX12_year_97 ?_
    refine V.iast (pc := 98) C sM1 kM1 dX12_year_98 (fun _ => ?_)
    refine V.ltm (fun m_10 => ?_)
    refine V.aload_n (pc := 99) C dX12_year_99 1 rfl ?_
    refine V.getr (pc := 100) C fl_RX12_13 sM0 kM0 rfl rM0_1 dX12_year_100 ?_
    refine V.bipush (pc := 103) C dX12_year_103 (v := 11) (by decide) ?_
    refine V.iload (pc := 105) C dX12_year_105 6 rfl ?_
    refine V.iadd (pc := 107) C dX12_year_107 ?_
    refine V.iald (pc := 108) C sM1 kM1 dX12_year_108 (fun _ => ?_)
    refine V.if_eq (pc := 109) C dX12_year_109 146 (by decide) (fun _ => ?_) (fun _ => ?_)
    · refine V.iinc (pc := 146) C dX12_year_146 (v := 1) (L2 := [(5, .int (y5 + 1)), (6, .int x_9), (0, .ref 0), (1, .int y1), (2, .int y2), (3, .int y3), (4, .int y4)]) 6 rfl (by decide) (by decide) rfl ?_
      refine V.goto (pc := 149) C dX12_year_149 33 (by decide) ?_
      refine V.wk [2, 3, 4, 5, 6, 0] rfl ?_
      exact h33 y1 y2 y3 y4 (y5 + 1) m_10
    · refine V.aload_n (pc := 112) C dX12_year_112 1 rfl ?_
      refine V.getr (pc := 113) C fl_RX12_13 sM0 kM0 rfl rM0_1 dX12_year_113 ?_
      refine V.iload (pc := 116) C dX12_year_116 0 rfl ?_
      refine V.iald (pc := 118) C sM1 kM1 dX12_year_118 (fun _ => ?_)
      refine V.aload_n (pc := 119) C dX12_year_119 1 rfl ?_
      refine V.getr (pc := 120) C fl_RX12_13 sM0 kM0 rfl rM0_1 dX12_year_120 ?_
      refine V.bipush (pc := 123) C dX12_year_123 (v := 11) (by decide) ?_
      refine V.iload (pc := 125) C dX12_year_125 6 rfl ?_
      refine V.iadd (pc := 127) C dX12_year_127 ?_
      refine V.iald (pc := 128) C sM1 kM1 dX12_year_128 (fun _ => ?_)
      refine V.icmp_ge (pc := 129) C dX12_year_129 135 (by decide) (fun _ => ?_) (fun _ => ?_)
      · refine V.aload_n (pc := 135) C dX12_year_135 1 rfl ?_
        refine V.getr (pc := 136) C fl_RX12_13 sM0 kM0 rfl rM0_1 dX12_year_136 ?_
        refine V.iload (pc := 139) C dX12_year_139 0 rfl ?_
        refine V.iconst (pc := 141) C dX12_year_141 (v := (-1)) (by decide) ?_
        refine V.iast (pc := 142) C sM1 kM1 dX12_year_142 (fun _ => ?_)
        refine V.ltm (fun m_11 => ?_)
        refine V.iinc (pc := 143) C dX12_year_143 (v := 1) (L2 := [(3, .int (y3 + 1)), (6, .int x_9), (0, .ref 0), (1, .int y1), (2, .int y2), (4, .int y4), (5, .int y5)]) 4 rfl (by decide) (by decide) rfl ?_
        refine V.iinc (pc := 146) C dX12_year_146 (v := 1) (L2 := [(5, .int (y5 + 1)), (3, .int (y3 + 1)), (6, .int x_9), (0, .ref 0), (1, .int y1), (2, .int y2), (4, .int y4)]) 6 rfl (by decide) (by decide) rfl ?_
        refine V.goto (pc := 149) C dX12_year_149 33 (by decide) ?_
        refine V.wk [3, 4, 5, 1, 6, 0] rfl ?_
        exact h33 y1 y2 (y3 + 1) y4 (y5 + 1) m_11
      · refine V.goto (pc := 132) C dX12_year_132 146 (by decide) ?_
        refine V.iinc (pc := 146) C dX12_year_146 (v := 1) (L2 := [(5, .int (y5 + 1)), (6, .int x_9), (0, .ref 0), (1, .int y1), (2, .int y2), (3, .int y3), (4, .int y4)]) 6 rfl (by decide) (by decide) rfl ?_
        refine V.goto (pc := 149) C dX12_year_149 33 (by decide) ?_
        refine V.wk [2, 3, 4, 5, 6, 0] rfl ?_
        exact h33 y1 y2 y3 y4 (y5 + 1) m_10
  · refine V.goto (pc := 85) C dX12_year_85 146 (by decide) ?_
    refine V.iinc (pc := 146) C dX12_year_146 (v := 1) (L2 := [(5, .int (y5 + 1)), (6, .int x_9), (0, .ref 0), (1, .int y1), (2, .int y2), (3, .int y3), (4, .int y4)]) 6 rfl (by decide) (by decide) rfl ?_
    refine V.goto (pc := 149) C dX12_year_149 33 (by decide) ?_
    refine V.wk [2, 3, 4, 5, 6, 0] rfl ?_
    exact h33 y1 y2 y3 y4 (y5 + 1) m
set_option maxRecDepth 100000 in
set_option maxHeartbeats 4000000 in
theorem v_X12_year_b33 {l : Launch} {p : Program} {e : Env} {s : State} {mt : MethodId} {args : Array Value} {below : List Frame} {meth : Method} {c : Code} {A : Nat → Prop} {ad0 : Nat → Nat} {G : Gt}  (C : Cx G p s mt args meth c RX12 cX12_year 7 (some .int) "year" A) (k5 : Int32 → Int32 → Int32 → Int32 → Mem → Option (Int32 × Mem)) (h5 : ∀ (y1 : Int32) (y2 : Int32) (y3 : Int32) (y4 : Int32) (m : Mem), V G SM oI l p e s mt args below meth c 7 3 A ad0 17 17 RM 17 RM 5 [(0, .ref 0), (1, .int y1), (2, .int y2), (3, .int y3), (4, .int y4)] [] m (k5 y1 y2 y3 y4 m)) : ∀ (n : Nat) (y1 : Int32) (y2 : Int32) (y3 : Int32) (y4 : Int32) (y5 : Int32) (m : Mem), V G SM oI l p e s mt args below meth c 7 3 A ad0 17 17 RM 17 RM 33 [(0, .ref 0), (1, .int y1), (2, .int y2), (3, .int y3), (4, .int y4), (5, .int y5)] [] m (X12_year_b33 k5 n y1 y2 y3 y4 y5 m) := by
  intro n
  induction n with
  | zero =>
    intro y1 y2 y3 y4 y5 m
    rw [X12_year_b33]
    exact V.nil
  | succ n ih =>
    intro y1 y2 y3 y4 y5 m
    rw [X12_year_b33]
    refine V.iload (pc := 33) C dX12_year_33 5 rfl ?_
    refine V.aload_n (pc := 35) C dX12_year_35 0 rfl ?_
    refine V.getr (pc := 36) C fl_RX12_13 sM0 kM0 rfl rM0_1 dX12_year_36 ?_
    refine V.iconst (pc := 39) C dX12_year_39 (v := 1) (by decide) ?_
    refine V.iald (pc := 40) C sM1 kM1 dX12_year_40 (fun _ => ?_)
    refine V.icmp_ge (pc := 41) C dX12_year_41 152 (by decide) (fun _ => ?_) (fun _ => ?_)
    · refine V.iinc (pc := 152) C dX12_year_152 (v := 1) (L2 := [(4, .int (y4 + 1)), (0, .ref 0), (1, .int y1), (2, .int y2), (3, .int y3), (5, .int y5)]) 4 rfl (by decide) (by decide) rfl ?_
      refine V.goto (pc := 155) C dX12_year_155 5 (by decide) ?_
      refine V.wk [1, 2, 3, 4, 0] rfl ?_
      exact h5 y1 y2 y3 (y4 + 1) m
    · refine V.iload_n (pc := 44) C dX12_year_44 1 rfl ?_
      refine V.iconst (pc := 45) C dX12_year_45 (v := (-1)) (by decide) ?_
      refine V.icmp_eq (pc := 46) C dX12_year_46 61 (by decide) (fun _ => ?_) (fun _ => ?_)
      · refine V.wk [0, 1, 2, 3, 4, 5] rfl ?_
        exact v_X12_year_b61 C k5 h5 (X12_year_b33 k5 n) ih y1 y2 y3 y4 y5 m
      · refine V.iload (pc := 49) C dX12_year_49 4 rfl ?_
        refine V.iload_n (pc := 51) C dX12_year_51 1 rfl ?_
        refine V.icmp_eq (pc := 52) C dX12_year_52 61 (by decide) (fun _ => ?_) (fun _ => ?_)
        · refine V.wk [0, 1, 2, 3, 4, 5] rfl ?_
          exact v_X12_year_b61 C k5 h5 (X12_year_b33 k5 n) ih y1 y2 y3 y4 y5 m
        · refine V.iload (pc := 55) C dX12_year_55 4 rfl ?_
          refine V.iload_n (pc := 57) C dX12_year_57 2 rfl ?_
          refine V.icmp_ne (pc := 58) C dX12_year_58 152 (by decide) (fun _ => ?_) (fun _ => ?_)
          · refine V.iinc (pc := 152) C dX12_year_152 (v := 1) (L2 := [(4, .int (y4 + 1)), (0, .ref 0), (1, .int y1), (2, .int y2), (3, .int y3), (5, .int y5)]) 4 rfl (by decide) (by decide) rfl ?_
            refine V.goto (pc := 155) C dX12_year_155 5 (by decide) ?_
            refine V.wk [1, 2, 3, 4, 0] rfl ?_
            exact h5 y1 y2 y3 (y4 + 1) m
          · refine V.wk [0, 1, 2, 3, 4, 5] rfl ?_
            exact v_X12_year_b61 C k5 h5 (X12_year_b33 k5 n) ih y1 y2 y3 y4 y5 m
set_option maxRecDepth 100000 in
set_option maxHeartbeats 4000000 in
theorem v_X12_year_b5 {l : Launch} {p : Program} {e : Env} {s : State} {mt : MethodId} {args : Array Value} {below : List Frame} {meth : Method} {c : Code} {A : Nat → Prop} {ad0 : Nat → Nat} {G : Gt}  (C : Cx G p s mt args meth c RX12 cX12_year 7 (some .int) "year" A)  : ∀ (n : Nat) (y1 : Int32) (y2 : Int32) (y3 : Int32) (y4 : Int32) (m : Mem), V G SM oI l p e s mt args below meth c 7 3 A ad0 17 17 RM 17 RM 5 [(0, .ref 0), (1, .int y1), (2, .int y2), (3, .int y3), (4, .int y4)] [] m (X12_year_b5  n y1 y2 y3 y4 m) := by
  intro n
  induction n with
  | zero =>
    intro y1 y2 y3 y4 m
    rw [X12_year_b5]
    exact V.nil
  | succ n ih =>
    intro y1 y2 y3 y4 m
    rw [X12_year_b5]
    refine V.iload (pc := 5) C dX12_year_5 4 rfl ?_
    refine V.aload_n (pc := 7) C dX12_year_7 0 rfl ?_
    refine V.getr (pc := 8) C fl_RX12_13 sM0 kM0 rfl rM0_1 dX12_year_8 ?_
    refine V.iconst (pc := 11) C dX12_year_11 (v := 2) (by decide) ?_
    refine V.iald (pc := 12) C sM1 kM1 dX12_year_12 (fun _ => ?_)
    refine V.icmp_ge (pc := 13) C dX12_year_13 158 (by decide) (fun _ => ?_) (fun _ => ?_)
    · refine V.iconst (pc := 158) C dX12_year_158 (v := 0) (by decide) ?_
      refine V.istore (pc := 159) C dX12_year_159 (L2 := [(4, .int 0), (0, .ref 0), (1, .int y1), (2, .int y2), (3, .int y3)]) (by decide) rfl ?_
      refine V.wk [1, 2, 3, 4, 0] rfl ?_
      exact v_X12_year_b161 C  FU y1 y2 y3 0 m
    · refine V.aload_n (pc := 16) C dX12_year_16 0 rfl ?_
      refine V.getr (pc := 17) C fl_RX12_13 sM0 kM0 rfl rM0_1 dX12_year_17 ?_
      refine V.bipush (pc := 20) C dX12_year_20 (v := 33) (by decide) ?_
      refine V.iload (pc := 22) C dX12_year_22 4 rfl ?_
      refine V.iadd (pc := 24) C dX12_year_24 ?_
      refine V.lti (fun x_7 _ => ?_)
      refine V.dup2 (pc := 25) C dX12_year_25 rfl rfl ?_
      refine V.iald (pc := 26) C sM1 kM1 dX12_year_26 (fun _ => ?_)
      refine V.iconst (pc := 27) C dX12_year_27 (v := 1) (by decide) ?_
      refine V.iadd (pc := 28) C dX12_year_28 ?_
      refine V.iast (pc := 29) C sM1 kM1 dX12_year_29 (fun _ => ?_)
      refine V.ltm (fun m_8 => ?_)
      refine V.iconst (pc := 30) C dX12_year_30 (v := 0) (by decide) ?_
      refine V.istore (pc := 31) C dX12_year_31 (L2 := [(5, .int 0), (0, .ref 0), (1, .int y1), (2, .int y2), (3, .int y3), (4, .int y4)]) (by decide) rfl ?_
      refine V.wk [1, 2, 3, 4, 5, 0] rfl ?_
      exact v_X12_year_b33 C (X12_year_b5 n) ih FU y1 y2 y3 y4 0 m_8
set_option maxRecDepth 100000 in
set_option maxHeartbeats 4000000 in
theorem v_X12_year {l : Launch} {p : Program} {e : Env} {s : State} {mt : MethodId} {args : Array Value} {below : List Frame} {meth : Method} {c : Code} {A : Nat → Prop} {ad0 : Nat → Nat} {G : Gt}  (C : Cx G p s mt args meth c RX12 cX12_year 7 (some .int) "year" A)  (x1 : Int32) (x2 : Int32) (m : Mem) : V G SM oI l p e s mt args below meth c 7 3 A ad0 17 17 RM 17 RM 0 [(0, .ref 0), (1, .int x1), (2, .int x2)] [] m (X12_year  x1 x2 m) := by
  rw [X12_year]
  refine V.iconst (pc := 0) C dX12_year_0 (v := 0) (by decide) ?_
  refine V.istore_n (pc := 1) C dX12_year_1 (L2 := [(3, .int 0), (0, .ref 0), (1, .int x1), (2, .int x2)]) (by decide) rfl ?_
  refine V.iconst (pc := 2) C dX12_year_2 (v := 0) (by decide) ?_
  refine V.istore (pc := 3) C dX12_year_3 (L2 := [(4, .int 0), (3, .int 0), (0, .ref 0), (1, .int x1), (2, .int x2)]) (by decide) rfl ?_
  refine V.wk [2, 3, 4, 1, 0] rfl ?_
  exact v_X12_year_b5 C  FU x1 x2 0 0 m
theorem c_X12_year (l : Launch)   (x1 : Int32) (x2 : Int32) (m : Mem) : Ct l yX12_year cX12_year 7 (some .int) 3 SM oI 17 17 RM RM [.ref 0, .int x1, .int x2] m (X12_year  x1 x2 m) :=
  Ct.of (own := RX12) (nm := "year") (by decide) rfl rfl (Nat.le_of_ble_eq_true rfl) (fun _ _ _ _ _ _ _ _ _ _ _ C => v_X12_year C  x1 x2 m)
theorem dX12_isAhead_0 : decode cX12_isAhead 0 = .ok (.iconst 0, 1) := by decide +kernel
theorem dX12_isAhead_1 : decode cX12_isAhead 1 = .ok (.istore_n 1, 1) := by decide +kernel
theorem dX12_isAhead_2 : decode cX12_isAhead 2 = .ok (.iload_n 1, 1) := by decide +kernel
theorem dX12_isAhead_3 : decode cX12_isAhead 3 = .ok (.sipush 129, 3) := by decide +kernel
theorem dX12_isAhead_6 : decode cX12_isAhead 6 = .ok (.if_icmp .ge 24, 3) := by decide +kernel
theorem dX12_isAhead_9 : decode cX12_isAhead 9 = .ok (.aload_n 0, 1) := by decide +kernel
theorem dX12_isAhead_10 : decode cX12_isAhead 10 = .ok (.getfield 13, 3) := by decide +kernel
theorem dX12_isAhead_13 : decode cX12_isAhead 13 = .ok (.bipush 33, 2) := by decide +kernel
theorem dX12_isAhead_15 : decode cX12_isAhead 15 = .ok (.iload_n 1, 1) := by decide +kernel
theorem dX12_isAhead_16 : decode cX12_isAhead 16 = .ok (.iadd, 1) := by decide +kernel
theorem dX12_isAhead_17 : decode cX12_isAhead 17 = .ok (.aload_n 0, 1) := by decide +kernel
theorem dX12_isAhead_18 : decode cX12_isAhead 18 = .ok (.getfield 54, 3) := by decide +kernel
theorem dX12_isAhead_21 : decode cX12_isAhead 21 = .ok (.iload_n 1, 1) := by decide +kernel
theorem dX12_isAhead_22 : decode cX12_isAhead 22 = .ok (.iaload, 1) := by decide +kernel
theorem dX12_isAhead_23 : decode cX12_isAhead 23 = .ok (.iastore, 1) := by decide +kernel
theorem dX12_isAhead_24 : decode cX12_isAhead 24 = .ok (.iinc 1 1, 3) := by decide +kernel
theorem dX12_isAhead_27 : decode cX12_isAhead 27 = .ok (.goto (-25), 3) := by decide +kernel
theorem dX12_isAhead_30 : decode cX12_isAhead 30 = .ok (.return_, 1) := by decide +kernel
set_option maxRecDepth 100000 in
set_option maxHeartbeats 4000000 in
theorem v_X12_isAhead_b2 {l : Launch} {p : Program} {e : Env} {s : State} {mt : MethodId} {args : Array Value} {below : List Frame} {meth : Method} {c : Code} {A : Nat → Prop} {ad0 : Nat → Nat} {G : Gt}  (C : Cx G p s mt args meth c RX12 cX12_isAhead 2 none "isAhead" A)  : ∀ (n : Nat) (y1 : Int32) (m : Mem), V G SM oV l p e s mt args below meth c 2 1 A ad0 17 17 RM 17 RM 2 [(0, .ref 0), (1, .int y1)] [] m (X12_isAhead_b2  n y1 m) := by
  intro n
  induction n with
  | zero =>
    intro y1 m
    rw [X12_isAhead_b2]
    exact V.nil
  | succ n ih =>
    intro y1 m
    rw [X12_isAhead_b2]
    refine V.iload_n (pc := 2) C dX12_isAhead_2 1 rfl ?_
    refine V.sipush (pc := 3) C dX12_isAhead_3 (v := 129) (by decide) ?_
    refine V.icmp_ge (pc := 6) C dX12_isAhead_6 30 (by decide) (fun _ => ?_) (fun _ => ?_)
    · exact V.vret C dX12_isAhead_30
    · refine V.aload_n (pc := 9) C dX12_isAhead_9 0 rfl ?_
      refine V.getr (pc := 10) C fl_RX12_13 sM0 kM0 rfl rM0_1 dX12_isAhead_10 ?_
      refine V.bipush (pc := 13) C dX12_isAhead_13 (v := 33) (by decide) ?_
      refine V.iload_n (pc := 15) C dX12_isAhead_15 1 rfl ?_
      refine V.iadd (pc := 16) C dX12_isAhead_16 ?_
      refine V.aload_n (pc := 17) C dX12_isAhead_17 0 rfl ?_
      refine V.getr (pc := 18) C fl_RX12_54 sM0 kM0 rfl rM0_29 dX12_isAhead_18 ?_
      refine V.iload_n (pc := 21) C dX12_isAhead_21 1 rfl ?_
      refine V.iald (pc := 22) C sM13 kM13 dX12_isAhead_22 (fun _ => ?_)
      refine V.iast (pc := 23) C sM1 kM1 dX12_isAhead_23 (fun _ => ?_)
      refine V.ltm (fun m_1 => ?_)
      refine V.iinc (pc := 24) C dX12_isAhead_24 (v := 1) (L2 := [(1, .int (y1 + 1)), (0, .ref 0)]) 1 rfl (by decide) (by decide) rfl ?_
      refine V.goto (pc := 27) C dX12_isAhead_27 2 (by decide) ?_
      refine V.wk [1, 0] rfl ?_
      exact ih (y1 + 1) m_1
set_option maxRecDepth 100000 in
set_option maxHeartbeats 4000000 in
theorem v_X12_isAhead {l : Launch} {p : Program} {e : Env} {s : State} {mt : MethodId} {args : Array Value} {below : List Frame} {meth : Method} {c : Code} {A : Nat → Prop} {ad0 : Nat → Nat} {G : Gt}  (C : Cx G p s mt args meth c RX12 cX12_isAhead 2 none "isAhead" A)  (m : Mem) : V G SM oV l p e s mt args below meth c 2 1 A ad0 17 17 RM 17 RM 0 [(0, .ref 0)] [] m (X12_isAhead   m) := by
  rw [X12_isAhead]
  refine V.iconst (pc := 0) C dX12_isAhead_0 (v := 0) (by decide) ?_
  refine V.istore_n (pc := 1) C dX12_isAhead_1 (L2 := [(1, .int 0), (0, .ref 0)]) (by decide) rfl ?_
  refine V.wk [1, 0] rfl ?_
  exact v_X12_isAhead_b2 C  FU 0 m
theorem c_X12_isAhead (l : Launch)   (m : Mem) : Ct l yX12_isAhead cX12_isAhead 2 none 1 SM oV 17 17 RM RM [.ref 0] m (X12_isAhead   m) :=
  Ct.of (own := RX12) (nm := "isAhead") (by decide) rfl rfl (Nat.le_of_ble_eq_true rfl) (fun _ _ _ _ _ _ _ _ _ _ _ C => v_X12_isAhead C   m)
theorem dX12_holdsFor_0 : decode cX12_holdsFor 0 = .ok (.aload_n 0, 1) := by decide +kernel
theorem dX12_holdsFor_1 : decode cX12_holdsFor 1 = .ok (.invokevirtual 361, 3) := by decide +kernel
theorem dX12_holdsFor_4 : decode cX12_holdsFor 4 = .ok (.iconst 0, 1) := by decide +kernel
theorem dX12_holdsFor_5 : decode cX12_holdsFor 5 = .ok (.istore_n 3, 1) := by decide +kernel
theorem dX12_holdsFor_6 : decode cX12_holdsFor 6 = .ok (.iload_n 3, 1) := by decide +kernel
theorem dX12_holdsFor_7 : decode cX12_holdsFor 7 = .ok (.bipush 40, 2) := by decide +kernel
theorem dX12_holdsFor_9 : decode cX12_holdsFor 9 = .ok (.if_icmp .ge 31, 3) := by decide +kernel
theorem dX12_holdsFor_12 : decode cX12_holdsFor 12 = .ok (.aload_n 0, 1) := by decide +kernel
theorem dX12_holdsFor_13 : decode cX12_holdsFor 13 = .ok (.iload_n 1, 1) := by decide +kernel
theorem dX12_holdsFor_14 : decode cX12_holdsFor 14 = .ok (.iload_n 2, 1) := by decide +kernel
theorem dX12_holdsFor_15 : decode cX12_holdsFor 15 = .ok (.invokevirtual 240, 3) := by decide +kernel
theorem dX12_holdsFor_18 : decode cX12_holdsFor 18 = .ok (.aload_n 0, 1) := by decide +kernel
theorem dX12_holdsFor_19 : decode cX12_holdsFor 19 = .ok (.getfield 13, 3) := by decide +kernel
theorem dX12_holdsFor_22 : decode cX12_holdsFor 22 = .ok (.iconst 3, 1) := by decide +kernel
theorem dX12_holdsFor_23 : decode cX12_holdsFor 23 = .ok (.iaload, 1) := by decide +kernel
theorem dX12_holdsFor_24 : decode cX12_holdsFor 24 = .ok (.if_icmp .lt 16, 3) := by decide +kernel
theorem dX12_holdsFor_27 : decode cX12_holdsFor 27 = .ok (.aload_n 0, 1) := by decide +kernel
theorem dX12_holdsFor_28 : decode cX12_holdsFor 28 = .ok (.iload_n 1, 1) := by decide +kernel
theorem dX12_holdsFor_29 : decode cX12_holdsFor 29 = .ok (.iload_n 2, 1) := by decide +kernel
theorem dX12_holdsFor_30 : decode cX12_holdsFor 30 = .ok (.invokevirtual 255, 3) := by decide +kernel
theorem dX12_holdsFor_33 : decode cX12_holdsFor 33 = .ok (.pop, 1) := by decide +kernel
theorem dX12_holdsFor_34 : decode cX12_holdsFor 34 = .ok (.iinc 3 1, 3) := by decide +kernel
theorem dX12_holdsFor_37 : decode cX12_holdsFor 37 = .ok (.goto (-31), 3) := by decide +kernel
theorem dX12_holdsFor_40 : decode cX12_holdsFor 40 = .ok (.aload_n 0, 1) := by decide +kernel
theorem dX12_holdsFor_41 : decode cX12_holdsFor 41 = .ok (.invokevirtual 364, 3) := by decide +kernel
theorem dX12_holdsFor_44 : decode cX12_holdsFor 44 = .ok (.iload_n 3, 1) := by decide +kernel
theorem dX12_holdsFor_45 : decode cX12_holdsFor 45 = .ok (.ireturn, 1) := by decide +kernel
set_option maxRecDepth 100000 in
set_option maxHeartbeats 4000000 in
theorem v_X12_holdsFor_b6 {l : Launch} {p : Program} {e : Env} {s : State} {mt : MethodId} {args : Array Value} {below : List Frame} {meth : Method} {c : Code} {A : Nat → Prop} {ad0 : Nat → Nat} {G : Gt}  (C : Cx G p s mt args meth c RX12 cX12_holdsFor 4 (some .int) "holdsFor" A)  : ∀ (n : Nat) (y1 : Int32) (y2 : Int32) (y3 : Int32) (m : Mem), V G SM oI l p e s mt args below meth c 4 6 A ad0 17 17 RM 17 RM 6 [(0, .ref 0), (1, .int y1), (2, .int y2), (3, .int y3)] [] m (X12_holdsFor_b6  n y1 y2 y3 m) := by
  intro n
  induction n with
  | zero =>
    intro y1 y2 y3 m
    rw [X12_holdsFor_b6]
    exact V.nil
  | succ n ih =>
    intro y1 y2 y3 m
    rw [X12_holdsFor_b6]
    refine V.iload_n (pc := 6) C dX12_holdsFor_6 3 rfl ?_
    refine V.bipush (pc := 7) C dX12_holdsFor_7 (v := 40) (by decide) ?_
    refine V.icmp_ge (pc := 9) C dX12_holdsFor_9 40 (by decide) (fun _ => ?_) (fun _ => ?_)
    · refine V.aload_n (pc := 40) C dX12_holdsFor_40 0 rfl ?_
      refine V.callV (pc := 41) (st := []) C (c_X12_isAhead l  m) obV ck_X12_isAhead ml_RX12_364 rfl rfl sM0 kM0 rfl rfl (Nat.le_of_ble_eq_true rfl) ⟨by decide, by decide⟩ dX12_holdsFor_41 (fun r_3 m_4 _ => ?_)
      refine V.iload_n (pc := 44) C dX12_holdsFor_44 3 rfl ?_
      exact V.iret C dX12_holdsFor_45
    · refine V.aload_n (pc := 12) C dX12_holdsFor_12 0 rfl ?_
      refine V.iload_n (pc := 13) C dX12_holdsFor_13 1 rfl ?_
      refine V.iload_n (pc := 14) C dX12_holdsFor_14 2 rfl ?_
      refine V.callV (pc := 15) (st := []) C (c_X12_goodOf l y1 y2 m) obI ck_X12_goodOf ml_RX12_240 rfl rfl sM0 kM0 rfl rfl (Nat.le_of_ble_eq_true rfl) ⟨by decide, by decide⟩ dX12_holdsFor_15 (fun r_5 m_6 _ => ?_)
      refine V.aload_n (pc := 18) C dX12_holdsFor_18 0 rfl ?_
      refine V.getr (pc := 19) C fl_RX12_13 sM0 kM0 rfl rM0_1 dX12_holdsFor_19 ?_
      refine V.iconst (pc := 22) C dX12_holdsFor_22 (v := 3) (by decide) ?_
      refine V.iald (pc := 23) C sM1 kM1 dX12_holdsFor_23 (fun _ => ?_)
      refine V.icmp_lt (pc := 24) C dX12_holdsFor_24 40 (by decide) (fun _ => ?_) (fun _ => ?_)
      · refine V.aload_n (pc := 40) C dX12_holdsFor_40 0 rfl ?_
        refine V.callV (pc := 41) (st := []) C (c_X12_isAhead l  m_6) obV ck_X12_isAhead ml_RX12_364 rfl rfl sM0 kM0 rfl rfl (Nat.le_of_ble_eq_true rfl) ⟨by decide, by decide⟩ dX12_holdsFor_41 (fun r_7 m_8 _ => ?_)
        refine V.iload_n (pc := 44) C dX12_holdsFor_44 3 rfl ?_
        exact V.iret C dX12_holdsFor_45
      · refine V.aload_n (pc := 27) C dX12_holdsFor_27 0 rfl ?_
        refine V.iload_n (pc := 28) C dX12_holdsFor_28 1 rfl ?_
        refine V.iload_n (pc := 29) C dX12_holdsFor_29 2 rfl ?_
        refine V.callV (pc := 30) (st := []) C (c_X12_year l y1 y2 m_6) obI ck_X12_year ml_RX12_255 rfl rfl sM0 kM0 rfl rfl (Nat.le_of_ble_eq_true rfl) ⟨by decide, by decide⟩ dX12_holdsFor_30 (fun r_9 m_10 _ => ?_)
        refine V.pop (pc := 33) C dX12_holdsFor_33 rfl ?_
        refine V.iinc (pc := 34) C dX12_holdsFor_34 (v := 1) (L2 := [(3, .int (y3 + 1)), (0, .ref 0), (1, .int y1), (2, .int y2)]) 3 rfl (by decide) (by decide) rfl ?_
        refine V.goto (pc := 37) C dX12_holdsFor_37 6 (by decide) ?_
        refine V.wk [1, 2, 3, 0] rfl ?_
        exact ih y1 y2 (y3 + 1) m_10
set_option maxRecDepth 100000 in
set_option maxHeartbeats 4000000 in
theorem v_X12_holdsFor {l : Launch} {p : Program} {e : Env} {s : State} {mt : MethodId} {args : Array Value} {below : List Frame} {meth : Method} {c : Code} {A : Nat → Prop} {ad0 : Nat → Nat} {G : Gt}  (C : Cx G p s mt args meth c RX12 cX12_holdsFor 4 (some .int) "holdsFor" A)  (x1 : Int32) (x2 : Int32) (m : Mem) : V G SM oI l p e s mt args below meth c 4 6 A ad0 17 17 RM 17 RM 0 [(0, .ref 0), (1, .int x1), (2, .int x2)] [] m (X12_holdsFor  x1 x2 m) := by
  rw [X12_holdsFor]
  refine V.aload_n (pc := 0) C dX12_holdsFor_0 0 rfl ?_
  refine V.callV (pc := 1) (st := []) C (c_X12_keepsAhead l  m) obV ck_X12_keepsAhead ml_RX12_361 rfl rfl sM0 kM0 rfl rfl (Nat.le_of_ble_eq_true rfl) ⟨by decide, by decide⟩ dX12_holdsFor_1 (fun r_1 m_2 _ => ?_)
  refine V.iconst (pc := 4) C dX12_holdsFor_4 (v := 0) (by decide) ?_
  refine V.istore_n (pc := 5) C dX12_holdsFor_5 (L2 := [(3, .int 0), (0, .ref 0), (1, .int x1), (2, .int x2)]) (by decide) rfl ?_
  refine V.wk [1, 2, 3, 0] rfl ?_
  exact v_X12_holdsFor_b6 C  FU x1 x2 0 m_2
theorem c_X12_holdsFor (l : Launch)   (x1 : Int32) (x2 : Int32) (m : Mem) : Ct l yX12_holdsFor cX12_holdsFor 4 (some .int) 6 SM oI 17 17 RM RM [.ref 0, .int x1, .int x2] m (X12_holdsFor  x1 x2 m) :=
  Ct.of (own := RX12) (nm := "holdsFor") (by decide) rfl rfl (Nat.le_of_ble_eq_true rfl) (fun _ _ _ _ _ _ _ _ _ _ _ C => v_X12_holdsFor C  x1 x2 m)
theorem dX12_laysPairs_0 : decode cX12_laysPairs 0 = .ok (.iconst 0, 1) := by decide +kernel
theorem dX12_laysPairs_1 : decode cX12_laysPairs 1 = .ok (.istore_n 3, 1) := by decide +kernel
theorem dX12_laysPairs_2 : decode cX12_laysPairs 2 = .ok (.iload_n 3, 1) := by decide +kernel
theorem dX12_laysPairs_3 : decode cX12_laysPairs 3 = .ok (.aload_n 0, 1) := by decide +kernel
theorem dX12_laysPairs_4 : decode cX12_laysPairs 4 = .ok (.getfield 13, 3) := by decide +kernel
theorem dX12_laysPairs_7 : decode cX12_laysPairs 7 = .ok (.iconst 2, 1) := by decide +kernel
theorem dX12_laysPairs_8 : decode cX12_laysPairs 8 = .ok (.iaload, 1) := by decide +kernel
theorem dX12_laysPairs_9 : decode cX12_laysPairs 9 = .ok (.if_icmp .ge 118, 3) := by decide +kernel
theorem dX12_laysPairs_12 : decode cX12_laysPairs 12 = .ok (.iconst 0, 1) := by decide +kernel
theorem dX12_laysPairs_13 : decode cX12_laysPairs 13 = .ok (.istore 4, 2) := by decide +kernel
theorem dX12_laysPairs_15 : decode cX12_laysPairs 15 = .ok (.iload 4, 2) := by decide +kernel
theorem dX12_laysPairs_17 : decode cX12_laysPairs 17 = .ok (.aload_n 0, 1) := by decide +kernel
theorem dX12_laysPairs_18 : decode cX12_laysPairs 18 = .ok (.getfield 13, 3) := by decide +kernel
theorem dX12_laysPairs_21 : decode cX12_laysPairs 21 = .ok (.iconst 2, 1) := by decide +kernel
theorem dX12_laysPairs_22 : decode cX12_laysPairs 22 = .ok (.iaload, 1) := by decide +kernel
theorem dX12_laysPairs_23 : decode cX12_laysPairs 23 = .ok (.if_icmp .ge 98, 3) := by decide +kernel
theorem dX12_laysPairs_26 : decode cX12_laysPairs 26 = .ok (.iload_n 3, 1) := by decide +kernel
theorem dX12_laysPairs_27 : decode cX12_laysPairs 27 = .ok (.iload 4, 2) := by decide +kernel
theorem dX12_laysPairs_29 : decode cX12_laysPairs 29 = .ok (.if_icmp .ne 6, 3) := by decide +kernel
theorem dX12_laysPairs_32 : decode cX12_laysPairs 32 = .ok (.goto 83, 3) := by decide +kernel
theorem dX12_laysPairs_35 : decode cX12_laysPairs 35 = .ok (.aload_n 0, 1) := by decide +kernel
theorem dX12_laysPairs_36 : decode cX12_laysPairs 36 = .ok (.getfield 42, 3) := by decide +kernel
theorem dX12_laysPairs_39 : decode cX12_laysPairs 39 = .ok (.bipush 8, 2) := by decide +kernel
theorem dX12_laysPairs_41 : decode cX12_laysPairs 41 = .ok (.iload_n 3, 1) := by decide +kernel
theorem dX12_laysPairs_42 : decode cX12_laysPairs 42 = .ok (.imul, 1) := by decide +kernel
theorem dX12_laysPairs_43 : decode cX12_laysPairs 43 = .ok (.iload 4, 2) := by decide +kernel
theorem dX12_laysPairs_45 : decode cX12_laysPairs 45 = .ok (.iadd, 1) := by decide +kernel
theorem dX12_laysPairs_46 : decode cX12_laysPairs 46 = .ok (.aload_n 0, 1) := by decide +kernel
theorem dX12_laysPairs_47 : decode cX12_laysPairs 47 = .ok (.iload_n 3, 1) := by decide +kernel
theorem dX12_laysPairs_48 : decode cX12_laysPairs 48 = .ok (.iload 4, 2) := by decide +kernel
theorem dX12_laysPairs_50 : decode cX12_laysPairs 50 = .ok (.invokevirtual 240, 3) := by decide +kernel
theorem dX12_laysPairs_53 : decode cX12_laysPairs 53 = .ok (.iastore, 1) := by decide +kernel
theorem dX12_laysPairs_54 : decode cX12_laysPairs 54 = .ok (.aload_n 0, 1) := by decide +kernel
theorem dX12_laysPairs_55 : decode cX12_laysPairs 55 = .ok (.getfield 51, 3) := by decide +kernel
theorem dX12_laysPairs_58 : decode cX12_laysPairs 58 = .ok (.bipush 8, 2) := by decide +kernel
theorem dX12_laysPairs_60 : decode cX12_laysPairs 60 = .ok (.iload_n 3, 1) := by decide +kernel
theorem dX12_laysPairs_61 : decode cX12_laysPairs 61 = .ok (.imul, 1) := by decide +kernel
theorem dX12_laysPairs_62 : decode cX12_laysPairs 62 = .ok (.iload 4, 2) := by decide +kernel
theorem dX12_laysPairs_64 : decode cX12_laysPairs 64 = .ok (.iadd, 1) := by decide +kernel
theorem dX12_laysPairs_65 : decode cX12_laysPairs 65 = .ok (.iload_n 1, 1) := by decide +kernel
theorem dX12_laysPairs_66 : decode cX12_laysPairs 66 = .ok (.i2l, 1) := by decide +kernel
theorem dX12_laysPairs_67 : decode cX12_laysPairs 67 = .ok (.iload_n 3, 1) := by decide +kernel
theorem dX12_laysPairs_68 : decode cX12_laysPairs 68 = .ok (.invokestatic 175, 3) := by decide +kernel
theorem dX12_laysPairs_71 : decode cX12_laysPairs 71 = .ok (.ifCond .ne 42, 3) := by decide +kernel
theorem dX12_laysPairs_74 : decode cX12_laysPairs 74 = .ok (.iload_n 1, 1) := by decide +kernel
theorem dX12_laysPairs_75 : decode cX12_laysPairs 75 = .ok (.i2l, 1) := by decide +kernel
theorem dX12_laysPairs_76 : decode cX12_laysPairs 76 = .ok (.iload 4, 2) := by decide +kernel
theorem dX12_laysPairs_78 : decode cX12_laysPairs 78 = .ok (.invokestatic 175, 3) := by decide +kernel
theorem dX12_laysPairs_81 : decode cX12_laysPairs 81 = .ok (.ifCond .ne 32, 3) := by decide +kernel
theorem dX12_laysPairs_84 : decode cX12_laysPairs 84 = .ok (.aload_n 0, 1) := by decide +kernel
theorem dX12_laysPairs_85 : decode cX12_laysPairs 85 = .ok (.iload_n 3, 1) := by decide +kernel
theorem dX12_laysPairs_86 : decode cX12_laysPairs 86 = .ok (.iload 4, 2) := by decide +kernel
theorem dX12_laysPairs_88 : decode cX12_laysPairs 88 = .ok (.invokevirtual 244, 3) := by decide +kernel
theorem dX12_laysPairs_91 : decode cX12_laysPairs 91 = .ok (.ifCond .eq 22, 3) := by decide +kernel
theorem dX12_laysPairs_94 : decode cX12_laysPairs 94 = .ok (.iload_n 2, 1) := by decide +kernel
theorem dX12_laysPairs_95 : decode cX12_laysPairs 95 = .ok (.ifCond .eq 14, 3) := by decide +kernel
theorem dX12_laysPairs_98 : decode cX12_laysPairs 98 = .ok (.aload_n 0, 1) := by decide +kernel
theorem dX12_laysPairs_99 : decode cX12_laysPairs 99 = .ok (.iload_n 3, 1) := by decide +kernel
theorem dX12_laysPairs_100 : decode cX12_laysPairs 100 = .ok (.iload 4, 2) := by decide +kernel
theorem dX12_laysPairs_102 : decode cX12_laysPairs 102 = .ok (.invokevirtual 316, 3) := by decide +kernel
theorem dX12_laysPairs_105 : decode cX12_laysPairs 105 = .ok (.iload_n 2, 1) := by decide +kernel
theorem dX12_laysPairs_106 : decode cX12_laysPairs 106 = .ok (.if_icmp .lt 7, 3) := by decide +kernel
theorem dX12_laysPairs_109 : decode cX12_laysPairs 109 = .ok (.iconst 1, 1) := by decide +kernel
theorem dX12_laysPairs_110 : decode cX12_laysPairs 110 = .ok (.goto 4, 3) := by decide +kernel
theorem dX12_laysPairs_113 : decode cX12_laysPairs 113 = .ok (.iconst 0, 1) := by decide +kernel
theorem dX12_laysPairs_114 : decode cX12_laysPairs 114 = .ok (.bastore, 1) := by decide +kernel
theorem dX12_laysPairs_115 : decode cX12_laysPairs 115 = .ok (.iinc 4 1, 3) := by decide +kernel
theorem dX12_laysPairs_118 : decode cX12_laysPairs 118 = .ok (.goto (-103), 3) := by decide +kernel
theorem dX12_laysPairs_121 : decode cX12_laysPairs 121 = .ok (.iinc 3 1, 3) := by decide +kernel
theorem dX12_laysPairs_124 : decode cX12_laysPairs 124 = .ok (.goto (-122), 3) := by decide +kernel
theorem dX12_laysPairs_127 : decode cX12_laysPairs 127 = .ok (.return_, 1) := by decide +kernel
set_option maxRecDepth 100000 in
set_option maxHeartbeats 4000000 in
theorem v_X12_laysPairs_b109 {l : Launch} {p : Program} {e : Env} {s : State} {mt : MethodId} {args : Array Value} {below : List Frame} {meth : Method} {c : Code} {A : Nat → Prop} {ad0 : Nat → Nat} {G : Gt}  (C : Cx G p s mt args meth c RX12 cX12_laysPairs 5 none "laysPairs" A) (k2 : Int32 → Int32 → Int32 → Mem → Option (Unit × Mem)) (h2 : ∀ (y1 : Int32) (y2 : Int32) (y3 : Int32) (m : Mem), V G SM oV l p e s mt args below meth c 5 7 A ad0 17 17 RM 17 RM 2 [(0, .ref 0), (1, .int y1), (2, .int y2), (3, .int y3)] [] m (k2 y1 y2 y3 m)) (k15 : Int32 → Int32 → Int32 → Int32 → Mem → Option (Unit × Mem)) (h15 : ∀ (y1 : Int32) (y2 : Int32) (y3 : Int32) (y4 : Int32) (m : Mem), V G SM oV l p e s mt args below meth c 5 7 A ad0 17 17 RM 17 RM 15 [(0, .ref 0), (1, .int y1), (2, .int y2), (3, .int y3), (4, .int y4)] [] m (k15 y1 y2 y3 y4 m)) (y1 : Int32) (y2 : Int32) (y3 : Int32) (y4 : Int32) (z0 : Int32) (m : Mem) : V G SM oV l p e s mt args below meth c 5 7 A ad0 17 17 RM 17 RM 109 [(0, .ref 0), (1, .int y1), (2, .int y2), (3, .int y3), (4, .int y4)] [.int z0, .ref 12] m (X12_laysPairs_b109 k2 k15 y1 y2 y3 y4 z0 m) := by
  rw [X12_laysPairs_b109]
  refine V.iconst (pc := 109) C dX12_laysPairs_109 (v := 1) (by decide) ?_
  refine V.goto (pc := 110) C dX12_laysPairs_110 114 (by decide) ?_
  refine V.zast (pc := 114) C sM12 kM12 dX12_laysPairs_114 (fun _ => ?_)
  refine V.ltm (fun m_13 => ?_)
  refine V.iinc (pc := 115) C dX12_laysPairs_115 (v := 1) (L2 := [(4, .int (y4 + 1)), (0, .ref 0), (1, .int y1), (2, .int y2), (3, .int y3)]) 4 rfl (by decide) (by decide) rfl ?_
  refine V.goto (pc := 118) C dX12_laysPairs_118 15 (by decide) ?_
  refine V.wk [1, 2, 3, 4, 0] rfl ?_
  exact h15 y1 y2 y3 (y4 + 1) m_13
set_option maxRecDepth 100000 in
set_option maxHeartbeats 4000000 in
theorem v_X12_laysPairs_b15 {l : Launch} {p : Program} {e : Env} {s : State} {mt : MethodId} {args : Array Value} {below : List Frame} {meth : Method} {c : Code} {A : Nat → Prop} {ad0 : Nat → Nat} {G : Gt}  (C : Cx G p s mt args meth c RX12 cX12_laysPairs 5 none "laysPairs" A) (k2 : Int32 → Int32 → Int32 → Mem → Option (Unit × Mem)) (h2 : ∀ (y1 : Int32) (y2 : Int32) (y3 : Int32) (m : Mem), V G SM oV l p e s mt args below meth c 5 7 A ad0 17 17 RM 17 RM 2 [(0, .ref 0), (1, .int y1), (2, .int y2), (3, .int y3)] [] m (k2 y1 y2 y3 m)) : ∀ (n : Nat) (y1 : Int32) (y2 : Int32) (y3 : Int32) (y4 : Int32) (m : Mem), V G SM oV l p e s mt args below meth c 5 7 A ad0 17 17 RM 17 RM 15 [(0, .ref 0), (1, .int y1), (2, .int y2), (3, .int y3), (4, .int y4)] [] m (X12_laysPairs_b15 k2 n y1 y2 y3 y4 m) := by
  intro n
  induction n with
  | zero =>
    intro y1 y2 y3 y4 m
    rw [X12_laysPairs_b15]
    exact V.nil
  | succ n ih =>
    intro y1 y2 y3 y4 m
    rw [X12_laysPairs_b15]
    refine V.iload (pc := 15) C dX12_laysPairs_15 4 rfl ?_
    refine V.aload_n (pc := 17) C dX12_laysPairs_17 0 rfl ?_
    refine V.getr (pc := 18) C fl_RX12_13 sM0 kM0 rfl rM0_1 dX12_laysPairs_18 ?_
    refine V.iconst (pc := 21) C dX12_laysPairs_21 (v := 2) (by decide) ?_
    refine V.iald (pc := 22) C sM1 kM1 dX12_laysPairs_22 (fun _ => ?_)
    refine V.icmp_ge (pc := 23) C dX12_laysPairs_23 121 (by decide) (fun _ => ?_) (fun _ => ?_)
    · refine V.iinc (pc := 121) C dX12_laysPairs_121 (v := 1) (L2 := [(3, .int (y3 + 1)), (0, .ref 0), (1, .int y1), (2, .int y2), (4, .int y4)]) 3 rfl (by decide) (by decide) rfl ?_
      refine V.goto (pc := 124) C dX12_laysPairs_124 2 (by decide) ?_
      refine V.wk [1, 2, 3, 0] rfl ?_
      exact h2 y1 y2 (y3 + 1) m
    · refine V.iload_n (pc := 26) C dX12_laysPairs_26 3 rfl ?_
      refine V.iload (pc := 27) C dX12_laysPairs_27 4 rfl ?_
      refine V.icmp_ne (pc := 29) C dX12_laysPairs_29 35 (by decide) (fun _ => ?_) (fun _ => ?_)
      · refine V.aload_n (pc := 35) C dX12_laysPairs_35 0 rfl ?_
        refine V.getr (pc := 36) C fl_RX12_42 sM0 kM0 rfl rM0_21 dX12_laysPairs_36 ?_
        refine V.bipush (pc := 39) C dX12_laysPairs_39 (v := 8) (by decide) ?_
        refine V.iload_n (pc := 41) C dX12_laysPairs_41 3 rfl ?_
        refine V.imul (pc := 42) C dX12_laysPairs_42 ?_
        refine V.iload (pc := 43) C dX12_laysPairs_43 4 rfl ?_
        refine V.iadd (pc := 45) C dX12_laysPairs_45 ?_
        refine V.aload_n (pc := 46) C dX12_laysPairs_46 0 rfl ?_
        refine V.iload_n (pc := 47) C dX12_laysPairs_47 3 rfl ?_
        refine V.iload (pc := 48) C dX12_laysPairs_48 4 rfl ?_
        refine V.callV (pc := 50) (st := [.int ((8 * y3) + y4), .ref 9]) C (c_X12_goodOf l y3 y4 m) obI ck_X12_goodOf ml_RX12_240 rfl rfl sM0 kM0 rfl rfl (Nat.le_of_ble_eq_true rfl) ⟨by decide, by decide⟩ dX12_laysPairs_50 (fun r_1 m_2 _ => ?_)
        refine V.iast (pc := 53) C sM9 kM9 dX12_laysPairs_53 (fun _ => ?_)
        refine V.ltm (fun m_3 => ?_)
        refine V.aload_n (pc := 54) C dX12_laysPairs_54 0 rfl ?_
        refine V.getr (pc := 55) C fl_RX12_51 sM0 kM0 rfl rM0_24 dX12_laysPairs_55 ?_
        refine V.bipush (pc := 58) C dX12_laysPairs_58 (v := 8) (by decide) ?_
        refine V.iload_n (pc := 60) C dX12_laysPairs_60 3 rfl ?_
        refine V.imul (pc := 61) C dX12_laysPairs_61 ?_
        refine V.iload (pc := 62) C dX12_laysPairs_62 4 rfl ?_
        refine V.iadd (pc := 64) C dX12_laysPairs_64 ?_
        refine V.iload_n (pc := 65) C dX12_laysPairs_65 1 rfl ?_
        refine V.i2l (pc := 66) C dX12_laysPairs_66 ?_
        refine V.iload_n (pc := 67) C dX12_laysPairs_67 3 rfl ?_
        refine V.callS (pc := 68) (st := [.int ((8 * y3) + y4), .ref 12]) C (c_X12_isIn l (Int32.toInt64 y1) y3 m_3) obI ck_X12_isIn ml_RX12_175 rfl rfl (Nat.le_of_ble_eq_true rfl) ⟨by decide, by decide⟩ dX12_laysPairs_68 (fun r_4 m_5 _ => ?_)
        refine V.if_ne (pc := 71) C dX12_laysPairs_71 113 (by decide) (fun _ => ?_) (fun _ => ?_)
        · refine V.iconst (pc := 113) C dX12_laysPairs_113 (v := 0) (by decide) ?_
          refine V.zast (pc := 114) C sM12 kM12 dX12_laysPairs_114 (fun _ => ?_)
          refine V.ltm (fun m_6 => ?_)
          refine V.iinc (pc := 115) C dX12_laysPairs_115 (v := 1) (L2 := [(4, .int (y4 + 1)), (0, .ref 0), (1, .int y1), (2, .int y2), (3, .int y3)]) 4 rfl (by decide) (by decide) rfl ?_
          refine V.goto (pc := 118) C dX12_laysPairs_118 15 (by decide) ?_
          refine V.wk [1, 2, 3, 4, 0] rfl ?_
          exact ih y1 y2 y3 (y4 + 1) m_6
        · refine V.iload_n (pc := 74) C dX12_laysPairs_74 1 rfl ?_
          refine V.i2l (pc := 75) C dX12_laysPairs_75 ?_
          refine V.iload (pc := 76) C dX12_laysPairs_76 4 rfl ?_
          refine V.callS (pc := 78) (st := [.int ((8 * y3) + y4), .ref 12]) C (c_X12_isIn l (Int32.toInt64 y1) y4 m_5) obI ck_X12_isIn ml_RX12_175 rfl rfl (Nat.le_of_ble_eq_true rfl) ⟨by decide, by decide⟩ dX12_laysPairs_78 (fun r_7 m_8 _ => ?_)
          refine V.if_ne (pc := 81) C dX12_laysPairs_81 113 (by decide) (fun _ => ?_) (fun _ => ?_)
          · refine V.iconst (pc := 113) C dX12_laysPairs_113 (v := 0) (by decide) ?_
            refine V.zast (pc := 114) C sM12 kM12 dX12_laysPairs_114 (fun _ => ?_)
            refine V.ltm (fun m_9 => ?_)
            refine V.iinc (pc := 115) C dX12_laysPairs_115 (v := 1) (L2 := [(4, .int (y4 + 1)), (0, .ref 0), (1, .int y1), (2, .int y2), (3, .int y3)]) 4 rfl (by decide) (by decide) rfl ?_
            refine V.goto (pc := 118) C dX12_laysPairs_118 15 (by decide) ?_
            refine V.wk [1, 2, 3, 4, 0] rfl ?_
            exact ih y1 y2 y3 (y4 + 1) m_9
          · refine V.aload_n (pc := 84) C dX12_laysPairs_84 0 rfl ?_
            refine V.iload_n (pc := 85) C dX12_laysPairs_85 3 rfl ?_
            refine V.iload (pc := 86) C dX12_laysPairs_86 4 rfl ?_
            refine V.callV (pc := 88) (st := [.int ((8 * y3) + y4), .ref 12]) C (c_X12_mayWed l y3 y4 m_8) obI ck_X12_mayWed ml_RX12_244 rfl rfl sM0 kM0 rfl rfl (Nat.le_of_ble_eq_true rfl) ⟨by decide, by decide⟩ dX12_laysPairs_88 (fun r_10 m_11 _ => ?_)
            refine V.if_eq (pc := 91) C dX12_laysPairs_91 113 (by decide) (fun _ => ?_) (fun _ => ?_)
            · refine V.iconst (pc := 113) C dX12_laysPairs_113 (v := 0) (by decide) ?_
              refine V.zast (pc := 114) C sM12 kM12 dX12_laysPairs_114 (fun _ => ?_)
              refine V.ltm (fun m_12 => ?_)
              refine V.iinc (pc := 115) C dX12_laysPairs_115 (v := 1) (L2 := [(4, .int (y4 + 1)), (0, .ref 0), (1, .int y1), (2, .int y2), (3, .int y3)]) 4 rfl (by decide) (by decide) rfl ?_
              refine V.goto (pc := 118) C dX12_laysPairs_118 15 (by decide) ?_
              refine V.wk [1, 2, 3, 4, 0] rfl ?_
              exact ih y1 y2 y3 (y4 + 1) m_12
            · refine V.iload_n (pc := 94) C dX12_laysPairs_94 2 rfl ?_
              refine V.if_eq (pc := 95) C dX12_laysPairs_95 109 (by decide) (fun _ => ?_) (fun _ => ?_)
              · refine V.wk [0, 1, 2, 3, 4] rfl ?_
                exact v_X12_laysPairs_b109 C k2 h2 (X12_laysPairs_b15 k2 n) ih y1 y2 y3 y4 ((8 * y3) + y4) m_11
              · refine V.aload_n (pc := 98) C dX12_laysPairs_98 0 rfl ?_
                refine V.iload_n (pc := 99) C dX12_laysPairs_99 3 rfl ?_
                refine V.iload (pc := 100) C dX12_laysPairs_100 4 rfl ?_
                refine V.callV (pc := 102) (st := [.int ((8 * y3) + y4), .ref 12]) C (c_X12_holdsFor l y3 y4 m_11) obI ck_X12_holdsFor ml_RX12_316 rfl rfl sM0 kM0 rfl rfl (Nat.le_of_ble_eq_true rfl) ⟨by decide, by decide⟩ dX12_laysPairs_102 (fun r_14 m_15 _ => ?_)
                refine V.iload_n (pc := 105) C dX12_laysPairs_105 2 rfl ?_
                refine V.icmp_lt (pc := 106) C dX12_laysPairs_106 113 (by decide) (fun _ => ?_) (fun _ => ?_)
                · refine V.iconst (pc := 113) C dX12_laysPairs_113 (v := 0) (by decide) ?_
                  refine V.zast (pc := 114) C sM12 kM12 dX12_laysPairs_114 (fun _ => ?_)
                  refine V.ltm (fun m_16 => ?_)
                  refine V.iinc (pc := 115) C dX12_laysPairs_115 (v := 1) (L2 := [(4, .int (y4 + 1)), (0, .ref 0), (1, .int y1), (2, .int y2), (3, .int y3)]) 4 rfl (by decide) (by decide) rfl ?_
                  refine V.goto (pc := 118) C dX12_laysPairs_118 15 (by decide) ?_
                  refine V.wk [1, 2, 3, 4, 0] rfl ?_
                  exact ih y1 y2 y3 (y4 + 1) m_16
                · refine V.wk [0, 1, 2, 3, 4] rfl ?_
                  exact v_X12_laysPairs_b109 C k2 h2 (X12_laysPairs_b15 k2 n) ih y1 y2 y3 y4 ((8 * y3) + y4) m_15
      · refine V.goto (pc := 32) C dX12_laysPairs_32 115 (by decide) ?_
        refine V.iinc (pc := 115) C dX12_laysPairs_115 (v := 1) (L2 := [(4, .int (y4 + 1)), (0, .ref 0), (1, .int y1), (2, .int y2), (3, .int y3)]) 4 rfl (by decide) (by decide) rfl ?_
        refine V.goto (pc := 118) C dX12_laysPairs_118 15 (by decide) ?_
        refine V.wk [1, 2, 3, 4, 0] rfl ?_
        exact ih y1 y2 y3 (y4 + 1) m
set_option maxRecDepth 100000 in
set_option maxHeartbeats 4000000 in
theorem v_X12_laysPairs_b2 {l : Launch} {p : Program} {e : Env} {s : State} {mt : MethodId} {args : Array Value} {below : List Frame} {meth : Method} {c : Code} {A : Nat → Prop} {ad0 : Nat → Nat} {G : Gt}  (C : Cx G p s mt args meth c RX12 cX12_laysPairs 5 none "laysPairs" A)  : ∀ (n : Nat) (y1 : Int32) (y2 : Int32) (y3 : Int32) (m : Mem), V G SM oV l p e s mt args below meth c 5 7 A ad0 17 17 RM 17 RM 2 [(0, .ref 0), (1, .int y1), (2, .int y2), (3, .int y3)] [] m (X12_laysPairs_b2  n y1 y2 y3 m) := by
  intro n
  induction n with
  | zero =>
    intro y1 y2 y3 m
    rw [X12_laysPairs_b2]
    exact V.nil
  | succ n ih =>
    intro y1 y2 y3 m
    rw [X12_laysPairs_b2]
    refine V.iload_n (pc := 2) C dX12_laysPairs_2 3 rfl ?_
    refine V.aload_n (pc := 3) C dX12_laysPairs_3 0 rfl ?_
    refine V.getr (pc := 4) C fl_RX12_13 sM0 kM0 rfl rM0_1 dX12_laysPairs_4 ?_
    refine V.iconst (pc := 7) C dX12_laysPairs_7 (v := 2) (by decide) ?_
    refine V.iald (pc := 8) C sM1 kM1 dX12_laysPairs_8 (fun _ => ?_)
    refine V.icmp_ge (pc := 9) C dX12_laysPairs_9 127 (by decide) (fun _ => ?_) (fun _ => ?_)
    · exact V.vret C dX12_laysPairs_127
    · refine V.iconst (pc := 12) C dX12_laysPairs_12 (v := 0) (by decide) ?_
      refine V.istore (pc := 13) C dX12_laysPairs_13 (L2 := [(4, .int 0), (0, .ref 0), (1, .int y1), (2, .int y2), (3, .int y3)]) (by decide) rfl ?_
      refine V.wk [1, 2, 3, 4, 0] rfl ?_
      exact v_X12_laysPairs_b15 C (X12_laysPairs_b2 n) ih FU y1 y2 y3 0 m
set_option maxRecDepth 100000 in
set_option maxHeartbeats 4000000 in
theorem v_X12_laysPairs {l : Launch} {p : Program} {e : Env} {s : State} {mt : MethodId} {args : Array Value} {below : List Frame} {meth : Method} {c : Code} {A : Nat → Prop} {ad0 : Nat → Nat} {G : Gt}  (C : Cx G p s mt args meth c RX12 cX12_laysPairs 5 none "laysPairs" A)  (x1 : Int32) (x2 : Int32) (m : Mem) : V G SM oV l p e s mt args below meth c 5 7 A ad0 17 17 RM 17 RM 0 [(0, .ref 0), (1, .int x1), (2, .int x2)] [] m (X12_laysPairs  x1 x2 m) := by
  rw [X12_laysPairs]
  refine V.iconst (pc := 0) C dX12_laysPairs_0 (v := 0) (by decide) ?_
  refine V.istore_n (pc := 1) C dX12_laysPairs_1 (L2 := [(3, .int 0), (0, .ref 0), (1, .int x1), (2, .int x2)]) (by decide) rfl ?_
  refine V.wk [1, 2, 3, 0] rfl ?_
  exact v_X12_laysPairs_b2 C  FU x1 x2 0 m
theorem c_X12_laysPairs (l : Launch)   (x1 : Int32) (x2 : Int32) (m : Mem) : Ct l yX12_laysPairs cX12_laysPairs 5 none 7 SM oV 17 17 RM RM [.ref 0, .int x1, .int x2] m (X12_laysPairs  x1 x2 m) :=
  Ct.of (own := RX12) (nm := "laysPairs") (by decide) rfl rfl (Nat.le_of_ble_eq_true rfl) (fun _ _ _ _ _ _ _ _ _ _ _ C => v_X12_laysPairs C  x1 x2 m)
theorem dX12_breaks_0 : decode cX12_breaks 0 = .ok (.aload_n 0, 1) := by decide +kernel
theorem dX12_breaks_1 : decode cX12_breaks 1 = .ok (.iconst 0, 1) := by decide +kernel
theorem dX12_breaks_2 : decode cX12_breaks 2 = .ok (.putfield 1, 3) := by decide +kernel
theorem dX12_breaks_5 : decode cX12_breaks 5 = .ok (.aload_n 0, 1) := by decide +kernel
theorem dX12_breaks_6 : decode cX12_breaks 6 = .ok (.iconst 0, 1) := by decide +kernel
theorem dX12_breaks_7 : decode cX12_breaks 7 = .ok (.iconst 0, 1) := by decide +kernel
theorem dX12_breaks_8 : decode cX12_breaks 8 = .ok (.invokevirtual 348, 3) := by decide +kernel
theorem dX12_breaks_11 : decode cX12_breaks 11 = .ok (.iconst 0, 1) := by decide +kernel
theorem dX12_breaks_12 : decode cX12_breaks 12 = .ok (.istore_n 1, 1) := by decide +kernel
theorem dX12_breaks_13 : decode cX12_breaks 13 = .ok (.iload_n 1, 1) := by decide +kernel
theorem dX12_breaks_14 : decode cX12_breaks 14 = .ok (.bipush 8, 2) := by decide +kernel
theorem dX12_breaks_16 : decode cX12_breaks 16 = .ok (.if_icmp .ge 25, 3) := by decide +kernel
theorem dX12_breaks_19 : decode cX12_breaks 19 = .ok (.aload_n 0, 1) := by decide +kernel
theorem dX12_breaks_20 : decode cX12_breaks 20 = .ok (.getfield 45, 3) := by decide +kernel
theorem dX12_breaks_23 : decode cX12_breaks 23 = .ok (.iload_n 1, 1) := by decide +kernel
theorem dX12_breaks_24 : decode cX12_breaks 24 = .ok (.aload_n 0, 1) := by decide +kernel
theorem dX12_breaks_25 : decode cX12_breaks 25 = .ok (.getfield 13, 3) := by decide +kernel
theorem dX12_breaks_28 : decode cX12_breaks 28 = .ok (.sipush 153, 3) := by decide +kernel
theorem dX12_breaks_31 : decode cX12_breaks 31 = .ok (.iload_n 1, 1) := by decide +kernel
theorem dX12_breaks_32 : decode cX12_breaks 32 = .ok (.iadd, 1) := by decide +kernel
theorem dX12_breaks_33 : decode cX12_breaks 33 = .ok (.iaload, 1) := by decide +kernel
theorem dX12_breaks_34 : decode cX12_breaks 34 = .ok (.iastore, 1) := by decide +kernel
theorem dX12_breaks_35 : decode cX12_breaks 35 = .ok (.iinc 1 1, 3) := by decide +kernel
theorem dX12_breaks_38 : decode cX12_breaks 38 = .ok (.goto (-25), 3) := by decide +kernel
theorem dX12_breaks_41 : decode cX12_breaks 41 = .ok (.aload_n 0, 1) := by decide +kernel
theorem dX12_breaks_42 : decode cX12_breaks 42 = .ok (.aload_n 0, 1) := by decide +kernel
theorem dX12_breaks_43 : decode cX12_breaks 43 = .ok (.getfield 45, 3) := by decide +kernel
theorem dX12_breaks_46 : decode cX12_breaks 46 = .ok (.invokevirtual 337, 3) := by decide +kernel
theorem dX12_breaks_49 : decode cX12_breaks 49 = .ok (.ireturn, 1) := by decide +kernel
set_option maxRecDepth 100000 in
set_option maxHeartbeats 4000000 in
theorem v_X12_breaks_b13 {l : Launch} {p : Program} {e : Env} {s : State} {mt : MethodId} {args : Array Value} {below : List Frame} {meth : Method} {c : Code} {A : Nat → Prop} {ad0 : Nat → Nat} {G : Gt}  (C : Cx G p s mt args meth c RX12 cX12_breaks 2 (some .int) "breaks" A)  : ∀ (n : Nat) (y1 : Int32) (m : Mem), V G SM oI l p e s mt args below meth c 2 8 A ad0 17 17 RM 17 RM 13 [(0, .ref 0), (1, .int y1)] [] m (X12_breaks_b13  n y1 m) := by
  intro n
  induction n with
  | zero =>
    intro y1 m
    rw [X12_breaks_b13]
    exact V.nil
  | succ n ih =>
    intro y1 m
    rw [X12_breaks_b13]
    refine V.iload_n (pc := 13) C dX12_breaks_13 1 rfl ?_
    refine V.bipush (pc := 14) C dX12_breaks_14 (v := 8) (by decide) ?_
    refine V.icmp_ge (pc := 16) C dX12_breaks_16 41 (by decide) (fun _ => ?_) (fun _ => ?_)
    · refine V.aload_n (pc := 41) C dX12_breaks_41 0 rfl ?_
      refine V.aload_n (pc := 42) C dX12_breaks_42 0 rfl ?_
      refine V.getr (pc := 43) C fl_RX12_45 sM0 kM0 rfl rM0_22 dX12_breaks_43 ?_
      refine V.callV (pc := 46) (st := []) C (c_X12_breaksOf l  m) obI ck_X12_breaksOf ml_RX12_337 rfl rfl sM0 kM0 rfl rfl (Nat.le_of_ble_eq_true rfl) ⟨by decide, by decide⟩ dX12_breaks_46 (fun r_4 m_5 _ => ?_)
      exact V.iret C dX12_breaks_49
    · refine V.aload_n (pc := 19) C dX12_breaks_19 0 rfl ?_
      refine V.getr (pc := 20) C fl_RX12_45 sM0 kM0 rfl rM0_22 dX12_breaks_20 ?_
      refine V.iload_n (pc := 23) C dX12_breaks_23 1 rfl ?_
      refine V.aload_n (pc := 24) C dX12_breaks_24 0 rfl ?_
      refine V.getr (pc := 25) C fl_RX12_13 sM0 kM0 rfl rM0_1 dX12_breaks_25 ?_
      refine V.sipush (pc := 28) C dX12_breaks_28 (v := 153) (by decide) ?_
      refine V.iload_n (pc := 31) C dX12_breaks_31 1 rfl ?_
      refine V.iadd (pc := 32) C dX12_breaks_32 ?_
      refine V.iald (pc := 33) C sM1 kM1 dX12_breaks_33 (fun _ => ?_)
      refine V.iast (pc := 34) C sM10 kM10 dX12_breaks_34 (fun _ => ?_)
      refine V.ltm (fun m_6 => ?_)
      refine V.iinc (pc := 35) C dX12_breaks_35 (v := 1) (L2 := [(1, .int (y1 + 1)), (0, .ref 0)]) 1 rfl (by decide) (by decide) rfl ?_
      refine V.goto (pc := 38) C dX12_breaks_38 13 (by decide) ?_
      refine V.wk [1, 0] rfl ?_
      exact ih (y1 + 1) m_6
set_option maxRecDepth 100000 in
set_option maxHeartbeats 4000000 in
theorem v_X12_breaks {l : Launch} {p : Program} {e : Env} {s : State} {mt : MethodId} {args : Array Value} {below : List Frame} {meth : Method} {c : Code} {A : Nat → Prop} {ad0 : Nat → Nat} {G : Gt}  (C : Cx G p s mt args meth c RX12 cX12_breaks 2 (some .int) "breaks" A)  (m : Mem) : V G SM oI l p e s mt args below meth c 2 8 A ad0 17 17 RM 17 RM 0 [(0, .ref 0)] [] m (X12_breaks   m) := by
  rw [X12_breaks]
  refine V.aload_n (pc := 0) C dX12_breaks_0 0 rfl ?_
  refine V.iconst (pc := 1) C dX12_breaks_1 (v := 0) (by decide) ?_
  refine V.puti (pc := 2) C fp_RX12_1 sM0 kM0 rfl dX12_breaks_2 ?_
  refine V.ltm (fun m_1 => ?_)
  refine V.aload_n (pc := 5) C dX12_breaks_5 0 rfl ?_
  refine V.iconst (pc := 6) C dX12_breaks_6 (v := 0) (by decide) ?_
  refine V.iconst (pc := 7) C dX12_breaks_7 (v := 0) (by decide) ?_
  refine V.callV (pc := 8) (st := []) C (c_X12_laysPairs l 0 0 m_1) obV ck_X12_laysPairs ml_RX12_348 rfl rfl sM0 kM0 rfl rfl (Nat.le_of_ble_eq_true rfl) ⟨by decide, by decide⟩ dX12_breaks_8 (fun r_2 m_3 _ => ?_)
  refine V.iconst (pc := 11) C dX12_breaks_11 (v := 0) (by decide) ?_
  refine V.istore_n (pc := 12) C dX12_breaks_12 (L2 := [(1, .int 0), (0, .ref 0)]) (by decide) rfl ?_
  refine V.wk [1, 0] rfl ?_
  exact v_X12_breaks_b13 C  FU 0 m_3
theorem c_X12_breaks (l : Launch)   (m : Mem) : Ct l yX12_breaks cX12_breaks 2 (some .int) 8 SM oI 17 17 RM RM [.ref 0] m (X12_breaks   m) :=
  Ct.of (own := RX12) (nm := "breaks") (by decide) rfl rfl (Nat.le_of_ble_eq_true rfl) (fun _ _ _ _ _ _ _ _ _ _ _ C => v_X12_breaks C   m)
theorem dX12_plain_0 : decode cX12_plain 0 = .ok (.iconst 0, 1) := by decide +kernel
theorem dX12_plain_1 : decode cX12_plain 1 = .ok (.istore_n 1, 1) := by decide +kernel
theorem dX12_plain_2 : decode cX12_plain 2 = .ok (.iload_n 1, 1) := by decide +kernel
theorem dX12_plain_3 : decode cX12_plain 3 = .ok (.sipush 2096, 3) := by decide +kernel
theorem dX12_plain_6 : decode cX12_plain 6 = .ok (.if_icmp .ge 13, 3) := by decide +kernel
theorem dX12_plain_9 : decode cX12_plain 9 = .ok (.aload_n 0, 1) := by decide +kernel
theorem dX12_plain_10 : decode cX12_plain 10 = .ok (.iload_n 1, 1) := by decide +kernel
theorem dX12_plain_11 : decode cX12_plain 11 = .ok (.iconst 0, 1) := by decide +kernel
theorem dX12_plain_12 : decode cX12_plain 12 = .ok (.iastore, 1) := by decide +kernel
theorem dX12_plain_13 : decode cX12_plain 13 = .ok (.iinc 1 1, 3) := by decide +kernel
theorem dX12_plain_16 : decode cX12_plain 16 = .ok (.goto (-14), 3) := by decide +kernel
theorem dX12_plain_19 : decode cX12_plain 19 = .ok (.aload_n 0, 1) := by decide +kernel
theorem dX12_plain_20 : decode cX12_plain 20 = .ok (.iconst 3, 1) := by decide +kernel
theorem dX12_plain_21 : decode cX12_plain 21 = .ok (.bipush 10, 2) := by decide +kernel
theorem dX12_plain_23 : decode cX12_plain 23 = .ok (.iastore, 1) := by decide +kernel
theorem dX12_plain_24 : decode cX12_plain 24 = .ok (.aload_n 0, 1) := by decide +kernel
theorem dX12_plain_25 : decode cX12_plain 25 = .ok (.iconst 4, 1) := by decide +kernel
theorem dX12_plain_26 : decode cX12_plain 26 = .ok (.bipush 14, 2) := by decide +kernel
theorem dX12_plain_28 : decode cX12_plain 28 = .ok (.iastore, 1) := by decide +kernel
theorem dX12_plain_29 : decode cX12_plain 29 = .ok (.iconst 0, 1) := by decide +kernel
theorem dX12_plain_30 : decode cX12_plain 30 = .ok (.istore_n 1, 1) := by decide +kernel
theorem dX12_plain_31 : decode cX12_plain 31 = .ok (.iload_n 1, 1) := by decide +kernel
theorem dX12_plain_32 : decode cX12_plain 32 = .ok (.bipush 112, 2) := by decide +kernel
theorem dX12_plain_34 : decode cX12_plain 34 = .ok (.if_icmp .ge 16, 3) := by decide +kernel
theorem dX12_plain_37 : decode cX12_plain 37 = .ok (.aload_n 0, 1) := by decide +kernel
theorem dX12_plain_38 : decode cX12_plain 38 = .ok (.bipush 41, 2) := by decide +kernel
theorem dX12_plain_40 : decode cX12_plain 40 = .ok (.iload_n 1, 1) := by decide +kernel
theorem dX12_plain_41 : decode cX12_plain 41 = .ok (.iadd, 1) := by decide +kernel
theorem dX12_plain_42 : decode cX12_plain 42 = .ok (.iconst (-1), 1) := by decide +kernel
theorem dX12_plain_43 : decode cX12_plain 43 = .ok (.iastore, 1) := by decide +kernel
theorem dX12_plain_44 : decode cX12_plain 44 = .ok (.iinc 1 1, 3) := by decide +kernel
theorem dX12_plain_47 : decode cX12_plain 47 = .ok (.goto (-16), 3) := by decide +kernel
theorem dX12_plain_50 : decode cX12_plain 50 = .ok (.iconst 0, 1) := by decide +kernel
theorem dX12_plain_51 : decode cX12_plain 51 = .ok (.istore_n 1, 1) := by decide +kernel
theorem dX12_plain_52 : decode cX12_plain 52 = .ok (.iload_n 1, 1) := by decide +kernel
theorem dX12_plain_53 : decode cX12_plain 53 = .ok (.bipush 8, 2) := by decide +kernel
theorem dX12_plain_55 : decode cX12_plain 55 = .ok (.if_icmp .ge 17, 3) := by decide +kernel
theorem dX12_plain_58 : decode cX12_plain 58 = .ok (.aload_n 0, 1) := by decide +kernel
theorem dX12_plain_59 : decode cX12_plain 59 = .ok (.sipush 153, 3) := by decide +kernel
theorem dX12_plain_62 : decode cX12_plain 62 = .ok (.iload_n 1, 1) := by decide +kernel
theorem dX12_plain_63 : decode cX12_plain 63 = .ok (.iadd, 1) := by decide +kernel
theorem dX12_plain_64 : decode cX12_plain 64 = .ok (.iconst (-1), 1) := by decide +kernel
theorem dX12_plain_65 : decode cX12_plain 65 = .ok (.iastore, 1) := by decide +kernel
theorem dX12_plain_66 : decode cX12_plain 66 = .ok (.iinc 1 1, 3) := by decide +kernel
theorem dX12_plain_69 : decode cX12_plain 69 = .ok (.goto (-17), 3) := by decide +kernel
theorem dX12_plain_72 : decode cX12_plain 72 = .ok (.return_, 1) := by decide +kernel
set_option maxRecDepth 100000 in
set_option maxHeartbeats 4000000 in
theorem v_X12_plain_b52 {l : Launch} {p : Program} {e : Env} {s : State} {mt : MethodId} {args : Array Value} {below : List Frame} {meth : Method} {c : Code} {A : Nat → Prop} {ad0 : Nat → Nat} {G : Gt}  (C : Cx G p s mt args meth c RX12 cX12_plain 2 none "plain" A) (w1 : Nat) (b1 : Nat) (hs1 : SM b1 = .inr (0, w1)) (hb1 : b1 < 17) : ∀ (n : Nat) (y1 : Int32) (m : Mem), V G SM oV l p e s mt args below meth c 2 1 A ad0 17 17 RM 17 RM 52 [(0, .ref b1), (1, .int y1)] [] m (X12_plain_b52 w1 b1 n y1 m) := by
  intro n
  induction n with
  | zero =>
    intro y1 m
    rw [X12_plain_b52]
    exact V.nil
  | succ n ih =>
    intro y1 m
    rw [X12_plain_b52]
    refine V.iload_n (pc := 52) C dX12_plain_52 1 rfl ?_
    refine V.bipush (pc := 53) C dX12_plain_53 (v := 8) (by decide) ?_
    refine V.icmp_ge (pc := 55) C dX12_plain_55 72 (by decide) (fun _ => ?_) (fun _ => ?_)
    · exact V.vret C dX12_plain_72
    · refine V.aload_n (pc := 58) C dX12_plain_58 0 rfl ?_
      refine V.sipush (pc := 59) C dX12_plain_59 (v := 153) (by decide) ?_
      refine V.iload_n (pc := 62) C dX12_plain_62 1 rfl ?_
      refine V.iadd (pc := 63) C dX12_plain_63 ?_
      refine V.iconst (pc := 64) C dX12_plain_64 (v := (-1)) (by decide) ?_
      refine V.iast (pc := 65) C hs1 hb1 dX12_plain_65 (fun _ => ?_)
      refine V.ltm (fun m_3 => ?_)
      refine V.iinc (pc := 66) C dX12_plain_66 (v := 1) (L2 := [(1, .int (y1 + 1)), (0, .ref b1)]) 1 rfl (by decide) (by decide) rfl ?_
      refine V.goto (pc := 69) C dX12_plain_69 52 (by decide) ?_
      refine V.wk [1, 0] rfl ?_
      exact ih (y1 + 1) m_3
set_option maxRecDepth 100000 in
set_option maxHeartbeats 4000000 in
theorem v_X12_plain_b31 {l : Launch} {p : Program} {e : Env} {s : State} {mt : MethodId} {args : Array Value} {below : List Frame} {meth : Method} {c : Code} {A : Nat → Prop} {ad0 : Nat → Nat} {G : Gt}  (C : Cx G p s mt args meth c RX12 cX12_plain 2 none "plain" A) (w1 : Nat) (b1 : Nat) (hs1 : SM b1 = .inr (0, w1)) (hb1 : b1 < 17) : ∀ (n : Nat) (y1 : Int32) (m : Mem), V G SM oV l p e s mt args below meth c 2 1 A ad0 17 17 RM 17 RM 31 [(0, .ref b1), (1, .int y1)] [] m (X12_plain_b31 w1 b1 n y1 m) := by
  intro n
  induction n with
  | zero =>
    intro y1 m
    rw [X12_plain_b31]
    exact V.nil
  | succ n ih =>
    intro y1 m
    rw [X12_plain_b31]
    refine V.iload_n (pc := 31) C dX12_plain_31 1 rfl ?_
    refine V.bipush (pc := 32) C dX12_plain_32 (v := 112) (by decide) ?_
    refine V.icmp_ge (pc := 34) C dX12_plain_34 50 (by decide) (fun _ => ?_) (fun _ => ?_)
    · refine V.iconst (pc := 50) C dX12_plain_50 (v := 0) (by decide) ?_
      refine V.istore_n (pc := 51) C dX12_plain_51 (L2 := [(1, .int 0), (0, .ref b1)]) (by decide) rfl ?_
      refine V.wk [1, 0] rfl ?_
      exact v_X12_plain_b52 C w1 b1 hs1 hb1 FU 0 m
    · refine V.aload_n (pc := 37) C dX12_plain_37 0 rfl ?_
      refine V.bipush (pc := 38) C dX12_plain_38 (v := 41) (by decide) ?_
      refine V.iload_n (pc := 40) C dX12_plain_40 1 rfl ?_
      refine V.iadd (pc := 41) C dX12_plain_41 ?_
      refine V.iconst (pc := 42) C dX12_plain_42 (v := (-1)) (by decide) ?_
      refine V.iast (pc := 43) C hs1 hb1 dX12_plain_43 (fun _ => ?_)
      refine V.ltm (fun m_4 => ?_)
      refine V.iinc (pc := 44) C dX12_plain_44 (v := 1) (L2 := [(1, .int (y1 + 1)), (0, .ref b1)]) 1 rfl (by decide) (by decide) rfl ?_
      refine V.goto (pc := 47) C dX12_plain_47 31 (by decide) ?_
      refine V.wk [1, 0] rfl ?_
      exact ih (y1 + 1) m_4
set_option maxRecDepth 100000 in
set_option maxHeartbeats 4000000 in
theorem v_X12_plain_b2 {l : Launch} {p : Program} {e : Env} {s : State} {mt : MethodId} {args : Array Value} {below : List Frame} {meth : Method} {c : Code} {A : Nat → Prop} {ad0 : Nat → Nat} {G : Gt}  (C : Cx G p s mt args meth c RX12 cX12_plain 2 none "plain" A) (w1 : Nat) (b1 : Nat) (hs1 : SM b1 = .inr (0, w1)) (hb1 : b1 < 17) : ∀ (n : Nat) (y1 : Int32) (m : Mem), V G SM oV l p e s mt args below meth c 2 1 A ad0 17 17 RM 17 RM 2 [(0, .ref b1), (1, .int y1)] [] m (X12_plain_b2 w1 b1 n y1 m) := by
  intro n
  induction n with
  | zero =>
    intro y1 m
    rw [X12_plain_b2]
    exact V.nil
  | succ n ih =>
    intro y1 m
    rw [X12_plain_b2]
    refine V.iload_n (pc := 2) C dX12_plain_2 1 rfl ?_
    refine V.sipush (pc := 3) C dX12_plain_3 (v := 2096) (by decide) ?_
    refine V.icmp_ge (pc := 6) C dX12_plain_6 19 (by decide) (fun _ => ?_) (fun _ => ?_)
    · refine V.aload_n (pc := 19) C dX12_plain_19 0 rfl ?_
      refine V.iconst (pc := 20) C dX12_plain_20 (v := 3) (by decide) ?_
      refine V.bipush (pc := 21) C dX12_plain_21 (v := 10) (by decide) ?_
      refine V.iast (pc := 23) C hs1 hb1 dX12_plain_23 (fun _ => ?_)
      refine V.ltm (fun m_1 => ?_)
      refine V.aload_n (pc := 24) C dX12_plain_24 0 rfl ?_
      refine V.iconst (pc := 25) C dX12_plain_25 (v := 4) (by decide) ?_
      refine V.bipush (pc := 26) C dX12_plain_26 (v := 14) (by decide) ?_
      refine V.iast (pc := 28) C hs1 hb1 dX12_plain_28 (fun _ => ?_)
      refine V.ltm (fun m_2 => ?_)
      refine V.iconst (pc := 29) C dX12_plain_29 (v := 0) (by decide) ?_
      refine V.istore_n (pc := 30) C dX12_plain_30 (L2 := [(1, .int 0), (0, .ref b1)]) (by decide) rfl ?_
      refine V.wk [1, 0] rfl ?_
      exact v_X12_plain_b31 C w1 b1 hs1 hb1 FU 0 m_2
    · refine V.aload_n (pc := 9) C dX12_plain_9 0 rfl ?_
      refine V.iload_n (pc := 10) C dX12_plain_10 1 rfl ?_
      refine V.iconst (pc := 11) C dX12_plain_11 (v := 0) (by decide) ?_
      refine V.iast (pc := 12) C hs1 hb1 dX12_plain_12 (fun _ => ?_)
      refine V.ltm (fun m_5 => ?_)
      refine V.iinc (pc := 13) C dX12_plain_13 (v := 1) (L2 := [(1, .int (y1 + 1)), (0, .ref b1)]) 1 rfl (by decide) (by decide) rfl ?_
      refine V.goto (pc := 16) C dX12_plain_16 2 (by decide) ?_
      refine V.wk [1, 0] rfl ?_
      exact ih (y1 + 1) m_5
set_option maxRecDepth 100000 in
set_option maxHeartbeats 4000000 in
theorem v_X12_plain {l : Launch} {p : Program} {e : Env} {s : State} {mt : MethodId} {args : Array Value} {below : List Frame} {meth : Method} {c : Code} {A : Nat → Prop} {ad0 : Nat → Nat} {G : Gt}  (C : Cx G p s mt args meth c RX12 cX12_plain 2 none "plain" A) (w1 : Nat) (b1 : Nat) (hs1 : SM b1 = .inr (0, w1)) (hb1 : b1 < 17) (m : Mem) : V G SM oV l p e s mt args below meth c 2 1 A ad0 17 17 RM 17 RM 0 [(0, .ref b1)] [] m (X12_plain w1 b1  m) := by
  rw [X12_plain]
  refine V.iconst (pc := 0) C dX12_plain_0 (v := 0) (by decide) ?_
  refine V.istore_n (pc := 1) C dX12_plain_1 (L2 := [(1, .int 0), (0, .ref b1)]) (by decide) rfl ?_
  refine V.wk [1, 0] rfl ?_
  exact v_X12_plain_b2 C w1 b1 hs1 hb1 FU 0 m
theorem c_X12_plain (l : Launch)  (w1 : Nat) (b1 : Nat) (hs1 : SM b1 = .inr (0, w1)) (hb1 : b1 < 17) (m : Mem) : Ct l yX12_plain cX12_plain 2 none 1 SM oV 17 17 RM RM [.ref b1] m (X12_plain w1 b1  m) :=
  Ct.of (own := RX12) (nm := "plain") (by decide) rfl rfl (Nat.le_of_ble_eq_true rfl) (fun _ _ _ _ _ _ _ _ _ _ _ C => v_X12_plain C w1 b1 hs1 hb1  m)
