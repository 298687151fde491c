theorem dX12_areIt_0 : decode cX12_areIt 0 = .ok (.iconst 0, 1) := by decide +kernel
theorem dX12_areIt_1 : decode cX12_areIt 1 = .ok (.istore_n 2, 1) := by decide +kernel
theorem dX12_areIt_2 : decode cX12_areIt 2 = .ok (.iconst 0, 1) := by decide +kernel
theorem dX12_areIt_3 : decode cX12_areIt 3 = .ok (.istore_n 3, 1) := by decide +kernel
theorem dX12_areIt_4 : decode cX12_areIt 4 = .ok (.iload_n 3, 1) := by decide +kernel
theorem dX12_areIt_5 : decode cX12_areIt 5 = .ok (.aload_n 0, 1) := by decide +kernel
theorem dX12_areIt_6 : decode cX12_areIt 6 = .ok (.getfield 13, 3) := by decide +kernel
theorem dX12_areIt_9 : decode cX12_areIt 9 = .ok (.iconst 2, 1) := by decide +kernel
theorem dX12_areIt_10 : decode cX12_areIt 10 = .ok (.iaload, 1) := by decide +kernel
theorem dX12_areIt_11 : decode cX12_areIt 11 = .ok (.if_icmp .ge 32, 3) := by decide +kernel
theorem dX12_areIt_14 : decode cX12_areIt 14 = .ok (.aload_n 0, 1) := by decide +kernel
theorem dX12_areIt_15 : decode cX12_areIt 15 = .ok (.getfield 13, 3) := by decide +kernel
theorem dX12_areIt_18 : decode cX12_areIt 18 = .ok (.bipush 25, 2) := by decide +kernel
theorem dX12_areIt_20 : decode cX12_areIt 20 = .ok (.iload_n 3, 1) := by decide +kernel
theorem dX12_areIt_21 : decode cX12_areIt 21 = .ok (.iadd, 1) := by decide +kernel
theorem dX12_areIt_22 : decode cX12_areIt 22 = .ok (.iaload, 1) := by decide +kernel
theorem dX12_areIt_23 : decode cX12_areIt 23 = .ok (.i2l, 1) := by decide +kernel
theorem dX12_areIt_24 : decode cX12_areIt 24 = .ok (.iload_n 1, 1) := by decide +kernel
theorem dX12_areIt_25 : decode cX12_areIt 25 = .ok (.invokestatic 175, 3) := by decide +kernel
theorem dX12_areIt_28 : decode cX12_areIt 28 = .ok (.ifCond .eq 9, 3) := by decide +kernel
theorem dX12_areIt_31 : decode cX12_areIt 31 = .ok (.iload_n 2, 1) := by decide +kernel
theorem dX12_areIt_32 : decode cX12_areIt 32 = .ok (.iconst 1, 1) := by decide +kernel
theorem dX12_areIt_33 : decode cX12_areIt 33 = .ok (.iload_n 3, 1) := by decide +kernel
theorem dX12_areIt_34 : decode cX12_areIt 34 = .ok (.ishl, 1) := by decide +kernel
theorem dX12_areIt_35 : decode cX12_areIt 35 = .ok (.ior, 1) := by decide +kernel
theorem dX12_areIt_36 : decode cX12_areIt 36 = .ok (.istore_n 2, 1) := by decide +kernel
theorem dX12_areIt_37 : decode cX12_areIt 37 = .ok (.iinc 3 1, 3) := by decide +kernel
theorem dX12_areIt_40 : decode cX12_areIt 40 = .ok (.goto (-36), 3) := by decide +kernel
theorem dX12_areIt_43 : decode cX12_areIt 43 = .ok (.iload_n 2, 1) := by decide +kernel
theorem dX12_areIt_44 : decode cX12_areIt 44 = .ok (.ireturn, 1) := by decide +kernel
set_option maxRecDepth 100000 in
set_option maxHeartbeats 4000000 in
theorem v_X12_areIt_b4 {l : Launch} {p : Program} {e : Env} {s : State} {mt : MethodId} {args : Array Value} {below : List Frame} {meth : Method} {c : Code} {A : Nat → Prop} {ad0 : Nat → Nat} {G : Gt}  (C : Cx G p s mt args meth c RX12 cX12_areIt 4 (some .int) "areIt" A)  : ∀ (n : Nat) (y1 : Int32) (y2 : Int32) (y3 : Int32) (m : Mem), V G SM oI l p e s mt args below meth c 4 2 A ad0 17 17 RM 17 RM 4 [(0, .ref 0), (1, .int y1), (2, .int y2), (3, .int y3)] [] m (X12_areIt_b4  n y1 y2 y3 m) := by
  intro n
  induction n with
  | zero =>
    intro y1 y2 y3 m
    rw [X12_areIt_b4]
    exact V.nil
  | succ n ih =>
    intro y1 y2 y3 m
    rw [X12_areIt_b4]
    refine V.iload_n (pc := 4) C dX12_areIt_4 3 rfl ?_
    refine V.aload_n (pc := 5) C dX12_areIt_5 0 rfl ?_
    refine V.getr (pc := 6) C fl_RX12_13 sM0 kM0 rfl rM0_1 dX12_areIt_6 ?_
    refine V.iconst (pc := 9) C dX12_areIt_9 (v := 2) (by decide) ?_
    refine V.iald (pc := 10) C sM1 kM1 dX12_areIt_10 (fun _ => ?_)
    refine V.icmp_ge (pc := 11) C dX12_areIt_11 43 (by decide) (fun _ => ?_) (fun _ => ?_)
    · refine V.iload_n (pc := 43) C dX12_areIt_43 2 rfl ?_
      exact V.iret C dX12_areIt_44
    · refine V.aload_n (pc := 14) C dX12_areIt_14 0 rfl ?_
      refine V.getr (pc := 15) C fl_RX12_13 sM0 kM0 rfl rM0_1 dX12_areIt_15 ?_
      refine V.bipush (pc := 18) C dX12_areIt_18 (v := 25) (by decide) ?_
      refine V.iload_n (pc := 20) C dX12_areIt_20 3 rfl ?_
      refine V.iadd (pc := 21) C dX12_areIt_21 ?_
      refine V.iald (pc := 22) C sM1 kM1 dX12_areIt_22 (fun _ => ?_)
      refine V.i2l (pc := 23) C dX12_areIt_23 ?_
      refine V.iload_n (pc := 24) C dX12_areIt_24 1 rfl ?_
      refine V.callS (pc := 25) (st := []) C (c_X12_isIn l (Int32.toInt64 (gi m 1 (ix (25 + y3)))) y1 m) obI ck_X12_isIn ml_RX12_175 rfl rfl (Nat.le_of_ble_eq_true rfl) ⟨by decide, by decide⟩ dX12_areIt_25 (fun r_1 m_2 _ => ?_)
      refine V.if_eq (pc := 28) C dX12_areIt_28 37 (by decide) (fun _ => ?_) (fun _ => ?_)
      · refine V.iinc (pc := 37) C dX12_areIt_37 (v := 1) (L2 := [(3, .int (y3 + 1)), (0, .ref 0), (1, .int y1), (2, .int y2)]) 3 rfl (by decide) (by decide) rfl ?_
        refine V.goto (pc := 40) C dX12_areIt_40 4 (by decide) ?_
        refine V.wk [1, 2, 3, 0] rfl ?_
        exact ih y1 y2 (y3 + 1) m_2
      · refine V.iload_n (pc := 31) C dX12_areIt_31 2 rfl ?_
        refine V.iconst (pc := 32) C dX12_areIt_32 (v := 1) (by decide) ?_
        refine V.iload_n (pc := 33) C dX12_areIt_33 3 rfl ?_
        refine V.ishl (pc := 34) C dX12_areIt_34 ?_
        refine V.ior (pc := 35) C dX12_areIt_35 ?_
        refine V.lti (fun x_3 _ => ?_)
        refine V.istore_n (pc := 36) C dX12_areIt_36 (L2 := [(2, .int x_3), (0, .ref 0), (1, .int y1), (3, .int y3)]) (by decide) rfl ?_
        refine V.iinc (pc := 37) C dX12_areIt_37 (v := 1) (L2 := [(3, .int (y3 + 1)), (2, .int x_3), (0, .ref 0), (1, .int y1)]) 3 rfl (by decide) (by decide) rfl ?_
        refine V.goto (pc := 40) C dX12_areIt_40 4 (by decide) ?_
        refine V.wk [2, 3, 1, 0] rfl ?_
        exact ih y1 x_3 (y3 + 1) m_2
set_option maxRecDepth 100000 in
set_option maxHeartbeats 4000000 in
theorem v_X12_areIt {l : Launch} {p : Program} {e : Env} {s : State} {mt : MethodId} {args : Array Value} {below : List Frame} {meth : Method} {c : Code} {A : Nat → Prop} {ad0 : Nat → Nat} {G : Gt}  (C : Cx G p s mt args meth c RX12 cX12_areIt 4 (some .int) "areIt" A)  (x1 : Int32) (m : Mem) : V G SM oI l p e s mt args below meth c 4 2 A ad0 17 17 RM 17 RM 0 [(0, .ref 0), (1, .int x1)] [] m (X12_areIt  x1 m) := by
  rw [X12_areIt]
  refine V.iconst (pc := 0) C dX12_areIt_0 (v := 0) (by decide) ?_
  refine V.istore_n (pc := 1) C dX12_areIt_1 (L2 := [(2, .int 0), (0, .ref 0), (1, .int x1)]) (by decide) rfl ?_
  refine V.iconst (pc := 2) C dX12_areIt_2 (v := 0) (by decide) ?_
  refine V.istore_n (pc := 3) C dX12_areIt_3 (L2 := [(3, .int 0), (2, .int 0), (0, .ref 0), (1, .int x1)]) (by decide) rfl ?_
  refine V.wk [2, 3, 1, 0] rfl ?_
  exact v_X12_areIt_b4 C  FU x1 0 0 m
theorem c_X12_areIt (l : Launch)   (x1 : Int32) (m : Mem) : Ct l yX12_areIt cX12_areIt 4 (some .int) 2 SM oI 17 17 RM RM [.ref 0, .int x1] m (X12_areIt  x1 m) :=
  Ct.of (own := RX12) (nm := "areIt") (by decide) rfl rfl (Nat.le_of_ble_eq_true rfl) (fun _ _ _ _ _ _ _ _ _ _ _ C => v_X12_areIt C  x1 m)
theorem dX12_within_0 : decode cX12_within 0 = .ok (.lload_n 0, 1) := by decide +kernel
theorem dX12_within_1 : decode cX12_within 1 = .ok (.lload_n 2, 1) := by decide +kernel
theorem dX12_within_2 : decode cX12_within 2 = .ok (.lcmp, 1) := by decide +kernel
theorem dX12_within_3 : decode cX12_within 3 = .ok (.ifCond .lt 14, 3) := by decide +kernel
theorem dX12_within_6 : decode cX12_within 6 = .ok (.lload_n 0, 1) := by decide +kernel
theorem dX12_within_7 : decode cX12_within 7 = .ok (.lload 4, 2) := by decide +kernel
theorem dX12_within_9 : decode cX12_within 9 = .ok (.lcmp, 1) := by decide +kernel
theorem dX12_within_10 : decode cX12_within 10 = .ok (.ifCond .gt 7, 3) := by decide +kernel
theorem dX12_within_13 : decode cX12_within 13 = .ok (.iconst 1, 1) := by decide +kernel
theorem dX12_within_14 : decode cX12_within 14 = .ok (.goto 4, 3) := by decide +kernel
theorem dX12_within_17 : decode cX12_within 17 = .ok (.iconst 0, 1) := by decide +kernel
theorem dX12_within_18 : decode cX12_within 18 = .ok (.ireturn, 1) := by decide +kernel
set_option maxRecDepth 100000 in
set_option maxHeartbeats 4000000 in
theorem v_X12_within {l : Launch} {p : Program} {e : Env} {s : State} {mt : MethodId} {args : Array Value} {below : List Frame} {meth : Method} {c : Code} {A : Nat → Prop} {ad0 : Nat → Nat} {G : Gt}  (C : Cx G p s mt args meth c RX12 cX12_within 6 (some .boolean) "within" A)  (x1 : Int64) (x2 : Int64) (x3 : Int64) (m : Mem) : V G SM oI l p e s mt args below meth c 6 1 A ad0 17 17 RM 17 RM 0 [(0, .long x1), (2, .long x2), (4, .long x3)] [] m (X12_within  x1 x2 x3 m) := by
  rw [X12_within]
  refine V.lload_n (pc := 0) C dX12_within_0 0 rfl ?_
  refine V.lload_n (pc := 1) C dX12_within_1 1 rfl ?_
  refine V.lcmp (pc := 2) C dX12_within_2 ?_
  refine V.if_lt (pc := 3) C dX12_within_3 17 (by decide) (fun _ => ?_) (fun _ => ?_)
  · refine V.iconst (pc := 17) C dX12_within_17 (v := 0) (by decide) ?_
    exact V.zret rfl C dX12_within_18
  · refine V.lload_n (pc := 6) C dX12_within_6 0 rfl ?_
    refine V.lload (pc := 7) C dX12_within_7 2 rfl ?_
    refine V.lcmp (pc := 9) C dX12_within_9 ?_
    refine V.if_gt (pc := 10) C dX12_within_10 17 (by decide) (fun _ => ?_) (fun _ => ?_)
    · refine V.iconst (pc := 17) C dX12_within_17 (v := 0) (by decide) ?_
      exact V.zret rfl C dX12_within_18
    · refine V.iconst (pc := 13) C dX12_within_13 (v := 1) (by decide) ?_
      refine V.goto (pc := 14) C dX12_within_14 18 (by decide) ?_
      exact V.zret rfl C dX12_within_18
theorem c_X12_within (l : Launch)   (x1 : Int64) (x2 : Int64) (x3 : Int64) (m : Mem) : Ct l yX12_within cX12_within 6 (some .boolean) 1 SM oI 17 17 RM RM [.long x1, .long x2, .long x3] m (X12_within  x1 x2 x3 m) :=
  Ct.of (own := RX12) (nm := "within") (by decide) rfl rfl (Nat.le_of_ble_eq_true rfl) (fun _ _ _ _ _ _ _ _ _ _ _ C => v_X12_within C  x1 x2 x3 m)
theorem dX12_isPerson_0 : decode cX12_isPerson 0 = .ok (.lload_n 1, 1) := by decide +kernel
theorem dX12_isPerson_1 : decode cX12_isPerson 1 = .ok (.lconst 0, 1) := by decide +kernel
theorem dX12_isPerson_2 : decode cX12_isPerson 2 = .ok (.aload_n 0, 1) := by decide +kernel
theorem dX12_isPerson_3 : decode cX12_isPerson 3 = .ok (.getfield 13, 3) := by decide +kernel
theorem dX12_isPerson_6 : decode cX12_isPerson 6 = .ok (.iconst 2, 1) := by decide +kernel
theorem dX12_isPerson_7 : decode cX12_isPerson 7 = .ok (.iaload, 1) := by decide +kernel
theorem dX12_isPerson_8 : decode cX12_isPerson 8 = .ok (.iconst 1, 1) := by decide +kernel
theorem dX12_isPerson_9 : decode cX12_isPerson 9 = .ok (.isub, 1) := by decide +kernel
theorem dX12_isPerson_10 : decode cX12_isPerson 10 = .ok (.i2l, 1) := by decide +kernel
theorem dX12_isPerson_11 : decode cX12_isPerson 11 = .ok (.invokestatic 133, 3) := by decide +kernel
theorem dX12_isPerson_14 : decode cX12_isPerson 14 = .ok (.ireturn, 1) := by decide +kernel
set_option maxRecDepth 100000 in
set_option maxHeartbeats 4000000 in
theorem v_X12_isPerson {l : Launch} {p : Program} {e : Env} {s : State} {mt : MethodId} {args : Array Value} {below : List Frame} {meth : Method} {c : Code} {A : Nat → Prop} {ad0 : Nat → Nat} {G : Gt}  (C : Cx G p s mt args meth c RX12 cX12_isPerson 3 (some .boolean) "isPerson" A)  (x1 : Int64) (m : Mem) : V G SM oI l p e s mt args below meth c 3 2 A ad0 17 17 RM 17 RM 0 [(0, .ref 0), (1, .long x1)] [] m (X12_isPerson  x1 m) := by
  rw [X12_isPerson]
  refine V.lload_n (pc := 0) C dX12_isPerson_0 1 rfl ?_
  refine V.lconst (pc := 1) C dX12_isPerson_1 (v := 0) (by decide) ?_
  refine V.aload_n (pc := 2) C dX12_isPerson_2 0 rfl ?_
  refine V.getr (pc := 3) C fl_RX12_13 sM0 kM0 rfl rM0_1 dX12_isPerson_3 ?_
  refine V.iconst (pc := 6) C dX12_isPerson_6 (v := 2) (by decide) ?_
  refine V.iald (pc := 7) C sM1 kM1 dX12_isPerson_7 (fun _ => ?_)
  refine V.iconst (pc := 8) C dX12_isPerson_8 (v := 1) (by decide) ?_
  refine V.isub (pc := 9) C dX12_isPerson_9 ?_
  refine V.i2l (pc := 10) C dX12_isPerson_10 ?_
  refine V.callS (pc := 11) (st := []) C (c_X12_within l x1 0 (Int32.toInt64 ((gi m 1 (ix 2)) - 1)) m) obI ck_X12_within ml_RX12_133 rfl rfl (Nat.le_of_ble_eq_true rfl) ⟨by decide, by decide⟩ dX12_isPerson_11 (fun r_1 m_2 _ => ?_)
  exact V.bret C dX12_isPerson_14
theorem c_X12_isPerson (l : Launch)   (x1 : Int64) (m : Mem) : Ct l yX12_isPerson cX12_isPerson 3 (some .boolean) 2 SM oI 17 17 RM RM [.ref 0, .long x1] m (X12_isPerson  x1 m) :=
  Ct.of (own := RX12) (nm := "isPerson") (by decide) rfl rfl (Nat.le_of_ble_eq_true rfl) (fun _ _ _ _ _ _ _ _ _ _ _ C => v_X12_isPerson C  x1 m)
theorem dX12_areTwo_0 : decode cX12_areTwo 0 = .ok (.aload_n 0, 1) := by decide +kernel
theorem dX12_areTwo_1 : decode cX12_areTwo 1 = .ok (.lload_n 1, 1) := by decide +kernel
theorem dX12_areTwo_2 : decode cX12_areTwo 2 = .ok (.invokevirtual 194, 3) := by decide +kernel
theorem dX12_areTwo_5 : decode cX12_areTwo 5 = .ok (.ifCond .eq 21, 3) := by decide +kernel
theorem dX12_areTwo_8 : decode cX12_areTwo 8 = .ok (.aload_n 0, 1) := by decide +kernel
theorem dX12_areTwo_9 : decode cX12_areTwo 9 = .ok (.lload_n 3, 1) := by decide +kernel
theorem dX12_areTwo_10 : decode cX12_areTwo 10 = .ok (.invokevirtual 194, 3) := by decide +kernel
theorem dX12_areTwo_13 : decode cX12_areTwo 13 = .ok (.ifCond .eq 13, 3) := by decide +kernel
theorem dX12_areTwo_16 : decode cX12_areTwo 16 = .ok (.lload_n 1, 1) := by decide +kernel
theorem dX12_areTwo_17 : decode cX12_areTwo 17 = .ok (.lload_n 3, 1) := by decide +kernel
theorem dX12_areTwo_18 : decode cX12_areTwo 18 = .ok (.lcmp, 1) := by decide +kernel
theorem dX12_areTwo_19 : decode cX12_areTwo 19 = .ok (.ifCond .eq 7, 3) := by decide +kernel
theorem dX12_areTwo_22 : decode cX12_areTwo 22 = .ok (.iconst 1, 1) := by decide +kernel
theorem dX12_areTwo_23 : decode cX12_areTwo 23 = .ok (.goto 4, 3) := by decide +kernel
theorem dX12_areTwo_26 : decode cX12_areTwo 26 = .ok (.iconst 0, 1) := by decide +kernel
theorem dX12_areTwo_27 : decode cX12_areTwo 27 = .ok (.ireturn, 1) := by decide +kernel
set_option maxRecDepth 100000 in
set_option maxHeartbeats 4000000 in
theorem v_X12_areTwo {l : Launch} {p : Program} {e : Env} {s : State} {mt : MethodId} {args : Array Value} {below : List Frame} {meth : Method} {c : Code} {A : Nat → Prop} {ad0 : Nat → Nat} {G : Gt}  (C : Cx G p s mt args meth c RX12 cX12_areTwo 5 (some .boolean) "areTwo" A)  (x1 : Int64) (x2 : Int64) (m : Mem) : V G SM oI l p e s mt args below meth c 5 3 A ad0 17 17 RM 17 RM 0 [(0, .ref 0), (1, .long x1), (3, .long x2)] [] m (X12_areTwo  x1 x2 m) := by
  rw [X12_areTwo]
  refine V.aload_n (pc := 0) C dX12_areTwo_0 0 rfl ?_
  refine V.lload_n (pc := 1) C dX12_areTwo_1 1 rfl ?_
  refine V.callV (pc := 2) (st := []) C (c_X12_isPerson l x1 m) obI ck_X12_isPerson ml_RX12_194 rfl rfl sM0 kM0 rfl rfl (Nat.le_of_ble_eq_true rfl) ⟨by decide, by decide⟩ dX12_areTwo_2 (fun r_1 m_2 _ => ?_)
  refine V.if_eq (pc := 5) C dX12_areTwo_5 26 (by decide) (fun _ => ?_) (fun _ => ?_)
  · refine V.iconst (pc := 26) C dX12_areTwo_26 (v := 0) (by decide) ?_
    exact V.zret rfl C dX12_areTwo_27
  · refine V.aload_n (pc := 8) C dX12_areTwo_8 0 rfl ?_
    refine V.lload_n (pc := 9) C dX12_areTwo_9 2 rfl ?_
    refine V.callV (pc := 10) (st := []) C (c_X12_isPerson l x2 m_2) obI ck_X12_isPerson ml_RX12_194 rfl rfl sM0 kM0 rfl rfl (Nat.le_of_ble_eq_true rfl) ⟨by decide, by decide⟩ dX12_areTwo_10 (fun r_3 m_4 _ => ?_)
    refine V.if_eq (pc := 13) C dX12_areTwo_13 26 (by decide) (fun _ => ?_) (fun _ => ?_)
    · refine V.iconst (pc := 26) C dX12_areTwo_26 (v := 0) (by decide) ?_
      exact V.zret rfl C dX12_areTwo_27
    · refine V.lload_n (pc := 16) C dX12_areTwo_16 1 rfl ?_
      refine V.lload_n (pc := 17) C dX12_areTwo_17 2 rfl ?_
      refine V.lcmp (pc := 18) C dX12_areTwo_18 ?_
      refine V.if_eq (pc := 19) C dX12_areTwo_19 26 (by decide) (fun _ => ?_) (fun _ => ?_)
      · refine V.iconst (pc := 26) C dX12_areTwo_26 (v := 0) (by decide) ?_
        exact V.zret rfl C dX12_areTwo_27
      · refine V.iconst (pc := 22) C dX12_areTwo_22 (v := 1) (by decide) ?_
        refine V.goto (pc := 23) C dX12_areTwo_23 27 (by decide) ?_
        exact V.zret rfl C dX12_areTwo_27
theorem c_X12_areTwo (l : Launch)   (x1 : Int64) (x2 : Int64) (m : Mem) : Ct l yX12_areTwo cX12_areTwo 5 (some .boolean) 3 SM oI 17 17 RM RM [.ref 0, .long x1, .long x2] m (X12_areTwo  x1 x2 m) :=
  Ct.of (own := RX12) (nm := "areTwo") (by decide) rfl rfl (Nat.le_of_ble_eq_true rfl) (fun _ _ _ _ _ _ _ _ _ _ _ C => v_X12_areTwo C  x1 x2 m)
theorem dX12_asksPerson_0 : decode cX12_asksPerson 0 = .ok (.iload_n 1, 1) := by decide +kernel
theorem dX12_asksPerson_1 : decode cX12_asksPerson 1 = .ok (.i2l, 1) := by decide +kernel
theorem dX12_asksPerson_2 : decode cX12_asksPerson 2 = .ok (.lconst 0, 1) := by decide +kernel
theorem dX12_asksPerson_3 : decode cX12_asksPerson 3 = .ok (.lconst 1, 1) := by decide +kernel
theorem dX12_asksPerson_4 : decode cX12_asksPerson 4 = .ok (.invokestatic 133, 3) := by decide +kernel
theorem dX12_asksPerson_7 : decode cX12_asksPerson 7 = .ok (.ifCond .ne 24, 3) := by decide +kernel
theorem dX12_asksPerson_10 : decode cX12_asksPerson 10 = .ok (.iload_n 1, 1) := by decide +kernel
theorem dX12_asksPerson_11 : decode cX12_asksPerson 11 = .ok (.i2l, 1) := by decide +kernel
theorem dX12_asksPerson_12 : decode cX12_asksPerson 12 = .ok (.ldc2_w 344, 3) := by decide +kernel
theorem dX12_asksPerson_15 : decode cX12_asksPerson 15 = .ok (.bipush 9, 2) := by decide +kernel
theorem dX12_asksPerson_17 : decode cX12_asksPerson 17 = .ok (.aload_n 0, 1) := by decide +kernel
theorem dX12_asksPerson_18 : decode cX12_asksPerson 18 = .ok (.getfield 13, 3) := by decide +kernel
theorem dX12_asksPerson_21 : decode cX12_asksPerson 21 = .ok (.iconst 2, 1) := by decide +kernel
theorem dX12_asksPerson_22 : decode cX12_asksPerson 22 = .ok (.iaload, 1) := by decide +kernel
theorem dX12_asksPerson_23 : decode cX12_asksPerson 23 = .ok (.iadd, 1) := by decide +kernel
theorem dX12_asksPerson_24 : decode cX12_asksPerson 24 = .ok (.i2l, 1) := by decide +kernel
theorem dX12_asksPerson_25 : decode cX12_asksPerson 25 = .ok (.invokestatic 133, 3) := by decide +kernel
theorem dX12_asksPerson_28 : decode cX12_asksPerson 28 = .ok (.ifCond .eq 7, 3) := by decide +kernel
theorem dX12_asksPerson_31 : decode cX12_asksPerson 31 = .ok (.iconst 1, 1) := by decide +kernel
theorem dX12_asksPerson_32 : decode cX12_asksPerson 32 = .ok (.goto 4, 3) := by decide +kernel
theorem dX12_asksPerson_35 : decode cX12_asksPerson 35 = .ok (.iconst 0, 1) := by decide +kernel
theorem dX12_asksPerson_36 : decode cX12_asksPerson 36 = .ok (.ireturn, 1) := by decide +kernel
set_option maxRecDepth 100000 in
set_option maxHeartbeats 4000000 in
theorem v_X12_asksPerson {l : Launch} {p : Program} {e : Env} {s : State} {mt : MethodId} {args : Array Value} {below : List Frame} {meth : Method} {c : Code} {A : Nat → Prop} {ad0 : Nat → Nat} {G : Gt}  (C : Cx G p s mt args meth c RX12 cX12_asksPerson 2 (some .boolean) "asksPerson" A)  (x1 : Int32) (m : Mem) : V G SM oI l p e s mt args below meth c 2 2 A ad0 17 17 RM 17 RM 0 [(0, .ref 0), (1, .int x1)] [] m (X12_asksPerson  x1 m) := by
  rw [X12_asksPerson]
  refine V.iload_n (pc := 0) C dX12_asksPerson_0 1 rfl ?_
  refine V.i2l (pc := 1) C dX12_asksPerson_1 ?_
  refine V.lconst (pc := 2) C dX12_asksPerson_2 (v := 0) (by decide) ?_
  refine V.lconst (pc := 3) C dX12_asksPerson_3 (v := 1) (by decide) ?_
  refine V.callS (pc := 4) (st := []) C (c_X12_within l (Int32.toInt64 x1) 0 1 m) obI ck_X12_within ml_RX12_133 rfl rfl (Nat.le_of_ble_eq_true rfl) ⟨by decide, by decide⟩ dX12_asksPerson_4 (fun r_1 m_2 _ => ?_)
  refine V.if_ne (pc := 7) C dX12_asksPerson_7 31 (by decide) (fun _ => ?_) (fun _ => ?_)
  · refine V.iconst (pc := 31) C dX12_asksPerson_31 (v := 1) (by decide) ?_
    refine V.goto (pc := 32) C dX12_asksPerson_32 36 (by decide) ?_
    exact V.zret rfl C dX12_asksPerson_36
  · refine V.iload_n (pc := 10) C dX12_asksPerson_10 1 rfl ?_
    refine V.i2l (pc := 11) C dX12_asksPerson_11 ?_
    refine V.ldc2 (pc := 12) C dX12_asksPerson_12 (v := 10) cl_RX12_344 ?_
    refine V.bipush (pc := 15) C dX12_asksPerson_15 (v := 9) (by decide) ?_
    refine V.aload_n (pc := 17) C dX12_asksPerson_17 0 rfl ?_
    refine V.getr (pc := 18) C fl_RX12_13 sM0 kM0 rfl rM0_1 dX12_asksPerson_18 ?_
    refine V.iconst (pc := 21) C dX12_asksPerson_21 (v := 2) (by decide) ?_
    refine V.iald (pc := 22) C sM1 kM1 dX12_asksPerson_22 (fun _ => ?_)
    refine V.iadd (pc := 23) C dX12_asksPerson_23 ?_
    refine V.i2l (pc := 24) C dX12_asksPerson_24 ?_
    refine V.callS (pc := 25) (st := []) C (c_X12_within l (Int32.toInt64 x1) 10 (Int32.toInt64 (9 + (gi m_2 1 (ix 2)))) m_2) obI ck_X12_within ml_RX12_133 rfl rfl (Nat.le_of_ble_eq_true rfl) ⟨by decide, by decide⟩ dX12_asksPerson_25 (fun r_3 m_4 _ => ?_)
    refine V.if_eq (pc := 28) C dX12_asksPerson_28 35 (by decide) (fun _ => ?_) (fun _ => ?_)
    · refine V.iconst (pc := 35) C dX12_asksPerson_35 (v := 0) (by decide) ?_
      exact V.zret rfl C dX12_asksPerson_36
    · refine V.iconst (pc := 31) C dX12_asksPerson_31 (v := 1) (by decide) ?_
      refine V.goto (pc := 32) C dX12_asksPerson_32 36 (by decide) ?_
      exact V.zret rfl C dX12_asksPerson_36
theorem c_X12_asksPerson (l : Launch)   (x1 : Int32) (m : Mem) : Ct l yX12_asksPerson cX12_asksPerson 2 (some .boolean) 2 SM oI 17 17 RM RM [.ref 0, .int x1] m (X12_asksPerson  x1 m) :=
  Ct.of (own := RX12) (nm := "asksPerson") (by decide) rfl rfl (Nat.le_of_ble_eq_true rfl) (fun _ _ _ _ _ _ _ _ _ _ _ C => v_X12_asksPerson C  x1 m)
theorem dX12_goodAs_0 : decode cX12_goodAs 0 = .ok (.aload_n 2, 1) := by decide +kernel
theorem dX12_goodAs_1 : decode cX12_goodAs 1 = .ok (.iload_n 1, 1) := by decide +kernel
theorem dX12_goodAs_2 : decode cX12_goodAs 2 = .ok (.iaload, 1) := by decide +kernel
theorem dX12_goodAs_3 : decode cX12_goodAs 3 = .ok (.iconst (-1), 1) := by decide +kernel
theorem dX12_goodAs_4 : decode cX12_goodAs 4 = .ok (.if_icmp .ne 8, 3) := by decide +kernel
theorem dX12_goodAs_7 : decode cX12_goodAs 7 = .ok (.ldc 243, 2) := by decide +kernel
theorem dX12_goodAs_9 : decode cX12_goodAs 9 = .ok (.goto 16, 3) := by decide +kernel
theorem dX12_goodAs_12 : decode cX12_goodAs 12 = .ok (.aload_n 0, 1) := by decide +kernel
theorem dX12_goodAs_13 : decode cX12_goodAs 13 = .ok (.getfield 42, 3) := by decide +kernel
theorem dX12_goodAs_16 : decode cX12_goodAs 16 = .ok (.bipush 8, 2) := by decide +kernel
theorem dX12_goodAs_18 : decode cX12_goodAs 18 = .ok (.iload_n 1, 1) := by decide +kernel
theorem dX12_goodAs_19 : decode cX12_goodAs 19 = .ok (.imul, 1) := by decide +kernel
theorem dX12_goodAs_20 : decode cX12_goodAs 20 = .ok (.aload_n 2, 1) := by decide +kernel
theorem dX12_goodAs_21 : decode cX12_goodAs 21 = .ok (.iload_n 1, 1) := by decide +kernel
theorem dX12_goodAs_22 : decode cX12_goodAs 22 = .ok (.iaload, 1) := by decide +kernel
theorem dX12_goodAs_23 : decode cX12_goodAs 23 = .ok (.iadd, 1) := by decide +kernel
theorem dX12_goodAs_24 : decode cX12_goodAs 24 = .ok (.iaload, 1) := by decide +kernel
theorem dX12_goodAs_25 : decode cX12_goodAs 25 = .ok (.ireturn, 1) := by decide +kernel
set_option maxRecDepth 100000 in
set_option maxHeartbeats 4000000 in
theorem v_X12_goodAs {l : Launch} {p : Program} {e : Env} {s : State} {mt : MethodId} {args : Array Value} {below : List Frame} {meth : Method} {c : Code} {A : Nat → Prop} {ad0 : Nat → Nat} {G : Gt}  (C : Cx G p s mt args meth c RX12 cX12_goodAs 3 (some .int) "goodAs" A)  (x1 : Int32) (m : Mem) : V G SM oI l p e s mt args below meth c 3 1 A ad0 17 17 RM 17 RM 0 [(0, .ref 0), (1, .int x1), (2, .ref 10)] [] m (X12_goodAs  x1 m) := by
  rw [X12_goodAs]
  refine V.aload_n (pc := 0) C dX12_goodAs_0 2 rfl ?_
  refine V.iload_n (pc := 1) C dX12_goodAs_1 1 rfl ?_
  refine V.iald (pc := 2) C sM10 kM10 dX12_goodAs_2 (fun _ => ?_)
  refine V.iconst (pc := 3) C dX12_goodAs_3 (v := (-1)) (by decide) ?_
  refine V.icmp_ne (pc := 4) C dX12_goodAs_4 12 (by decide) (fun _ => ?_) (fun _ => ?_)
  · refine V.aload_n (pc := 12) C dX12_goodAs_12 0 rfl ?_
    refine V.getr (pc := 13) C fl_RX12_42 sM0 kM0 rfl rM0_21 dX12_goodAs_13 ?_
    refine V.bipush (pc := 16) C dX12_goodAs_16 (v := 8) (by decide) ?_
    refine V.iload_n (pc := 18) C dX12_goodAs_18 1 rfl ?_
    refine V.imul (pc := 19) C dX12_goodAs_19 ?_
    refine V.aload_n (pc := 20) C dX12_goodAs_20 2 rfl ?_
    refine V.iload_n (pc := 21) C dX12_goodAs_21 1 rfl ?_
    refine V.iald (pc := 22) C sM10 kM10 dX12_goodAs_22 (fun _ => ?_)
    refine V.iadd (pc := 23) C dX12_goodAs_23 ?_
    refine V.iald (pc := 24) C sM9 kM9 dX12_goodAs_24 (fun _ => ?_)
    exact V.iret C dX12_goodAs_25
  · refine V.ldc (pc := 7) C dX12_goodAs_7 (v := (-2000000)) cn_RX12_243 ?_
    refine V.goto (pc := 9) C dX12_goodAs_9 25 (by decide) ?_
    exact V.iret C dX12_goodAs_25
theorem c_X12_goodAs (l : Launch)   (x1 : Int32) (m : Mem) : Ct l yX12_goodAs cX12_goodAs 3 (some .int) 1 SM oI 17 17 RM RM [.ref 0, .int x1, .ref 10] m (X12_goodAs  x1 m) :=
  Ct.of (own := RX12) (nm := "goodAs") (by decide) rfl rfl (Nat.le_of_ble_eq_true rfl) (fun _ _ _ _ _ _ _ _ _ _ _ C => v_X12_goodAs C  x1 m)
theorem dX12_breaksOf_0 : decode cX12_breaksOf 0 = .ok (.iconst 0, 1) := by decide +kernel
theorem dX12_breaksOf_1 : decode cX12_breaksOf 1 = .ok (.istore_n 2, 1) := by decide +kernel
theorem dX12_breaksOf_2 : decode cX12_breaksOf 2 = .ok (.iload_n 2, 1) := by decide +kernel
theorem dX12_breaksOf_3 : decode cX12_breaksOf 3 = .ok (.aload_n 0, 1) := by decide +kernel
theorem dX12_breaksOf_4 : decode cX12_breaksOf 4 = .ok (.getfield 13, 3) := by decide +kernel
theorem dX12_breaksOf_7 : decode cX12_breaksOf 7 = .ok (.iconst 2, 1) := by decide +kernel
theorem dX12_breaksOf_8 : decode cX12_breaksOf 8 = .ok (.iaload, 1) := by decide +kernel
theorem dX12_breaksOf_9 : decode cX12_breaksOf 9 = .ok (.if_icmp .ge 90, 3) := by decide +kernel
theorem dX12_breaksOf_12 : decode cX12_breaksOf 12 = .ok (.iload_n 2, 1) := by decide +kernel
theorem dX12_breaksOf_13 : decode cX12_breaksOf 13 = .ok (.iconst 1, 1) := by decide +kernel
theorem dX12_breaksOf_14 : decode cX12_breaksOf 14 = .ok (.iadd, 1) := by decide +kernel
theorem dX12_breaksOf_15 : decode cX12_breaksOf 15 = .ok (.istore_n 3, 1) := by decide +kernel
theorem dX12_breaksOf_16 : decode cX12_breaksOf 16 = .ok (.iload_n 3, 1) := by decide +kernel
theorem dX12_breaksOf_17 : decode cX12_breaksOf 17 = .ok (.aload_n 0, 1) := by decide +kernel
theorem dX12_breaksOf_18 : decode cX12_breaksOf 18 = .ok (.getfield 13, 3) := by decide +kernel
theorem dX12_breaksOf_21 : decode cX12_breaksOf 21 = .ok (.iconst 2, 1) := by decide +kernel
theorem dX12_breaksOf_22 : decode cX12_breaksOf 22 = .ok (.iaload, 1) := by decide +kernel
theorem dX12_breaksOf_23 : decode cX12_breaksOf 23 = .ok (.if_icmp .ge 70, 3) := by decide +kernel
theorem dX12_breaksOf_26 : decode cX12_breaksOf 26 = .ok (.aload_n 0, 1) := by decide +kernel
theorem dX12_breaksOf_27 : decode cX12_breaksOf 27 = .ok (.getfield 51, 3) := by decide +kernel
theorem dX12_breaksOf_30 : decode cX12_breaksOf 30 = .ok (.bipush 8, 2) := by decide +kernel
theorem dX12_breaksOf_32 : decode cX12_breaksOf 32 = .ok (.iload_n 2, 1) := by decide +kernel
theorem dX12_breaksOf_33 : decode cX12_breaksOf 33 = .ok (.imul, 1) := by decide +kernel
theorem dX12_breaksOf_34 : decode cX12_breaksOf 34 = .ok (.iload_n 3, 1) := by decide +kernel
theorem dX12_breaksOf_35 : decode cX12_breaksOf 35 = .ok (.iadd, 1) := by decide +kernel
theorem dX12_breaksOf_36 : decode cX12_breaksOf 36 = .ok (.baload, 1) := by decide +kernel
theorem dX12_breaksOf_37 : decode cX12_breaksOf 37 = .ok (.ifCond .eq 50, 3) := by decide +kernel
theorem dX12_breaksOf_40 : decode cX12_breaksOf 40 = .ok (.aload_n 0, 1) := by decide +kernel
theorem dX12_breaksOf_41 : decode cX12_breaksOf 41 = .ok (.getfield 42, 3) := by decide +kernel
theorem dX12_breaksOf_44 : decode cX12_breaksOf 44 = .ok (.bipush 8, 2) := by decide +kernel
theorem dX12_breaksOf_46 : decode cX12_breaksOf 46 = .ok (.iload_n 2, 1) := by decide +kernel
theorem dX12_breaksOf_47 : decode cX12_breaksOf 47 = .ok (.imul, 1) := by decide +kernel
theorem dX12_breaksOf_48 : decode cX12_breaksOf 48 = .ok (.iload_n 3, 1) := by decide +kernel
theorem dX12_breaksOf_49 : decode cX12_breaksOf 49 = .ok (.iadd, 1) := by decide +kernel
theorem dX12_breaksOf_50 : decode cX12_breaksOf 50 = .ok (.iaload, 1) := by decide +kernel
theorem dX12_breaksOf_51 : decode cX12_breaksOf 51 = .ok (.aload_n 0, 1) := by decide +kernel
theorem dX12_breaksOf_52 : decode cX12_breaksOf 52 = .ok (.iload_n 2, 1) := by decide +kernel
theorem dX12_breaksOf_53 : decode cX12_breaksOf 53 = .ok (.aload_n 1, 1) := by decide +kernel
theorem dX12_breaksOf_54 : decode cX12_breaksOf 54 = .ok (.invokevirtual 319, 3) := by decide +kernel
theorem dX12_breaksOf_57 : decode cX12_breaksOf 57 = .ok (.if_icmp .le 30, 3) := by decide +kernel
theorem dX12_breaksOf_60 : decode cX12_breaksOf 60 = .ok (.aload_n 0, 1) := by decide +kernel
theorem dX12_breaksOf_61 : decode cX12_breaksOf 61 = .ok (.getfield 42, 3) := by decide +kernel
theorem dX12_breaksOf_64 : decode cX12_breaksOf 64 = .ok (.bipush 8, 2) := by decide +kernel
theorem dX12_breaksOf_66 : decode cX12_breaksOf 66 = .ok (.iload_n 2, 1) := by decide +kernel
theorem dX12_breaksOf_67 : decode cX12_breaksOf 67 = .ok (.imul, 1) := by decide +kernel
theorem dX12_breaksOf_68 : decode cX12_breaksOf 68 = .ok (.iload_n 3, 1) := by decide +kernel
theorem dX12_breaksOf_69 : decode cX12_breaksOf 69 = .ok (.iadd, 1) := by decide +kernel
theorem dX12_breaksOf_70 : decode cX12_breaksOf 70 = .ok (.iaload, 1) := by decide +kernel
theorem dX12_breaksOf_71 : decode cX12_breaksOf 71 = .ok (.aload_n 0, 1) := by decide +kernel
theorem dX12_breaksOf_72 : decode cX12_breaksOf 72 = .ok (.iload_n 3, 1) := by decide +kernel
theorem dX12_breaksOf_73 : decode cX12_breaksOf 73 = .ok (.aload_n 1, 1) := by decide +kernel
theorem dX12_breaksOf_74 : decode cX12_breaksOf 74 = .ok (.invokevirtual 319, 3) := by decide +kernel
theorem dX12_breaksOf_77 : decode cX12_breaksOf 77 = .ok (.if_icmp .le 10, 3) := by decide +kernel
theorem dX12_breaksOf_80 : decode cX12_breaksOf 80 = .ok (.bipush 10, 2) := by decide +kernel
theorem dX12_breaksOf_82 : decode cX12_breaksOf 82 = .ok (.iload_n 2, 1) := by decide +kernel
theorem dX12_breaksOf_83 : decode cX12_breaksOf 83 = .ok (.imul, 1) := by decide +kernel
theorem dX12_breaksOf_84 : decode cX12_breaksOf 84 = .ok (.iload_n 3, 1) := by decide +kernel
theorem dX12_breaksOf_85 : decode cX12_breaksOf 85 = .ok (.iadd, 1) := by decide +kernel
theorem dX12_breaksOf_86 : decode cX12_breaksOf 86 = .ok (.ireturn, 1) := by decide +kernel
theorem dX12_breaksOf_87 : decode cX12_breaksOf 87 = .ok (.iinc 3 1, 3) := by decide +kernel
theorem dX12_breaksOf_90 : decode cX12_breaksOf 90 = .ok (.goto (-74), 3) := by decide +kernel
theorem dX12_breaksOf_93 : decode cX12_breaksOf 93 = .ok (.iinc 2 1, 3) := by decide +kernel
theorem dX12_breaksOf_96 : decode cX12_breaksOf 96 = .ok (.goto (-94), 3) := by decide +kernel
theorem dX12_breaksOf_99 : decode cX12_breaksOf 99 = .ok (.iconst (-1), 1) := by decide +kernel
theorem dX12_breaksOf_100 : decode cX12_breaksOf 100 = .ok (.ireturn, 1) := by decide +kernel
set_option maxRecDepth 100000 in
set_option maxHeartbeats 4000000 in
theorem v_X12_breaksOf_b16 {l : Launch} {p : Program} {e : Env} {s : State} {mt : MethodId} {args : Array Value} {below : List Frame} {meth : Method} {c : Code} {A : Nat → Prop} {ad0 : Nat → Nat} {G : Gt}  (C : Cx G p s mt args meth c RX12 cX12_breaksOf 4 (some .int) "breaksOf" A) (k2 : Int32 → Mem → Option (Int32 × Mem)) (h2 : ∀ (y2 : Int32) (m : Mem), V G SM oI l p e s mt args below meth c 4 2 A ad0 17 17 RM 17 RM 2 [(0, .ref 0), (1, .ref 10), (2, .int y2)] [] m (k2 y2 m)) : ∀ (n : Nat) (y2 : Int32) (y3 : Int32) (m : Mem), V G SM oI l p e s mt args below meth c 4 2 A ad0 17 17 RM 17 RM 16 [(0, .ref 0), (1, .ref 10), (2, .int y2), (3, .int y3)] [] m (X12_breaksOf_b16 k2 n y2 y3 m) := by
  intro n
  induction n with
  | zero =>
    intro y2 y3 m
    rw [X12_breaksOf_b16]
    exact V.nil
  | succ n ih =>
    intro y2 y3 m
    rw [X12_breaksOf_b16]
    refine V.iload_n (pc := 16) C dX12_breaksOf_16 3 rfl ?_
    refine V.aload_n (pc := 17) C dX12_breaksOf_17 0 rfl ?_
    refine V.getr (pc := 18) C fl_RX12_13 sM0 kM0 rfl rM0_1 dX12_breaksOf_18 ?_
    refine V.iconst (pc := 21) C dX12_breaksOf_21 (v := 2) (by decide) ?_
    refine V.iald (pc := 22) C sM1 kM1 dX12_breaksOf_22 (fun _ => ?_)
    refine V.icmp_ge (pc := 23) C dX12_breaksOf_23 93 (by decide) (fun _ => ?_) (fun _ => ?_)
    · refine V.iinc (pc := 93) C dX12_breaksOf_93 (v := 1) (L2 := [(2, .int (y2 + 1)), (0, .ref 0), (1, .ref 10), (3, .int y3)]) 2 rfl (by decide) (by decide) rfl ?_
      refine V.goto (pc := 96) C dX12_breaksOf_96 2 (by decide) ?_
      refine V.wk [1, 2, 0] rfl ?_
      exact h2 (y2 + 1) m
    · refine V.aload_n (pc := 26) C dX12_breaksOf_26 0 rfl ?_
      refine V.getr (pc := 27) C fl_RX12_51 sM0 kM0 rfl rM0_24 dX12_breaksOf_27 ?_
      refine V.bipush (pc := 30) C dX12_breaksOf_30 (v := 8) (by decide) ?_
      refine V.iload_n (pc := 32) C dX12_breaksOf_32 2 rfl ?_
      refine V.imul (pc := 33) C dX12_breaksOf_33 ?_
      refine V.iload_n (pc := 34) C dX12_breaksOf_34 3 rfl ?_
      refine V.iadd (pc := 35) C dX12_breaksOf_35 ?_
      refine V.zald (pc := 36) C sM12 kM12 dX12_breaksOf_36 (fun _ => ?_)
      refine V.if_eq (pc := 37) C dX12_breaksOf_37 87 (by decide) (fun _ => ?_) (fun _ => ?_)
      · refine V.iinc (pc := 87) C dX12_breaksOf_87 (v := 1) (L2 := [(3, .int (y3 + 1)), (0, .ref 0), (1, .ref 10), (2, .int y2)]) 3 rfl (by decide) (by decide) rfl ?_
        refine V.goto (pc := 90) C dX12_breaksOf_90 16 (by decide) ?_
        refine V.wk [1, 2, 3, 0] rfl ?_
        exact ih y2 (y3 + 1) m
      · refine V.aload_n (pc := 40) C dX12_breaksOf_40 0 rfl ?_
        refine V.getr (pc := 41) C fl_RX12_42 sM0 kM0 rfl rM0_21 dX12_breaksOf_41 ?_
        refine V.bipush (pc := 44) C dX12_breaksOf_44 (v := 8) (by decide) ?_
        refine V.iload_n (pc := 46) C dX12_breaksOf_46 2 rfl ?_
        refine V.imul (pc := 47) C dX12_breaksOf_47 ?_
        refine V.iload_n (pc := 48) C dX12_breaksOf_48 3 rfl ?_
        refine V.iadd (pc := 49) C dX12_breaksOf_49 ?_
        refine V.iald (pc := 50) C sM9 kM9 dX12_breaksOf_50 (fun _ => ?_)
        refine V.aload_n (pc := 51) C dX12_breaksOf_51 0 rfl ?_
        refine V.iload_n (pc := 52) C dX12_breaksOf_52 2 rfl ?_
        refine V.aload_n (pc := 53) C dX12_breaksOf_53 1 rfl ?_
        refine V.callV (pc := 54) (st := [.int (gi m 9 (ix ((8 * y2) + y3)))]) C (c_X12_goodAs l y2 m) obI ck_X12_goodAs ml_RX12_319 rfl rfl sM0 kM0 rfl rfl (Nat.le_of_ble_eq_true rfl) ⟨by decide, by decide⟩ dX12_breaksOf_54 (fun r_2 m_3 _ => ?_)
        refine V.icmp_le (pc := 57) C dX12_breaksOf_57 87 (by decide) (fun _ => ?_) (fun _ => ?_)
        · refine V.iinc (pc := 87) C dX12_breaksOf_87 (v := 1) (L2 := [(3, .int (y3 + 1)), (0, .ref 0), (1, .ref 10), (2, .int y2)]) 3 rfl (by decide) (by decide) rfl ?_
          refine V.goto (pc := 90) C dX12_breaksOf_90 16 (by decide) ?_
          refine V.wk [1, 2, 3, 0] rfl ?_
          exact ih y2 (y3 + 1) m_3
        · refine V.aload_n (pc := 60) C dX12_breaksOf_60 0 rfl ?_
          refine V.getr (pc := 61) C fl_RX12_42 sM0 kM0 rfl rM0_21 dX12_breaksOf_61 ?_
          refine V.bipush (pc := 64) C dX12_breaksOf_64 (v := 8) (by decide) ?_
          refine V.iload_n (pc := 66) C dX12_breaksOf_66 2 rfl ?_
          refine V.imul (pc := 67) C dX12_breaksOf_67 ?_
          refine V.iload_n (pc := 68) C dX12_breaksOf_68 3 rfl ?_
          refine V.iadd (pc := 69) C dX12_breaksOf_69 ?_
          refine V.iald (pc := 70) C sM9 kM9 dX12_breaksOf_70 (fun _ => ?_)
          refine V.aload_n (pc := 71) C dX12_breaksOf_71 0 rfl ?_
          refine V.iload_n (pc := 72) C dX12_breaksOf_72 3 rfl ?_
          refine V.aload_n (pc := 73) C dX12_breaksOf_73 1 rfl ?_
          refine V.callV (pc := 74) (st := [.int (gi m_3 9 (ix ((8 * y2) + y3)))]) C (c_X12_goodAs l y3 m_3) obI ck_X12_goodAs ml_RX12_319 rfl rfl sM0 kM0 rfl rfl (Nat.le_of_ble_eq_true rfl) ⟨by decide, by decide⟩ dX12_breaksOf_74 (fun r_4 m_5 _ => ?_)
          refine V.icmp_le (pc := 77) C dX12_breaksOf_77 87 (by decide) (fun _ => ?_) (fun _ => ?_)
          · refine V.iinc (pc := 87) C dX12_breaksOf_87 (v := 1) (L2 := [(3, .int (y3 + 1)), (0, .ref 0), (1, .ref 10), (2, .int y2)]) 3 rfl (by decide) (by decide) rfl ?_
            refine V.goto (pc := 90) C dX12_breaksOf_90 16 (by decide) ?_
            refine V.wk [1, 2, 3, 0] rfl ?_
            exact ih y2 (y3 + 1) m_5
          · refine V.bipush (pc := 80) C dX12_breaksOf_80 (v := 10) (by decide) ?_
            refine V.iload_n (pc := 82) C dX12_breaksOf_82 2 rfl ?_
            refine V.imul (pc := 83) C dX12_breaksOf_83 ?_
            refine V.iload_n (pc := 84) C dX12_breaksOf_84 3 rfl ?_
            refine V.iadd (pc := 85) C dX12_breaksOf_85 ?_
            exact V.iret C dX12_breaksOf_86
set_option maxRecDepth 100000 in
set_option maxHeartbeats 4000000 in
theorem v_X12_breaksOf_b2 {l : Launch} {p : Program} {e : Env} {s : State} {mt : MethodId} {args : Array Value} {below : List Frame} {meth : Method} {c : Code} {A : Nat → Prop} {ad0 : Nat → Nat} {G : Gt}  (C : Cx G p s mt args meth c RX12 cX12_breaksOf 4 (some .int) "breaksOf" A)  : ∀ (n : Nat) (y2 : Int32) (m : Mem), V G SM oI l p e s mt args below meth c 4 2 A ad0 17 17 RM 17 RM 2 [(0, .ref 0), (1, .ref 10), (2, .int y2)] [] m (X12_breaksOf_b2  n y2 m) := by
  intro n
  induction n with
  | zero =>
    intro y2 m
    rw [X12_breaksOf_b2]
    exact V.nil
  | succ n ih =>
    intro y2 m
    rw [X12_breaksOf_b2]
    refine V.iload_n (pc := 2) C dX12_breaksOf_2 2 rfl ?_
    refine V.aload_n (pc := 3) C dX12_breaksOf_3 0 rfl ?_
    refine V.getr (pc := 4) C fl_RX12_13 sM0 kM0 rfl rM0_1 dX12_breaksOf_4 ?_
    refine V.iconst (pc := 7) C dX12_breaksOf_7 (v := 2) (by decide) ?_
    refine V.iald (pc := 8) C sM1 kM1 dX12_breaksOf_8 (fun _ => ?_)
    refine V.icmp_ge (pc := 9) C dX12_breaksOf_9 99 (by decide) (fun _ => ?_) (fun _ => ?_)
    · refine V.iconst (pc := 99) C dX12_breaksOf_99 (v := (-1)) (by decide) ?_
      exact V.iret C dX12_breaksOf_100
    · refine V.iload_n (pc := 12) C dX12_breaksOf_12 2 rfl ?_
      refine V.iconst (pc := 13) C dX12_breaksOf_13 (v := 1) (by decide) ?_
      refine V.iadd (pc := 14) C dX12_breaksOf_14 ?_
      refine V.lti (fun x_1 _ => ?_)
      refine V.istore_n (pc := 15) C dX12_breaksOf_15 (L2 := [(3, .int x_1), (0, .ref 0), (1, .ref 10), (2, .int y2)]) (by decide) rfl ?_
      refine V.wk [1, 2, 3, 0] rfl ?_
      exact v_X12_breaksOf_b16 C (X12_breaksOf_b2 n) ih FU y2 x_1 m
set_option maxRecDepth 100000 in
set_option maxHeartbeats 4000000 in
theorem v_X12_breaksOf {l : Launch} {p : Program} {e : Env} {s : State} {mt : MethodId} {args : Array Value} {below : List Frame} {meth : Method} {c : Code} {A : Nat → Prop} {ad0 : Nat → Nat} {G : Gt}  (C : Cx G p s mt args meth c RX12 cX12_breaksOf 4 (some .int) "breaksOf" A)  (m : Mem) : V G SM oI l p e s mt args below meth c 4 2 A ad0 17 17 RM 17 RM 0 [(0, .ref 0), (1, .ref 10)] [] m (X12_breaksOf   m) := by
  rw [X12_breaksOf]
  refine V.iconst (pc := 0) C dX12_breaksOf_0 (v := 0) (by decide) ?_
  refine V.istore_n (pc := 1) C dX12_breaksOf_1 (L2 := [(2, .int 0), (0, .ref 0), (1, .ref 10)]) (by decide) rfl ?_
  refine V.wk [1, 2, 0] rfl ?_
  exact v_X12_breaksOf_b2 C  FU 0 m
theorem c_X12_breaksOf (l : Launch)   (m : Mem) : Ct l yX12_breaksOf cX12_breaksOf 4 (some .int) 2 SM oI 17 17 RM RM [.ref 0, .ref 10] m (X12_breaksOf   m) :=
  Ct.of (own := RX12) (nm := "breaksOf") (by decide) rfl rfl (Nat.le_of_ble_eq_true rfl) (fun _ _ _ _ _ _ _ _ _ _ _ C => v_X12_breaksOf C   m)
theorem dX12_goesMatch_0 : decode cX12_goesMatch 0 = .ok (.iload_n 1, 1) := by decide +kernel
theorem dX12_goesMatch_1 : decode cX12_goesMatch 1 = .ok (.aload_n 0, 1) := by decide +kernel
theorem dX12_goesMatch_2 : decode cX12_goesMatch 2 = .ok (.getfield 13, 3) := by decide +kernel
theorem dX12_goesMatch_5 : decode cX12_goesMatch 5 = .ok (.iconst 2, 1) := by decide +kernel
theorem dX12_goesMatch_6 : decode cX12_goesMatch 6 = .ok (.iaload, 1) := by decide +kernel
theorem dX12_goesMatch_7 : decode cX12_goesMatch 7 = .ok (.if_icmp .ne 136, 3) := by decide +kernel
theorem dX12_goesMatch_10 : decode cX12_goesMatch 10 = .ok (.aload_n 0, 1) := by decide +kernel
theorem dX12_goesMatch_11 : decode cX12_goesMatch 11 = .ok (.dup, 1) := by decide +kernel
theorem dX12_goesMatch_12 : decode cX12_goesMatch 12 = .ok (.getfield 330, 3) := by decide +kernel
theorem dX12_goesMatch_15 : decode cX12_goesMatch 15 = .ok (.iload_n 2, 1) := by decide +kernel
theorem dX12_goesMatch_16 : decode cX12_goesMatch 16 = .ok (.iload 4, 2) := by decide +kernel
theorem dX12_goesMatch_18 : decode cX12_goesMatch 18 = .ok (.if_icmp .ne 7, 3) := by decide +kernel
theorem dX12_goesMatch_21 : decode cX12_goesMatch 21 = .ok (.iconst 1, 1) := by decide +kernel
theorem dX12_goesMatch_22 : decode cX12_goesMatch 22 = .ok (.goto 4, 3) := by decide +kernel
theorem dX12_goesMatch_25 : decode cX12_goesMatch 25 = .ok (.iconst 0, 1) := by decide +kernel
theorem dX12_goesMatch_26 : decode cX12_goesMatch 26 = .ok (.iadd, 1) := by decide +kernel
theorem dX12_goesMatch_27 : decode cX12_goesMatch 27 = .ok (.putfield 330, 3) := by decide +kernel
theorem dX12_goesMatch_30 : decode cX12_goesMatch 30 = .ok (.aload_n 0, 1) := by decide +kernel
theorem dX12_goesMatch_31 : decode cX12_goesMatch 31 = .ok (.getfield 323, 3) := by decide +kernel
theorem dX12_goesMatch_34 : decode cX12_goesMatch 34 = .ok (.ifCond .eq 31, 3) := by decide +kernel
theorem dX12_goesMatch_37 : decode cX12_goesMatch 37 = .ok (.aload_n 0, 1) := by decide +kernel
theorem dX12_goesMatch_38 : decode cX12_goesMatch 38 = .ok (.getfield 327, 3) := by decide +kernel
theorem dX12_goesMatch_41 : decode cX12_goesMatch 41 = .ok (.iconst (-1), 1) := by decide +kernel
theorem dX12_goesMatch_42 : decode cX12_goesMatch 42 = .ok (.if_icmp .ne 19, 3) := by decide +kernel
theorem dX12_goesMatch_45 : decode cX12_goesMatch 45 = .ok (.aload_n 0, 1) := by decide +kernel
theorem dX12_goesMatch_46 : decode cX12_goesMatch 46 = .ok (.aload_n 0, 1) := by decide +kernel
theorem dX12_goesMatch_47 : decode cX12_goesMatch 47 = .ok (.getfield 45, 3) := by decide +kernel
theorem dX12_goesMatch_50 : decode cX12_goesMatch 50 = .ok (.invokevirtual 337, 3) := by decide +kernel
theorem dX12_goesMatch_53 : decode cX12_goesMatch 53 = .ok (.iconst (-1), 1) := by decide +kernel
theorem dX12_goesMatch_54 : decode cX12_goesMatch 54 = .ok (.if_icmp .ne 7, 3) := by decide +kernel
theorem dX12_goesMatch_57 : decode cX12_goesMatch 57 = .ok (.iconst 1, 1) := by decide +kernel
theorem dX12_goesMatch_58 : decode cX12_goesMatch 58 = .ok (.goto 36, 3) := by decide +kernel
theorem dX12_goesMatch_61 : decode cX12_goesMatch 61 = .ok (.iconst 0, 1) := by decide +kernel
theorem dX12_goesMatch_62 : decode cX12_goesMatch 62 = .ok (.goto 32, 3) := by decide +kernel
theorem dX12_goesMatch_65 : decode cX12_goesMatch 65 = .ok (.iload_n 2, 1) := by decide +kernel
theorem dX12_goesMatch_66 : decode cX12_goesMatch 66 = .ok (.aload_n 0, 1) := by decide +kernel
theorem dX12_goesMatch_67 : decode cX12_goesMatch 67 = .ok (.getfield 327, 3) := by decide +kernel
theorem dX12_goesMatch_70 : decode cX12_goesMatch 70 = .ok (.if_icmp .gt 19, 3) := by decide +kernel
theorem dX12_goesMatch_73 : decode cX12_goesMatch 73 = .ok (.iload_n 2, 1) := by decide +kernel
theorem dX12_goesMatch_74 : decode cX12_goesMatch 74 = .ok (.aload_n 0, 1) := by decide +kernel
theorem dX12_goesMatch_75 : decode cX12_goesMatch 75 = .ok (.getfield 327, 3) := by decide +kernel
theorem dX12_goesMatch_78 : decode cX12_goesMatch 78 = .ok (.if_icmp .ne 15, 3) := by decide +kernel
theorem dX12_goesMatch_81 : decode cX12_goesMatch 81 = .ok (.iload_n 3, 1) := by decide +kernel
theorem dX12_goesMatch_82 : decode cX12_goesMatch 82 = .ok (.aload_n 0, 1) := by decide +kernel
theorem dX12_goesMatch_83 : decode cX12_goesMatch 83 = .ok (.getfield 341, 3) := by decide +kernel
theorem dX12_goesMatch_86 : decode cX12_goesMatch 86 = .ok (.if_icmp .le 7, 3) := by decide +kernel
theorem dX12_goesMatch_89 : decode cX12_goesMatch 89 = .ok (.iconst 1, 1) := by decide +kernel
theorem dX12_goesMatch_90 : decode cX12_goesMatch 90 = .ok (.goto 4, 3) := by decide +kernel
theorem dX12_goesMatch_93 : decode cX12_goesMatch 93 = .ok (.iconst 0, 1) := by decide +kernel
theorem dX12_goesMatch_94 : decode cX12_goesMatch 94 = .ok (.istore 5, 2) := by decide +kernel
theorem dX12_goesMatch_96 : decode cX12_goesMatch 96 = .ok (.iload 5, 2) := by decide +kernel
theorem dX12_goesMatch_98 : decode cX12_goesMatch 98 = .ok (.ifCond .ne 4, 3) := by decide +kernel
theorem dX12_goesMatch_101 : decode cX12_goesMatch 101 = .ok (.return_, 1) := by decide +kernel
theorem dX12_goesMatch_102 : decode cX12_goesMatch 102 = .ok (.aload_n 0, 1) := by decide +kernel
theorem dX12_goesMatch_103 : decode cX12_goesMatch 103 = .ok (.iload_n 2, 1) := by decide +kernel
theorem dX12_goesMatch_104 : decode cX12_goesMatch 104 = .ok (.putfield 327, 3) := by decide +kernel
theorem dX12_goesMatch_107 : decode cX12_goesMatch 107 = .ok (.aload_n 0, 1) := by decide +kernel
theorem dX12_goesMatch_108 : decode cX12_goesMatch 108 = .ok (.iload_n 3, 1) := by decide +kernel
theorem dX12_goesMatch_109 : decode cX12_goesMatch 109 = .ok (.putfield 341, 3) := by decide +kernel
theorem dX12_goesMatch_112 : decode cX12_goesMatch 112 = .ok (.iconst 0, 1) := by decide +kernel
theorem dX12_goesMatch_113 : decode cX12_goesMatch 113 = .ok (.istore 6, 2) := by decide +kernel
theorem dX12_goesMatch_115 : decode cX12_goesMatch 115 = .ok (.iload 6, 2) := by decide +kernel
theorem dX12_goesMatch_117 : decode cX12_goesMatch 117 = .ok (.bipush 8, 2) := by decide +kernel
theorem dX12_goesMatch_119 : decode cX12_goesMatch 119 = .ok (.if_icmp .ge 23, 3) := by decide +kernel
theorem dX12_goesMatch_122 : decode cX12_goesMatch 122 = .ok (.aload_n 0, 1) := by decide +kernel
theorem dX12_goesMatch_123 : decode cX12_goesMatch 123 = .ok (.getfield 48, 3) := by decide +kernel
theorem dX12_goesMatch_126 : decode cX12_goesMatch 126 = .ok (.iload 6, 2) := by decide +kernel
theorem dX12_goesMatch_128 : decode cX12_goesMatch 128 = .ok (.aload_n 0, 1) := by decide +kernel
theorem dX12_goesMatch_129 : decode cX12_goesMatch 129 = .ok (.getfield 45, 3) := by decide +kernel
theorem dX12_goesMatch_132 : decode cX12_goesMatch 132 = .ok (.iload 6, 2) := by decide +kernel
theorem dX12_goesMatch_134 : decode cX12_goesMatch 134 = .ok (.iaload, 1) := by decide +kernel
theorem dX12_goesMatch_135 : decode cX12_goesMatch 135 = .ok (.iastore, 1) := by decide +kernel
theorem dX12_goesMatch_136 : decode cX12_goesMatch 136 = .ok (.iinc 6 1, 3) := by decide +kernel
theorem dX12_goesMatch_139 : decode cX12_goesMatch 139 = .ok (.goto (-24), 3) := by decide +kernel
theorem dX12_goesMatch_142 : decode cX12_goesMatch 142 = .ok (.return_, 1) := by decide +kernel
theorem dX12_goesMatch_143 : decode cX12_goesMatch 143 = .ok (.aload_n 0, 1) := by decide +kernel
theorem dX12_goesMatch_144 : decode cX12_goesMatch 144 = .ok (.getfield 45, 3) := by decide +kernel
theorem dX12_goesMatch_147 : decode cX12_goesMatch 147 = .ok (.iload_n 1, 1) := by decide +kernel
theorem dX12_goesMatch_148 : decode cX12_goesMatch 148 = .ok (.iaload, 1) := by decide +kernel
theorem dX12_goesMatch_149 : decode cX12_goesMatch 149 = .ok (.iconst (-1), 1) := by decide +kernel
theorem dX12_goesMatch_150 : decode cX12_goesMatch 150 = .ok (.if_icmp .eq 15, 3) := by decide +kernel
theorem dX12_goesMatch_153 : decode cX12_goesMatch 153 = .ok (.aload_n 0, 1) := by decide +kernel
theorem dX12_goesMatch_154 : decode cX12_goesMatch 154 = .ok (.iload_n 1, 1) := by decide +kernel
theorem dX12_goesMatch_155 : decode cX12_goesMatch 155 = .ok (.iconst 1, 1) := by decide +kernel
theorem dX12_goesMatch_156 : decode cX12_goesMatch 156 = .ok (.iadd, 1) := by decide +kernel
theorem dX12_goesMatch_157 : decode cX12_goesMatch 157 = .ok (.iload_n 2, 1) := by decide +kernel
theorem dX12_goesMatch_158 : decode cX12_goesMatch 158 = .ok (.iload_n 3, 1) := by decide +kernel
theorem dX12_goesMatch_159 : decode cX12_goesMatch 159 = .ok (.iload 4, 2) := by decide +kernel
theorem dX12_goesMatch_161 : decode cX12_goesMatch 161 = .ok (.invokevirtual 333, 3) := by decide +kernel
theorem dX12_goesMatch_164 : decode cX12_goesMatch 164 = .ok (.return_, 1) := by decide +kernel
theorem dX12_goesMatch_165 : decode cX12_goesMatch 165 = .ok (.iload_n 1, 1) := by decide +kernel
theorem dX12_goesMatch_166 : decode cX12_goesMatch 166 = .ok (.iconst 1, 1) := by decide +kernel
theorem dX12_goesMatch_167 : decode cX12_goesMatch 167 = .ok (.iadd, 1) := by decide +kernel
theorem dX12_goesMatch_168 : decode cX12_goesMatch 168 = .ok (.istore 5, 2) := by decide +kernel
theorem dX12_goesMatch_170 : decode cX12_goesMatch 170 = .ok (.iload 5, 2) := by decide +kernel
theorem dX12_goesMatch_172 : decode cX12_goesMatch 172 = .ok (.aload_n 0, 1) := by decide +kernel
theorem dX12_goesMatch_173 : decode cX12_goesMatch 173 = .ok (.getfield 13, 3) := by decide +kernel
theorem dX12_goesMatch_176 : decode cX12_goesMatch 176 = .ok (.iconst 2, 1) := by decide +kernel
theorem dX12_goesMatch_177 : decode cX12_goesMatch 177 = .ok (.iaload, 1) := by decide +kernel
theorem dX12_goesMatch_178 : decode cX12_goesMatch 178 = .ok (.if_icmp .ge 95, 3) := by decide +kernel
theorem dX12_goesMatch_181 : decode cX12_goesMatch 181 = .ok (.aload_n 0, 1) := by decide +kernel
theorem dX12_goesMatch_182 : decode cX12_goesMatch 182 = .ok (.getfield 45, 3) := by decide +kernel
theorem dX12_goesMatch_185 : decode cX12_goesMatch 185 = .ok (.iload 5, 2) := by decide +kernel
theorem dX12_goesMatch_187 : decode cX12_goesMatch 187 = .ok (.iaload, 1) := by decide +kernel
theorem dX12_goesMatch_188 : decode cX12_goesMatch 188 = .ok (.iconst (-1), 1) := by decide +kernel
theorem dX12_goesMatch_189 : decode cX12_goesMatch 189 = .ok (.if_icmp .ne 78, 3) := by decide +kernel
theorem dX12_goesMatch_192 : decode cX12_goesMatch 192 = .ok (.aload_n 0, 1) := by decide +kernel
theorem dX12_goesMatch_193 : decode cX12_goesMatch 193 = .ok (.getfield 51, 3) := by decide +kernel
theorem dX12_goesMatch_196 : decode cX12_goesMatch 196 = .ok (.bipush 8, 2) := by decide +kernel
theorem dX12_goesMatch_198 : decode cX12_goesMatch 198 = .ok (.iload_n 1, 1) := by decide +kernel
theorem dX12_goesMatch_199 : decode cX12_goesMatch 199 = .ok (.imul, 1) := by decide +kernel
theorem dX12_goesMatch_200 : decode cX12_goesMatch 200 = .ok (.iload 5, 2) := by decide +kernel
theorem dX12_goesMatch_202 : decode cX12_goesMatch 202 = .ok (.iadd, 1) := by decide +kernel
theorem dX12_goesMatch_203 : decode cX12_goesMatch 203 = .ok (.baload, 1) := by decide +kernel
theorem dX12_goesMatch_204 : decode cX12_goesMatch 204 = .ok (.ifCond .ne 6, 3) := by decide +kernel
theorem dX12_goesMatch_207 : decode cX12_goesMatch 207 = .ok (.goto 60, 3) := by decide +kernel
theorem dX12_goesMatch_210 : decode cX12_goesMatch 210 = .ok (.aload_n 0, 1) := by decide +kernel
theorem dX12_goesMatch_211 : decode cX12_goesMatch 211 = .ok (.getfield 45, 3) := by decide +kernel
theorem dX12_goesMatch_214 : decode cX12_goesMatch 214 = .ok (.iload_n 1, 1) := by decide +kernel
theorem dX12_goesMatch_215 : decode cX12_goesMatch 215 = .ok (.iload 5, 2) := by decide +kernel
theorem dX12_goesMatch_217 : decode cX12_goesMatch 217 = .ok (.iastore, 1) := by decide +kernel
theorem dX12_goesMatch_218 : decode cX12_goesMatch 218 = .ok (.aload_n 0, 1) := by decide +kernel
theorem dX12_goesMatch_219 : decode cX12_goesMatch 219 = .ok (.getfield 45, 3) := by decide +kernel
theorem dX12_goesMatch_222 : decode cX12_goesMatch 222 = .ok (.iload 5, 2) := by decide +kernel
theorem dX12_goesMatch_224 : decode cX12_goesMatch 224 = .ok (.iload_n 1, 1) := by decide +kernel
theorem dX12_goesMatch_225 : decode cX12_goesMatch 225 = .ok (.iastore, 1) := by decide +kernel
theorem dX12_goesMatch_226 : decode cX12_goesMatch 226 = .ok (.aload_n 0, 1) := by decide +kernel
theorem dX12_goesMatch_227 : decode cX12_goesMatch 227 = .ok (.iload_n 1, 1) := by decide +kernel
theorem dX12_goesMatch_228 : decode cX12_goesMatch 228 = .ok (.iconst 1, 1) := by decide +kernel
theorem dX12_goesMatch_229 : decode cX12_goesMatch 229 = .ok (.iadd, 1) := by decide +kernel
theorem dX12_goesMatch_230 : decode cX12_goesMatch 230 = .ok (.iload_n 2, 1) := by decide +kernel
theorem dX12_goesMatch_231 : decode cX12_goesMatch 231 = .ok (.iconst 1, 1) := by decide +kernel
theorem dX12_goesMatch_232 : decode cX12_goesMatch 232 = .ok (.iadd, 1) := by decide +kernel
theorem dX12_goesMatch_233 : decode cX12_goesMatch 233 = .ok (.iload_n 3, 1) := by decide +kernel
theorem dX12_goesMatch_234 : decode cX12_goesMatch 234 = .ok (.aload_n 0, 1) := by decide +kernel
theorem dX12_goesMatch_235 : decode cX12_goesMatch 235 = .ok (.getfield 42, 3) := by decide +kernel
theorem dX12_goesMatch_238 : decode cX12_goesMatch 238 = .ok (.bipush 8, 2) := by decide +kernel
theorem dX12_goesMatch_240 : decode cX12_goesMatch 240 = .ok (.iload_n 1, 1) := by decide +kernel
theorem dX12_goesMatch_241 : decode cX12_goesMatch 241 = .ok (.imul, 1) := by decide +kernel
theorem dX12_goesMatch_242 : decode cX12_goesMatch 242 = .ok (.iload 5, 2) := by decide +kernel
theorem dX12_goesMatch_244 : decode cX12_goesMatch 244 = .ok (.iadd, 1) := by decide +kernel
theorem dX12_goesMatch_245 : decode cX12_goesMatch 245 = .ok (.iaload, 1) := by decide +kernel
theorem dX12_goesMatch_246 : decode cX12_goesMatch 246 = .ok (.iadd, 1) := by decide +kernel
theorem dX12_goesMatch_247 : decode cX12_goesMatch 247 = .ok (.iload 4, 2) := by decide +kernel
theorem dX12_goesMatch_249 : decode cX12_goesMatch 249 = .ok (.invokevirtual 333, 3) := by decide +kernel
theorem dX12_goesMatch_252 : decode cX12_goesMatch 252 = .ok (.aload_n 0, 1) := by decide +kernel
theorem dX12_goesMatch_253 : decode cX12_goesMatch 253 = .ok (.getfield 45, 3) := by decide +kernel
theorem dX12_goesMatch_256 : decode cX12_goesMatch 256 = .ok (.iload_n 1, 1) := by decide +kernel
theorem dX12_goesMatch_257 : decode cX12_goesMatch 257 = .ok (.iconst (-1), 1) := by decide +kernel
theorem dX12_goesMatch_258 : decode cX12_goesMatch 258 = .ok (.iastore, 1) := by decide +kernel
theorem dX12_goesMatch_259 : decode cX12_goesMatch 259 = .ok (.aload_n 0, 1) := by decide +kernel
theorem dX12_goesMatch_260 : decode cX12_goesMatch 260 = .ok (.getfield 45, 3) := by decide +kernel
theorem dX12_goesMatch_263 : decode cX12_goesMatch 263 = .ok (.iload 5, 2) := by decide +kernel
theorem dX12_goesMatch_265 : decode cX12_goesMatch 265 = .ok (.iconst (-1), 1) := by decide +kernel
theorem dX12_goesMatch_266 : decode cX12_goesMatch 266 = .ok (.iastore, 1) := by decide +kernel
theorem dX12_goesMatch_267 : decode cX12_goesMatch 267 = .ok (.iinc 5 1, 3) := by decide +kernel
theorem dX12_goesMatch_270 : decode cX12_goesMatch 270 = .ok (.goto (-100), 3) := by decide +kernel
theorem dX12_goesMatch_273 : decode cX12_goesMatch 273 = .ok (.aload_n 0, 1) := by decide +kernel
theorem dX12_goesMatch_274 : decode cX12_goesMatch 274 = .ok (.iload_n 1, 1) := by decide +kernel
theorem dX12_goesMatch_275 : decode cX12_goesMatch 275 = .ok (.iconst 1, 1) := by decide +kernel
theorem dX12_goesMatch_276 : decode cX12_goesMatch 276 = .ok (.iadd, 1) := by decide +kernel
theorem dX12_goesMatch_277 : decode cX12_goesMatch 277 = .ok (.iload_n 2, 1) := by decide +kernel
theorem dX12_goesMatch_278 : decode cX12_goesMatch 278 = .ok (.iload_n 3, 1) := by decide +kernel
theorem dX12_goesMatch_279 : decode cX12_goesMatch 279 = .ok (.iload 4, 2) := by decide +kernel
theorem dX12_goesMatch_281 : decode cX12_goesMatch 281 = .ok (.invokevirtual 333, 3) := by decide +kernel
theorem dX12_goesMatch_284 : decode cX12_goesMatch 284 = .ok (.return_, 1) := by decide +kernel
set_option maxRecDepth 100000 in
set_option maxHeartbeats 4000000 in
theorem v_X12_goesMatch_b170 {l : Launch} {p : Program} {e : Env} {s : State} {mt : MethodId} {args : Array Value} {below : List Frame} {meth : Method} {c : Code} {A : Nat → Prop} {ad0 : Nat → Nat} {G : Gt}  {fr fr1 : Nat} (hfr : fr1 + 1 ≤ fr ∧ 3 ≤ fr) (C : Cx G p s mt args meth c RX12 cX12_goesMatch 7 none "goesMatch" A) (f_X12_goesMatch : Int32 → Int32 → Int32 → Int32 → Mem → Option (Unit × Mem)) (h_X12_goesMatch : ∀ (x1 : Int32) (x2 : Int32) (x3 : Int32) (x4 : Int32) (m : Mem), Ct l yX12_goesMatch cX12_goesMatch 7 none fr1 SM oV 17 17 RM RM [.ref 0, .int x1, .int x2, .int x3, .int x4] m (f_X12_goesMatch x1 x2 x3 x4 m)) : ∀ (n : Nat) (y1 : Int32) (y2 : Int32) (y3 : Int32) (y4 : Int32) (y5 : Int32) (m : Mem), V G SM oV l p e s mt args below meth c 7 fr A ad0 17 17 RM 17 RM 170 [(0, .ref 0), (1, .int y1), (2, .int y2), (3, .int y3), (4, .int y4), (5, .int y5)] [] m (X12_goesMatch_b170 f_X12_goesMatch n y1 y2 y3 y4 y5 m) := by
  intro n
  induction n with
  | zero =>
    intro y1 y2 y3 y4 y5 m
    rw [X12_goesMatch_b170]
    exact V.nil
  | succ n ih =>
    intro y1 y2 y3 y4 y5 m
    rw [X12_goesMatch_b170]
    refine V.iload (pc := 170) C dX12_goesMatch_170 5 rfl ?_
    refine V.aload_n (pc := 172) C dX12_goesMatch_172 0 rfl ?_
    refine V.getr (pc := 173) C fl_RX12_13 sM0 kM0 rfl rM0_1 dX12_goesMatch_173 ?_
    refine V.iconst (pc := 176) C dX12_goesMatch_176 (v := 2) (by decide) ?_
    refine V.iald (pc := 177) C sM1 kM1 dX12_goesMatch_177 (fun _ => ?_)
    refine V.icmp_ge (pc := 178) C dX12_goesMatch_178 273 (by decide) (fun _ => ?_) (fun _ => ?_)
    · refine V.aload_n (pc := 273) C dX12_goesMatch_273 0 rfl ?_
      refine V.iload_n (pc := 274) C dX12_goesMatch_274 1 rfl ?_
      refine V.iconst (pc := 275) C dX12_goesMatch_275 (v := 1) (by decide) ?_
      refine V.iadd (pc := 276) C dX12_goesMatch_276 ?_
      refine V.iload_n (pc := 277) C dX12_goesMatch_277 2 rfl ?_
      refine V.iload_n (pc := 278) C dX12_goesMatch_278 3 rfl ?_
      refine V.iload (pc := 279) C dX12_goesMatch_279 4 rfl ?_
      refine V.callV (pc := 281) (st := []) C (h_X12_goesMatch (y1 + 1) y2 y3 y4 m) obV ck_X12_goesMatch ml_RX12_333 rfl rfl sM0 kM0 rfl rfl (Nat.le_of_ble_eq_true rfl) ⟨by omega, by decide⟩ dX12_goesMatch_281 (fun r_2 m_3 _ => ?_)
      exact V.vret C dX12_goesMatch_284
    · refine V.aload_n (pc := 181) C dX12_goesMatch_181 0 rfl ?_
      refine V.getr (pc := 182) C fl_RX12_45 sM0 kM0 rfl rM0_22 dX12_goesMatch_182 ?_
      refine V.iload (pc := 185) C dX12_goesMatch_185 5 rfl ?_
      refine V.iald (pc := 187) C sM10 kM10 dX12_goesMatch_187 (fun _ => ?_)
      refine V.iconst (pc := 188) C dX12_goesMatch_188 (v := (-1)) (by decide) ?_
      refine V.icmp_ne (pc := 189) C dX12_goesMatch_189 267 (by decide) (fun _ => ?_) (fun _ => ?_)
      · refine V.iinc (pc := 267) C dX12_goesMatch_267 (v := 1) (L2 := [(5, .int (y5 + 1)), (0, .ref 0), (1, .int y1), (2, .int y2), (3, .int y3), (4, .int y4)]) 5 rfl (by decide) (by decide) rfl ?_
        refine V.goto (pc := 270) C dX12_goesMatch_270 170 (by decide) ?_
        refine V.wk [1, 2, 3, 4, 5, 0] rfl ?_
        exact ih y1 y2 y3 y4 (y5 + 1) m
      · refine V.aload_n (pc := 192) C dX12_goesMatch_192 0 rfl ?_
        refine V.getr (pc := 193) C fl_RX12_51 sM0 kM0 rfl rM0_24 dX12_goesMatch_193 ?_
        refine V.bipush (pc := 196) C dX12_goesMatch_196 (v := 8) (by decide) ?_
        refine V.iload_n (pc := 198) C dX12_goesMatch_198 1 rfl ?_
        refine V.imul (pc := 199) C dX12_goesMatch_199 ?_
        refine V.iload (pc := 200) C dX12_goesMatch_200 5 rfl ?_
        refine V.iadd (pc := 202) C dX12_goesMatch_202 ?_
        refine V.zald (pc := 203) C sM12 kM12 dX12_goesMatch_203 (fun _ => ?_)
        refine V.if_ne (pc := 204) C dX12_goesMatch_204 210 (by decide) (fun _ => ?_) (fun _ => ?_)
        · refine V.aload_n (pc := 210) C dX12_goesMatch_210 0 rfl ?_
          refine V.getr (pc := 211) C fl_RX12_45 sM0 kM0 rfl rM0_22 dX12_goesMatch_211 ?_
          refine V.iload_n (pc := 214) C dX12_goesMatch_214 1 rfl ?_
          refine V.iload (pc := 215) C dX12_goesMatch_215 5 rfl ?_
          refine V.iast (pc := 217) C sM10 kM10 dX12_goesMatch_217 (fun _ => ?_)
          refine V.ltm (fun m_4 => ?_)
          refine V.aload_n (pc := 218) C dX12_goesMatch_218 0 rfl ?_
          refine V.getr (pc := 219) C fl_RX12_45 sM0 kM0 rfl rM0_22 dX12_goesMatch_219 ?_
          refine V.iload (pc := 222) C dX12_goesMatch_222 5 rfl ?_
          refine V.iload_n (pc := 224) C dX12_goesMatch_224 1 rfl ?_
          refine V.iast (pc := 225) C sM10 kM10 dX12_goesMatch_225 (fun _ => ?_)
          refine V.ltm (fun m_5 => ?_)
          refine V.aload_n (pc := 226) C dX12_goesMatch_226 0 rfl ?_
          refine V.iload_n (pc := 227) C dX12_goesMatch_227 1 rfl ?_
          refine V.iconst (pc := 228) C dX12_goesMatch_228 (v := 1) (by decide) ?_
          refine V.iadd (pc := 229) C dX12_goesMatch_229 ?_
          refine V.iload_n (pc := 230) C dX12_goesMatch_230 2 rfl ?_
          refine V.iconst (pc := 231) C dX12_goesMatch_231 (v := 1) (by decide) ?_
          refine V.iadd (pc := 232) C dX12_goesMatch_232 ?_
          refine V.iload_n (pc := 233) C dX12_goesMatch_233 3 rfl ?_
          refine V.aload_n (pc := 234) C dX12_goesMatch_234 0 rfl ?_
          refine V.getr (pc := 235) C fl_RX12_42 sM0 kM0 rfl rM0_21 dX12_goesMatch_235 ?_
          refine V.bipush (pc := 238) C dX12_goesMatch_238 (v := 8) (by decide) ?_
          refine V.iload_n (pc := 240) C dX12_goesMatch_240 1 rfl ?_
          refine V.imul (pc := 241) C dX12_goesMatch_241 ?_
          refine V.iload (pc := 242) C dX12_goesMatch_242 5 rfl ?_
          refine V.iadd (pc := 244) C dX12_goesMatch_244 ?_
          refine V.iald (pc := 245) C sM9 kM9 dX12_goesMatch_245 (fun _ => ?_)
          refine V.iadd (pc := 246) C dX12_goesMatch_246 ?_
          refine V.iload (pc := 247) C dX12_goesMatch_247 4 rfl ?_
          refine V.callV (pc := 249) (st := []) C (h_X12_goesMatch (y1 + 1) (y2 + 1) (y3 + (gi m_5 9 (ix ((8 * y1) + y5)))) y4 m_5) obV ck_X12_goesMatch ml_RX12_333 rfl rfl sM0 kM0 rfl rfl (Nat.le_of_ble_eq_true rfl) ⟨by omega, by decide⟩ dX12_goesMatch_249 (fun r_6 m_7 _ => ?_)
          refine V.aload_n (pc := 252) C dX12_goesMatch_252 0 rfl ?_
          refine V.getr (pc := 253) C fl_RX12_45 sM0 kM0 rfl rM0_22 dX12_goesMatch_253 ?_
          refine V.iload_n (pc := 256) C dX12_goesMatch_256 1 rfl ?_
          refine V.iconst (pc := 257) C dX12_goesMatch_257 (v := (-1)) (by decide) ?_
          refine V.iast (pc := 258) C sM10 kM10 dX12_goesMatch_258 (fun _ => ?_)
          refine V.ltm (fun m_8 => ?_)
          refine V.aload_n (pc := 259) C dX12_goesMatch_259 0 rfl ?_
          refine V.getr (pc := 260) C fl_RX12_45 sM0 kM0 rfl rM0_22 dX12_goesMatch_260 ?_
          refine V.iload (pc := 263) C dX12_goesMatch_263 5 rfl ?_
          refine V.iconst (pc := 265) C dX12_goesMatch_265 (v := (-1)) (by decide) ?_
          refine V.iast (pc := 266) C sM10 kM10 dX12_goesMatch_266 (fun _ => ?_)
          refine V.ltm (fun m_9 => ?_)
          refine V.iinc (pc := 267) C dX12_goesMatch_267 (v := 1) (L2 := [(5, .int (y5 + 1)), (0, .ref 0), (1, .int y1), (2, .int y2), (3, .int y3), (4, .int y4)]) 5 rfl (by decide) (by decide) rfl ?_
          refine V.goto (pc := 270) C dX12_goesMatch_270 170 (by decide) ?_
          refine V.wk [1, 2, 3, 4, 5, 0] rfl ?_
          exact ih y1 y2 y3 y4 (y5 + 1) m_9
        · refine V.goto (pc := 207) C dX12_goesMatch_207 267 (by decide) ?_
          refine V.iinc (pc := 267) C dX12_goesMatch_267 (v := 1) (L2 := [(5, .int (y5 + 1)), (0, .ref 0), (1, .int y1), (2, .int y2), (3, .int y3), (4, .int y4)]) 5 rfl (by decide) (by decide) rfl ?_
          refine V.goto (pc := 270) C dX12_goesMatch_270 170 (by decide) ?_
          refine V.wk [1, 2, 3, 4, 5, 0] rfl ?_
          exact ih y1 y2 y3 y4 (y5 + 1) m
set_option maxRecDepth 100000 in
set_option maxHeartbeats 4000000 in
theorem v_X12_goesMatch_b115 {l : Launch} {p : Program} {e : Env} {s : State} {mt : MethodId} {args : Array Value} {below : List Frame} {meth : Method} {c : Code} {A : Nat → Prop} {ad0 : Nat → Nat} {G : Gt}  {fr fr1 : Nat} (hfr : fr1 + 1 ≤ fr ∧ 3 ≤ fr) (C : Cx G p s mt args meth c RX12 cX12_goesMatch 7 none "goesMatch" A) (f_X12_goesMatch : Int32 → Int32 → Int32 → Int32 → Mem → Option (Unit × Mem)) (h_X12_goesMatch : ∀ (x1 : Int32) (x2 : Int32) (x3 : Int32) (x4 : Int32) (m : Mem), Ct l yX12_goesMatch cX12_goesMatch 7 none fr1 SM oV 17 17 RM RM [.ref 0, .int x1, .int x2, .int x3, .int x4] m (f_X12_goesMatch x1 x2 x3 x4 m)) : ∀ (n : Nat) (y6 : Int32) (m : Mem), V G SM oV l p e s mt args below meth c 7 fr A ad0 17 17 RM 17 RM 115 [(0, .ref 0), (6, .int y6)] [] m (X12_goesMatch_b115 f_X12_goesMatch n y6 m) := by
  intro n
  induction n with
  | zero =>
    intro y6 m
    rw [X12_goesMatch_b115]
    exact V.nil
  | succ n ih =>
    intro y6 m
    rw [X12_goesMatch_b115]
    refine V.iload (pc := 115) C dX12_goesMatch_115 1 rfl ?_
    refine V.bipush (pc := 117) C dX12_goesMatch_117 (v := 8) (by decide) ?_
    refine V.icmp_ge (pc := 119) C dX12_goesMatch_119 142 (by decide) (fun _ => ?_) (fun _ => ?_)
    · exact V.vret C dX12_goesMatch_142
    · refine V.aload_n (pc := 122) C dX12_goesMatch_122 0 rfl ?_
      refine V.getr (pc := 123) C fl_RX12_48 sM0 kM0 rfl rM0_23 dX12_goesMatch_123 ?_
      refine V.iload (pc := 126) C dX12_goesMatch_126 1 rfl ?_
      refine V.aload_n (pc := 128) C dX12_goesMatch_128 0 rfl ?_
      refine V.getr (pc := 129) C fl_RX12_45 sM0 kM0 rfl rM0_22 dX12_goesMatch_129 ?_
      refine V.iload (pc := 132) C dX12_goesMatch_132 1 rfl ?_
      refine V.iald (pc := 134) C sM10 kM10 dX12_goesMatch_134 (fun _ => ?_)
      refine V.iast (pc := 135) C sM11 kM11 dX12_goesMatch_135 (fun _ => ?_)
      refine V.ltm (fun m_15 => ?_)
      refine V.iinc (pc := 136) C dX12_goesMatch_136 (v := 1) (L2 := [(6, .int (y6 + 1)), (0, .ref 0)]) 1 rfl (by decide) (by decide) rfl ?_
      refine V.goto (pc := 139) C dX12_goesMatch_139 115 (by decide) ?_
      refine V.wk [1, 0] rfl ?_
      exact ih (y6 + 1) m_15
set_option maxRecDepth 100000 in
set_option maxHeartbeats 4000000 in
theorem v_X12_goesMatch_b94 {l : Launch} {p : Program} {e : Env} {s : State} {mt : MethodId} {args : Array Value} {below : List Frame} {meth : Method} {c : Code} {A : Nat → Prop} {ad0 : Nat → Nat} {G : Gt}  {fr fr1 : Nat} (hfr : fr1 + 1 ≤ fr ∧ 3 ≤ fr) (C : Cx G p s mt args meth c RX12 cX12_goesMatch 7 none "goesMatch" A) (f_X12_goesMatch : Int32 → Int32 → Int32 → Int32 → Mem → Option (Unit × Mem)) (h_X12_goesMatch : ∀ (x1 : Int32) (x2 : Int32) (x3 : Int32) (x4 : Int32) (m : Mem), Ct l yX12_goesMatch cX12_goesMatch 7 none fr1 SM oV 17 17 RM RM [.ref 0, .int x1, .int x2, .int x3, .int x4] m (f_X12_goesMatch x1 x2 x3 x4 m)) (y2 : Int32) (y3 : Int32) (z0 : Int32) (m : Mem) : V G SM oV l p e s mt args below meth c 7 fr A ad0 17 17 RM 17 RM 94 [(0, .ref 0), (2, .int y2), (3, .int y3)] [.int z0] m (X12_goesMatch_b94 f_X12_goesMatch y2 y3 z0 m) := by
  rw [X12_goesMatch_b94]
  refine V.istore (pc := 94) C dX12_goesMatch_94 (L2 := [(5, .int z0), (0, .ref 0), (2, .int y2), (3, .int y3)]) (by decide) rfl ?_
  refine V.iload (pc := 96) C dX12_goesMatch_96 0 rfl ?_
  refine V.if_ne (pc := 98) C dX12_goesMatch_98 102 (by decide) (fun _ => ?_) (fun _ => ?_)
  · refine V.aload_n (pc := 102) C dX12_goesMatch_102 1 rfl ?_
    refine V.iload_n (pc := 103) C dX12_goesMatch_103 2 rfl ?_
    refine V.puti (pc := 104) C fp_RX12_327 sM0 kM0 rfl dX12_goesMatch_104 ?_
    refine V.ltm (fun m_13 => ?_)
    refine V.aload_n (pc := 107) C dX12_goesMatch_107 1 rfl ?_
    refine V.iload_n (pc := 108) C dX12_goesMatch_108 3 rfl ?_
    refine V.puti (pc := 109) C fp_RX12_341 sM0 kM0 rfl dX12_goesMatch_109 ?_
    refine V.ltm (fun m_14 => ?_)
    refine V.iconst (pc := 112) C dX12_goesMatch_112 (v := 0) (by decide) ?_
    refine V.istore (pc := 113) C dX12_goesMatch_113 (L2 := [(6, .int 0), (5, .int z0), (0, .ref 0), (2, .int y2), (3, .int y3)]) (by decide) rfl ?_
    refine V.wk [2, 0] rfl ?_
    exact v_X12_goesMatch_b115 hfr C f_X12_goesMatch h_X12_goesMatch FU 0 m_14
  · exact V.vret C dX12_goesMatch_101
set_option maxRecDepth 100000 in
set_option maxHeartbeats 4000000 in
theorem v_X12_goesMatch_b26 {l : Launch} {p : Program} {e : Env} {s : State} {mt : MethodId} {args : Array Value} {below : List Frame} {meth : Method} {c : Code} {A : Nat → Prop} {ad0 : Nat → Nat} {G : Gt}  {fr fr1 : Nat} (hfr : fr1 + 1 ≤ fr ∧ 3 ≤ fr) (C : Cx G p s mt args meth c RX12 cX12_goesMatch 7 none "goesMatch" A) (f_X12_goesMatch : Int32 → Int32 → Int32 → Int32 → Mem → Option (Unit × Mem)) (h_X12_goesMatch : ∀ (x1 : Int32) (x2 : Int32) (x3 : Int32) (x4 : Int32) (m : Mem), Ct l yX12_goesMatch cX12_goesMatch 7 none fr1 SM oV 17 17 RM RM [.ref 0, .int x1, .int x2, .int x3, .int x4] m (f_X12_goesMatch x1 x2 x3 x4 m)) (y2 : Int32) (y3 : Int32) (z0 : Int32) (z1 : Int32) (m : Mem) : V G SM oV l p e s mt args below meth c 7 fr A ad0 17 17 RM 17 RM 26 [(0, .ref 0), (2, .int y2), (3, .int y3)] [.int z0, .int z1, .ref 0] m (X12_goesMatch_b26 f_X12_goesMatch y2 y3 z0 z1 m) := by
  rw [X12_goesMatch_b26]
  refine V.iadd (pc := 26) C dX12_goesMatch_26 ?_
  refine V.puti (pc := 27) C fp_RX12_330 sM0 kM0 rfl dX12_goesMatch_27 ?_
  refine V.ltm (fun m_12 => ?_)
  refine V.aload_n (pc := 30) C dX12_goesMatch_30 0 rfl ?_
  refine V.geti (pc := 31) C fl_RX12_323 sM0 kM0 rfl dX12_goesMatch_31 ?_
  refine V.if_eq (pc := 34) C dX12_goesMatch_34 65 (by decide) (fun _ => ?_) (fun _ => ?_)
  · refine V.iload_n (pc := 65) C dX12_goesMatch_65 1 rfl ?_
    refine V.aload_n (pc := 66) C dX12_goesMatch_66 0 rfl ?_
    refine V.geti (pc := 67) C fl_RX12_327 sM0 kM0 rfl dX12_goesMatch_67 ?_
    refine V.icmp_gt (pc := 70) C dX12_goesMatch_70 89 (by decide) (fun _ => ?_) (fun _ => ?_)
    · refine V.iconst (pc := 89) C dX12_goesMatch_89 (v := 1) (by decide) ?_
      refine V.goto (pc := 90) C dX12_goesMatch_90 94 (by decide) ?_
      refine V.wk [0, 1, 2] rfl ?_
      exact v_X12_goesMatch_b94 hfr C f_X12_goesMatch h_X12_goesMatch y2 y3 1 m_12
    · refine V.iload_n (pc := 73) C dX12_goesMatch_73 1 rfl ?_
      refine V.aload_n (pc := 74) C dX12_goesMatch_74 0 rfl ?_
      refine V.geti (pc := 75) C fl_RX12_327 sM0 kM0 rfl dX12_goesMatch_75 ?_
      refine V.icmp_ne (pc := 78) C dX12_goesMatch_78 93 (by decide) (fun _ => ?_) (fun _ => ?_)
      · refine V.iconst (pc := 93) C dX12_goesMatch_93 (v := 0) (by decide) ?_
        refine V.wk [0, 1, 2] rfl ?_
        exact v_X12_goesMatch_b94 hfr C f_X12_goesMatch h_X12_goesMatch y2 y3 0 m_12
      · refine V.iload_n (pc := 81) C dX12_goesMatch_81 2 rfl ?_
        refine V.aload_n (pc := 82) C dX12_goesMatch_82 0 rfl ?_
        refine V.geti (pc := 83) C fl_RX12_341 sM0 kM0 rfl dX12_goesMatch_83 ?_
        refine V.icmp_le (pc := 86) C dX12_goesMatch_86 93 (by decide) (fun _ => ?_) (fun _ => ?_)
        · refine V.iconst (pc := 93) C dX12_goesMatch_93 (v := 0) (by decide) ?_
          refine V.wk [0, 1, 2] rfl ?_
          exact v_X12_goesMatch_b94 hfr C f_X12_goesMatch h_X12_goesMatch y2 y3 0 m_12
        · refine V.iconst (pc := 89) C dX12_goesMatch_89 (v := 1) (by decide) ?_
          refine V.goto (pc := 90) C dX12_goesMatch_90 94 (by decide) ?_
          refine V.wk [0, 1, 2] rfl ?_
          exact v_X12_goesMatch_b94 hfr C f_X12_goesMatch h_X12_goesMatch y2 y3 1 m_12
  · refine V.aload_n (pc := 37) C dX12_goesMatch_37 0 rfl ?_
    refine V.geti (pc := 38) C fl_RX12_327 sM0 kM0 rfl dX12_goesMatch_38 ?_
    refine V.iconst (pc := 41) C dX12_goesMatch_41 (v := (-1)) (by decide) ?_
    refine V.icmp_ne (pc := 42) C dX12_goesMatch_42 61 (by decide) (fun _ => ?_) (fun _ => ?_)
    · refine V.iconst (pc := 61) C dX12_goesMatch_61 (v := 0) (by decide) ?_
      refine V.goto (pc := 62) C dX12_goesMatch_62 94 (by decide) ?_
      refine V.wk [0, 1, 2] rfl ?_
      exact v_X12_goesMatch_b94 hfr C f_X12_goesMatch h_X12_goesMatch y2 y3 0 m_12
    · refine V.aload_n (pc := 45) C dX12_goesMatch_45 0 rfl ?_
      refine V.aload_n (pc := 46) C dX12_goesMatch_46 0 rfl ?_
      refine V.getr (pc := 47) C fl_RX12_45 sM0 kM0 rfl rM0_22 dX12_goesMatch_47 ?_
      refine V.callV (pc := 50) (st := []) C (c_X12_breaksOf l  m_12) obI ck_X12_breaksOf ml_RX12_337 rfl rfl sM0 kM0 rfl rfl (Nat.le_of_ble_eq_true rfl) ⟨by omega, by decide⟩ dX12_goesMatch_50 (fun r_16 m_17 _ => ?_)
      refine V.iconst (pc := 53) C dX12_goesMatch_53 (v := (-1)) (by decide) ?_
      refine V.icmp_ne (pc := 54) C dX12_goesMatch_54 61 (by decide) (fun _ => ?_) (fun _ => ?_)
      · refine V.iconst (pc := 61) C dX12_goesMatch_61 (v := 0) (by decide) ?_
        refine V.goto (pc := 62) C dX12_goesMatch_62 94 (by decide) ?_
        refine V.wk [0, 1, 2] rfl ?_
        exact v_X12_goesMatch_b94 hfr C f_X12_goesMatch h_X12_goesMatch y2 y3 0 m_17
      · refine V.iconst (pc := 57) C dX12_goesMatch_57 (v := 1) (by decide) ?_
        refine V.goto (pc := 58) C dX12_goesMatch_58 94 (by decide) ?_
        refine V.wk [0, 1, 2] rfl ?_
        exact v_X12_goesMatch_b94 hfr C f_X12_goesMatch h_X12_goesMatch y2 y3 1 m_17
set_option maxRecDepth 100000 in
set_option maxHeartbeats 4000000 in
theorem v_X12_goesMatch {l : Launch} {p : Program} {e : Env} {s : State} {mt : MethodId} {args : Array Value} {below : List Frame} {meth : Method} {c : Code} {A : Nat → Prop} {ad0 : Nat → Nat} {G : Gt}  {fr fr1 : Nat} (hfr : fr1 + 1 ≤ fr ∧ 3 ≤ fr) (C : Cx G p s mt args meth c RX12 cX12_goesMatch 7 none "goesMatch" A) (f_X12_goesMatch : Int32 → Int32 → Int32 → Int32 → Mem → Option (Unit × Mem)) (h_X12_goesMatch : ∀ (x1 : Int32) (x2 : Int32) (x3 : Int32) (x4 : Int32) (m : Mem), Ct l yX12_goesMatch cX12_goesMatch 7 none fr1 SM oV 17 17 RM RM [.ref 0, .int x1, .int x2, .int x3, .int x4] m (f_X12_goesMatch x1 x2 x3 x4 m)) (x1 : Int32) (x2 : Int32) (x3 : Int32) (x4 : Int32) (m : Mem) : V G SM oV l p e s mt args below meth c 7 fr A ad0 17 17 RM 17 RM 0 [(0, .ref 0), (1, .int x1), (2, .int x2), (3, .int x3), (4, .int x4)] [] m (X12_goesMatch f_X12_goesMatch x1 x2 x3 x4 m) := by
  rw [X12_goesMatch]
  refine V.iload_n (pc := 0) C dX12_goesMatch_0 1 rfl ?_
  refine V.aload_n (pc := 1) C dX12_goesMatch_1 0 rfl ?_
  refine V.getr (pc := 2) C fl_RX12_13 sM0 kM0 rfl rM0_1 dX12_goesMatch_2 ?_
  refine V.iconst (pc := 5) C dX12_goesMatch_5 (v := 2) (by decide) ?_
  refine V.iald (pc := 6) C sM1 kM1 dX12_goesMatch_6 (fun _ => ?_)
  refine V.icmp_ne (pc := 7) C dX12_goesMatch_7 143 (by decide) (fun _ => ?_) (fun _ => ?_)
  · refine V.aload_n (pc := 143) C dX12_goesMatch_143 0 rfl ?_
    refine V.getr (pc := 144) C fl_RX12_45 sM0 kM0 rfl rM0_22 dX12_goesMatch_144 ?_
    refine V.iload_n (pc := 147) C dX12_goesMatch_147 1 rfl ?_
    refine V.iald (pc := 148) C sM10 kM10 dX12_goesMatch_148 (fun _ => ?_)
    refine V.iconst (pc := 149) C dX12_goesMatch_149 (v := (-1)) (by decide) ?_
    refine V.icmp_eq (pc := 150) C dX12_goesMatch_150 165 (by decide) (fun _ => ?_) (fun _ => ?_)
    · refine V.iload_n (pc := 165) C dX12_goesMatch_165 1 rfl ?_
      refine V.iconst (pc := 166) C dX12_goesMatch_166 (v := 1) (by decide) ?_
      refine V.iadd (pc := 167) C dX12_goesMatch_167 ?_
      refine V.lti (fun x_1 _ => ?_)
      refine V.istore (pc := 168) C dX12_goesMatch_168 (L2 := [(5, .int x_1), (0, .ref 0), (1, .int x1), (2, .int x2), (3, .int x3), (4, .int x4)]) (by decide) rfl ?_
      refine V.wk [1, 2, 3, 4, 5, 0] rfl ?_
      exact v_X12_goesMatch_b170 hfr C f_X12_goesMatch h_X12_goesMatch FU x1 x2 x3 x4 x_1 m
    · refine V.aload_n (pc := 153) C dX12_goesMatch_153 0 rfl ?_
      refine V.iload_n (pc := 154) C dX12_goesMatch_154 1 rfl ?_
      refine V.iconst (pc := 155) C dX12_goesMatch_155 (v := 1) (by decide) ?_
      refine V.iadd (pc := 156) C dX12_goesMatch_156 ?_
      refine V.iload_n (pc := 157) C dX12_goesMatch_157 2 rfl ?_
      refine V.iload_n (pc := 158) C dX12_goesMatch_158 3 rfl ?_
      refine V.iload (pc := 159) C dX12_goesMatch_159 4 rfl ?_
      refine V.callV (pc := 161) (st := []) C (h_X12_goesMatch (x1 + 1) x2 x3 x4 m) obV ck_X12_goesMatch ml_RX12_333 rfl rfl sM0 kM0 rfl rfl (Nat.le_of_ble_eq_true rfl) ⟨by omega, by decide⟩ dX12_goesMatch_161 (fun r_10 m_11 _ => ?_)
      exact V.vret C dX12_goesMatch_164
  · refine V.aload_n (pc := 10) C dX12_goesMatch_10 0 rfl ?_
    refine V.dup (pc := 11) C dX12_goesMatch_11 rfl ?_
    refine V.geti (pc := 12) C fl_RX12_330 sM0 kM0 rfl dX12_goesMatch_12 ?_
    refine V.iload_n (pc := 15) C dX12_goesMatch_15 2 rfl ?_
    refine V.iload (pc := 16) C dX12_goesMatch_16 4 rfl ?_
    refine V.icmp_ne (pc := 18) C dX12_goesMatch_18 25 (by decide) (fun _ => ?_) (fun _ => ?_)
    · refine V.iconst (pc := 25) C dX12_goesMatch_25 (v := 0) (by decide) ?_
      refine V.wk [0, 2, 3] rfl ?_
      exact v_X12_goesMatch_b26 hfr C f_X12_goesMatch h_X12_goesMatch x2 x3 0 (gi m 0 27) m
    · refine V.iconst (pc := 21) C dX12_goesMatch_21 (v := 1) (by decide) ?_
      refine V.goto (pc := 22) C dX12_goesMatch_22 26 (by decide) ?_
      refine V.wk [0, 2, 3] rfl ?_
      exact v_X12_goesMatch_b26 hfr C f_X12_goesMatch h_X12_goesMatch x2 x3 1 (gi m 0 27) m
theorem c_X12_goesMatch (l : Launch)  {fr fr1 : Nat} (hfr : fr1 + 1 ≤ fr ∧ 3 ≤ fr) (f_X12_goesMatch : Int32 → Int32 → Int32 → Int32 → Mem → Option (Unit × Mem)) (h_X12_goesMatch : ∀ (x1 : Int32) (x2 : Int32) (x3 : Int32) (x4 : Int32) (m : Mem), Ct l yX12_goesMatch cX12_goesMatch 7 none fr1 SM oV 17 17 RM RM [.ref 0, .int x1, .int x2, .int x3, .int x4] m (f_X12_goesMatch x1 x2 x3 x4 m)) (x1 : Int32) (x2 : Int32) (x3 : Int32) (x4 : Int32) (m : Mem) : Ct l yX12_goesMatch cX12_goesMatch 7 none fr SM oV 17 17 RM RM [.ref 0, .int x1, .int x2, .int x3, .int x4] m (X12_goesMatch f_X12_goesMatch x1 x2 x3 x4 m) :=
  Ct.of (own := RX12) (nm := "goesMatch") (by decide) rfl rfl (Nat.le_of_ble_eq_true rfl) (fun _ _ _ _ _ _ _ _ _ _ _ C => v_X12_goesMatch hfr C f_X12_goesMatch h_X12_goesMatch x1 x2 x3 x4 m)
theorem cg_X12_goesMatch (l : Launch)  : ∀ d : Nat, (∀ (x1 : Int32) (x2 : Int32) (x3 : Int32) (x4 : Int32) (m : Mem), Ct l yX12_goesMatch cX12_goesMatch 7 none (d + 3) SM oV 17 17 RM RM [.ref 0, .int x1, .int x2, .int x3, .int x4] m (g_X12_goesMatch d x1 x2 x3 x4 m))
  | 0 => fun _ _ _ _ _ => ct_none
  | d + 1 => by
    have ih := cg_X12_goesMatch l d
    exact fun x1 x2 x3 x4 m => c_X12_goesMatch l (fr := d + 1 + 3) (fr1 := d + 3) ⟨by omega, by omega⟩ _ (ih) x1 x2 x3 x4 m
theorem c_X12_goesMatch_top (l : Launch)  (x1 : Int32) (x2 : Int32) (x3 : Int32) (x4 : Int32) (m : Mem) : Ct l yX12_goesMatch cX12_goesMatch 7 none 67 SM oV 17 17 RM RM [.ref 0, .int x1, .int x2, .int x3, .int x4] m (X12_goesMatch_top x1 x2 x3 x4 m) := (cg_X12_goesMatch l 64) x1 x2 x3 x4 m
theorem dX12_begins_0 : decode cX12_begins 0 = .ok (.iconst 0, 1) := by decide +kernel
theorem dX12_begins_1 : decode cX12_begins 1 = .ok (.istore_n 3, 1) := by decide +kernel
theorem dX12_begins_2 : decode cX12_begins 2 = .ok (.iload_n 3, 1) := by decide +kernel
theorem dX12_begins_3 : decode cX12_begins 3 = .ok (.bipush 8, 2) := by decide +kernel
theorem dX12_begins_5 : decode cX12_begins 5 = .ok (.if_icmp .ge 16, 3) := by decide +kernel
theorem dX12_begins_8 : decode cX12_begins 8 = .ok (.aload_n 0, 1) := by decide +kernel
theorem dX12_begins_9 : decode cX12_begins 9 = .ok (.getfield 45, 3) := by decide +kernel
theorem dX12_begins_12 : decode cX12_begins 12 = .ok (.iload_n 3, 1) := by decide +kernel
theorem dX12_begins_13 : decode cX12_begins 13 = .ok (.iconst (-1), 1) := by decide +kernel
theorem dX12_begins_14 : decode cX12_begins 14 = .ok (.iastore, 1) := by decide +kernel
theorem dX12_begins_15 : decode cX12_begins 15 = .ok (.iinc 3 1, 3) := by decide +kernel
theorem dX12_begins_18 : decode cX12_begins 18 = .ok (.goto (-16), 3) := by decide +kernel
theorem dX12_begins_21 : decode cX12_begins 21 = .ok (.aload_n 0, 1) := by decide +kernel
theorem dX12_begins_22 : decode cX12_begins 22 = .ok (.iload_n 1, 1) := by decide +kernel
theorem dX12_begins_23 : decode cX12_begins 23 = .ok (.putfield 323, 3) := by decide +kernel
theorem dX12_begins_26 : decode cX12_begins 26 = .ok (.aload_n 0, 1) := by decide +kernel
theorem dX12_begins_27 : decode cX12_begins 27 = .ok (.iconst (-1), 1) := by decide +kernel
theorem dX12_begins_28 : decode cX12_begins 28 = .ok (.putfield 327, 3) := by decide +kernel
theorem dX12_begins_31 : decode cX12_begins 31 = .ok (.aload_n 0, 1) := by decide +kernel
theorem dX12_begins_32 : decode cX12_begins 32 = .ok (.iconst 0, 1) := by decide +kernel
theorem dX12_begins_33 : decode cX12_begins 33 = .ok (.putfield 330, 3) := by decide +kernel
theorem dX12_begins_36 : decode cX12_begins 36 = .ok (.aload_n 0, 1) := by decide +kernel
theorem dX12_begins_37 : decode cX12_begins 37 = .ok (.iconst 0, 1) := by decide +kernel
theorem dX12_begins_38 : decode cX12_begins 38 = .ok (.iconst 0, 1) := by decide +kernel
theorem dX12_begins_39 : decode cX12_begins 39 = .ok (.iconst 0, 1) := by decide +kernel
theorem dX12_begins_40 : decode cX12_begins 40 = .ok (.iload_n 2, 1) := by decide +kernel
theorem dX12_begins_41 : decode cX12_begins 41 = .ok (.invokevirtual 333, 3) := by decide +kernel
theorem dX12_begins_44 : decode cX12_begins 44 = .ok (.return_, 1) := by decide +kernel
set_option maxRecDepth 100000 in
set_option maxHeartbeats 4000000 in
theorem v_X12_begins_b2 {l : Launch} {p : Program} {e : Env} {s : State} {mt : MethodId} {args : Array Value} {below : List Frame} {meth : Method} {c : Code} {A : Nat → Prop} {ad0 : Nat → Nat} {G : Gt}  (C : Cx G p s mt args meth c RX12 cX12_begins 4 none "begins" A)  : ∀ (n : Nat) (y1 : Int32) (y2 : Int32) (y3 : Int32) (m : Mem), V G SM oV l p e s mt args below meth c 4 68 A ad0 17 17 RM 17 RM 2 [(0, .ref 0), (1, .int y1), (2, .int y2), (3, .int y3)] [] m (X12_begins_b2  n y1 y2 y3 m) := by
  intro n
  induction n with
  | zero =>
    intro y1 y2 y3 m
    rw [X12_begins_b2]
    exact V.nil
  | succ n ih =>
    intro y1 y2 y3 m
    rw [X12_begins_b2]
    refine V.iload_n (pc := 2) C dX12_begins_2 3 rfl ?_
    refine V.bipush (pc := 3) C dX12_begins_3 (v := 8) (by decide) ?_
    refine V.icmp_ge (pc := 5) C dX12_begins_5 21 (by decide) (fun _ => ?_) (fun _ => ?_)
    · refine V.aload_n (pc := 21) C dX12_begins_21 0 rfl ?_
      refine V.iload_n (pc := 22) C dX12_begins_22 1 rfl ?_
      refine V.ck (fun h_1 => ?_)
      refine V.putz (pc := 23) C fp_RX12_323 sM0 kM0 rfl (of_decide_eq_true h_1) dX12_begins_23 ?_
      refine V.ltm (fun m_2 => ?_)
      refine V.aload_n (pc := 26) C dX12_begins_26 0 rfl ?_
      refine V.iconst (pc := 27) C dX12_begins_27 (v := (-1)) (by decide) ?_
      refine V.puti (pc := 28) C fp_RX12_327 sM0 kM0 rfl dX12_begins_28 ?_
      refine V.ltm (fun m_3 => ?_)
      refine V.aload_n (pc := 31) C dX12_begins_31 0 rfl ?_
      refine V.iconst (pc := 32) C dX12_begins_32 (v := 0) (by decide) ?_
      refine V.puti (pc := 33) C fp_RX12_330 sM0 kM0 rfl dX12_begins_33 ?_
      refine V.ltm (fun m_4 => ?_)
      refine V.aload_n (pc := 36) C dX12_begins_36 0 rfl ?_
      refine V.iconst (pc := 37) C dX12_begins_37 (v := 0) (by decide) ?_
      refine V.iconst (pc := 38) C dX12_begins_38 (v := 0) (by decide) ?_
      refine V.iconst (pc := 39) C dX12_begins_39 (v := 0) (by decide) ?_
      refine V.iload_n (pc := 40) C dX12_begins_40 2 rfl ?_
      refine V.callV (pc := 41) (st := []) C (c_X12_goesMatch_top l 0 0 0 y2 m_4) obV ck_X12_goesMatch ml_RX12_333 rfl rfl sM0 kM0 rfl rfl (Nat.le_of_ble_eq_true rfl) ⟨by decide, by decide⟩ dX12_begins_41 (fun r_5 m_6 _ => ?_)
      exact V.vret C dX12_begins_44
    · refine V.aload_n (pc := 8) C dX12_begins_8 0 rfl ?_
      refine V.getr (pc := 9) C fl_RX12_45 sM0 kM0 rfl rM0_22 dX12_begins_9 ?_
      refine V.iload_n (pc := 12) C dX12_begins_12 3 rfl ?_
      refine V.iconst (pc := 13) C dX12_begins_13 (v := (-1)) (by decide) ?_
      refine V.iast (pc := 14) C sM10 kM10 dX12_begins_14 (fun _ => ?_)
      refine V.ltm (fun m_7 => ?_)
      refine V.iinc (pc := 15) C dX12_begins_15 (v := 1) (L2 := [(3, .int (y3 + 1)), (0, .ref 0), (1, .int y1), (2, .int y2)]) 3 rfl (by decide) (by decide) rfl ?_
      refine V.goto (pc := 18) C dX12_begins_18 2 (by decide) ?_
      refine V.wk [1, 2, 3, 0] rfl ?_
      exact ih y1 y2 (y3 + 1) m_7
set_option maxRecDepth 100000 in
set_option maxHeartbeats 4000000 in
theorem v_X12_begins {l : Launch} {p : Program} {e : Env} {s : State} {mt : MethodId} {args : Array Value} {below : List Frame} {meth : Method} {c : Code} {A : Nat → Prop} {ad0 : Nat → Nat} {G : Gt}  (C : Cx G p s mt args meth c RX12 cX12_begins 4 none "begins" A)  (x1 : Int32) (x2 : Int32) (m : Mem) : V G SM oV l p e s mt args below meth c 4 68 A ad0 17 17 RM 17 RM 0 [(0, .ref 0), (1, .int x1), (2, .int x2)] [] m (X12_begins  x1 x2 m) := by
  rw [X12_begins]
  refine V.iconst (pc := 0) C dX12_begins_0 (v := 0) (by decide) ?_
  refine V.istore_n (pc := 1) C dX12_begins_1 (L2 := [(3, .int 0), (0, .ref 0), (1, .int x1), (2, .int x2)]) (by decide) rfl ?_
  refine V.wk [1, 2, 3, 0] rfl ?_
  exact v_X12_begins_b2 C  FU x1 x2 0 m
theorem c_X12_begins (l : Launch)   (x1 : Int32) (x2 : Int32) (m : Mem) : Ct l yX12_begins cX12_begins 4 none 68 SM oV 17 17 RM RM [.ref 0, .int x1, .int x2] m (X12_begins  x1 x2 m) :=
  Ct.of (own := RX12) (nm := "begins") (by decide) rfl rfl (Nat.le_of_ble_eq_true rfl) (fun _ _ _ _ _ _ _ _ _ _ _ C => v_X12_begins C  x1 x2 m)
theorem dX12_between_0 : decode cX12_between 0 = .ok (.iload_n 0, 1) := by decide +kernel
theorem dX12_between_1 : decode cX12_between 1 = .ok (.sipush 3002, 3) := by decide +kernel
theorem dX12_between_4 : decode cX12_between 4 = .ok (.if_icmp .gt 70, 3) := by decide +kernel
theorem dX12_between_7 : decode cX12_between 7 = .ok (.iload_n 0, 1) := by decide +kernel
theorem dX12_between_8 : decode cX12_between 8 = .ok (.sipush 3000, 3) := by decide +kernel
theorem dX12_between_11 : decode cX12_between 11 = .ok (.if_icmp .ne 11, 3) := by decide +kernel
theorem dX12_between_14 : decode cX12_between 14 = .ok (.iload_n 1, 1) := by decide +kernel
theorem dX12_between_15 : decode cX12_between 15 = .ok (.i2l, 1) := by decide +kernel
theorem dX12_between_16 : decode cX12_between 16 = .ok (.iload_n 2, 1) := by decide +kernel
theorem dX12_between_17 : decode cX12_between 17 = .ok (.i2l, 1) := by decide +kernel
theorem dX12_between_18 : decode cX12_between 18 = .ok (.ladd, 1) := by decide +kernel
theorem dX12_between_19 : decode cX12_between 19 = .ok (.goto 23, 3) := by decide +kernel
theorem dX12_between_22 : decode cX12_between 22 = .ok (.iload_n 0, 1) := by decide +kernel
theorem dX12_between_23 : decode cX12_between 23 = .ok (.sipush 3001, 3) := by decide +kernel
theorem dX12_between_26 : decode cX12_between 26 = .ok (.if_icmp .ne 11, 3) := by decide +kernel
theorem dX12_between_29 : decode cX12_between 29 = .ok (.iload_n 1, 1) := by decide +kernel
theorem dX12_between_30 : decode cX12_between 30 = .ok (.i2l, 1) := by decide +kernel
theorem dX12_between_31 : decode cX12_between 31 = .ok (.iload_n 2, 1) := by decide +kernel
theorem dX12_between_32 : decode cX12_between 32 = .ok (.i2l, 1) := by decide +kernel
theorem dX12_between_33 : decode cX12_between 33 = .ok (.lsub, 1) := by decide +kernel
theorem dX12_between_34 : decode cX12_between 34 = .ok (.goto 8, 3) := by decide +kernel
theorem dX12_between_37 : decode cX12_between 37 = .ok (.iload_n 1, 1) := by decide +kernel
theorem dX12_between_38 : decode cX12_between 38 = .ok (.i2l, 1) := by decide +kernel
theorem dX12_between_39 : decode cX12_between 39 = .ok (.iload_n 2, 1) := by decide +kernel
theorem dX12_between_40 : decode cX12_between 40 = .ok (.i2l, 1) := by decide +kernel
theorem dX12_between_41 : decode cX12_between 41 = .ok (.lmul, 1) := by decide +kernel
theorem dX12_between_42 : decode cX12_between 42 = .ok (.lstore_n 3, 1) := by decide +kernel
theorem dX12_between_43 : decode cX12_between 43 = .ok (.lload_n 3, 1) := by decide +kernel
theorem dX12_between_44 : decode cX12_between 44 = .ok (.ldc2_w 219, 3) := by decide +kernel
theorem dX12_between_47 : decode cX12_between 47 = .ok (.lcmp, 1) := by decide +kernel
theorem dX12_between_48 : decode cX12_between 48 = .ok (.ifCond .le 9, 3) := by decide +kernel
theorem dX12_between_51 : decode cX12_between 51 = .ok (.ldc2_w 219, 3) := by decide +kernel
theorem dX12_between_54 : decode cX12_between 54 = .ok (.goto 18, 3) := by decide +kernel
theorem dX12_between_57 : decode cX12_between 57 = .ok (.lload_n 3, 1) := by decide +kernel
theorem dX12_between_58 : decode cX12_between 58 = .ok (.ldc2_w 221, 3) := by decide +kernel
theorem dX12_between_61 : decode cX12_between 61 = .ok (.lcmp, 1) := by decide +kernel
theorem dX12_between_62 : decode cX12_between 62 = .ok (.ifCond .ge 9, 3) := by decide +kernel
theorem dX12_between_65 : decode cX12_between 65 = .ok (.ldc2_w 221, 3) := by decide +kernel
theorem dX12_between_68 : decode cX12_between 68 = .ok (.goto 4, 3) := by decide +kernel
theorem dX12_between_71 : decode cX12_between 71 = .ok (.lload_n 3, 1) := by decide +kernel
theorem dX12_between_72 : decode cX12_between 72 = .ok (.l2i, 1) := by decide +kernel
theorem dX12_between_73 : decode cX12_between 73 = .ok (.ireturn, 1) := by decide +kernel
theorem dX12_between_74 : decode cX12_between 74 = .ok (.iload_n 0, 1) := by decide +kernel
theorem dX12_between_75 : decode cX12_between 75 = .ok (.sipush 3003, 3) := by decide +kernel
theorem dX12_between_78 : decode cX12_between 78 = .ok (.if_icmp .ne 16, 3) := by decide +kernel
theorem dX12_between_81 : decode cX12_between 81 = .ok (.iload_n 1, 1) := by decide +kernel
theorem dX12_between_82 : decode cX12_between 82 = .ok (.iload_n 2, 1) := by decide +kernel
theorem dX12_between_83 : decode cX12_between 83 = .ok (.if_icmp .ne 7, 3) := by decide +kernel
theorem dX12_between_86 : decode cX12_between 86 = .ok (.iconst 1, 1) := by decide +kernel
theorem dX12_between_87 : decode cX12_between 87 = .ok (.goto 80, 3) := by decide +kernel
theorem dX12_between_90 : decode cX12_between 90 = .ok (.iconst 0, 1) := by decide +kernel
theorem dX12_between_91 : decode cX12_between 91 = .ok (.goto 76, 3) := by decide +kernel
theorem dX12_between_94 : decode cX12_between 94 = .ok (.iload_n 0, 1) := by decide +kernel
theorem dX12_between_95 : decode cX12_between 95 = .ok (.sipush 3004, 3) := by decide +kernel
theorem dX12_between_98 : decode cX12_between 98 = .ok (.if_icmp .ne 16, 3) := by decide +kernel
theorem dX12_between_101 : decode cX12_between 101 = .ok (.iload_n 1, 1) := by decide +kernel
theorem dX12_between_102 : decode cX12_between 102 = .ok (.iload_n 2, 1) := by decide +kernel
theorem dX12_between_103 : decode cX12_between 103 = .ok (.if_icmp .ge 7, 3) := by decide +kernel
theorem dX12_between_106 : decode cX12_between 106 = .ok (.iconst 1, 1) := by decide +kernel
theorem dX12_between_107 : decode cX12_between 107 = .ok (.goto 60, 3) := by decide +kernel
theorem dX12_between_110 : decode cX12_between 110 = .ok (.iconst 0, 1) := by decide +kernel
theorem dX12_between_111 : decode cX12_between 111 = .ok (.goto 56, 3) := by decide +kernel
theorem dX12_between_114 : decode cX12_between 114 = .ok (.iload_n 0, 1) := by decide +kernel
theorem dX12_between_115 : decode cX12_between 115 = .ok (.sipush 3005, 3) := by decide +kernel
theorem dX12_between_118 : decode cX12_between 118 = .ok (.if_icmp .ne 16, 3) := by decide +kernel
theorem dX12_between_121 : decode cX12_between 121 = .ok (.iload_n 1, 1) := by decide +kernel
theorem dX12_between_122 : decode cX12_between 122 = .ok (.iload_n 2, 1) := by decide +kernel
theorem dX12_between_123 : decode cX12_between 123 = .ok (.if_icmp .le 7, 3) := by decide +kernel
theorem dX12_between_126 : decode cX12_between 126 = .ok (.iconst 1, 1) := by decide +kernel
theorem dX12_between_127 : decode cX12_between 127 = .ok (.goto 40, 3) := by decide +kernel
theorem dX12_between_130 : decode cX12_between 130 = .ok (.iconst 0, 1) := by decide +kernel
theorem dX12_between_131 : decode cX12_between 131 = .ok (.goto 36, 3) := by decide +kernel
theorem dX12_between_134 : decode cX12_between 134 = .ok (.iload_n 0, 1) := by decide +kernel
theorem dX12_between_135 : decode cX12_between 135 = .ok (.sipush 3006, 3) := by decide +kernel
theorem dX12_between_138 : decode cX12_between 138 = .ok (.if_icmp .ne 18, 3) := by decide +kernel
theorem dX12_between_141 : decode cX12_between 141 = .ok (.iload_n 1, 1) := by decide +kernel
theorem dX12_between_142 : decode cX12_between 142 = .ok (.iload_n 2, 1) := by decide +kernel
theorem dX12_between_143 : decode cX12_between 143 = .ok (.iadd, 1) := by decide +kernel
theorem dX12_between_144 : decode cX12_between 144 = .ok (.iconst 2, 1) := by decide +kernel
theorem dX12_between_145 : decode cX12_between 145 = .ok (.if_icmp .ne 7, 3) := by decide +kernel
theorem dX12_between_148 : decode cX12_between 148 = .ok (.iconst 1, 1) := by decide +kernel
theorem dX12_between_149 : decode cX12_between 149 = .ok (.goto 18, 3) := by decide +kernel
theorem dX12_between_152 : decode cX12_between 152 = .ok (.iconst 0, 1) := by decide +kernel
theorem dX12_between_153 : decode cX12_between 153 = .ok (.goto 14, 3) := by decide +kernel
theorem dX12_between_156 : decode cX12_between 156 = .ok (.iload_n 1, 1) := by decide +kernel
theorem dX12_between_157 : decode cX12_between 157 = .ok (.iload_n 2, 1) := by decide +kernel
theorem dX12_between_158 : decode cX12_between 158 = .ok (.iadd, 1) := by decide +kernel
theorem dX12_between_159 : decode cX12_between 159 = .ok (.ifCond .le 7, 3) := by decide +kernel
theorem dX12_between_162 : decode cX12_between 162 = .ok (.iconst 1, 1) := by decide +kernel
theorem dX12_between_163 : decode cX12_between 163 = .ok (.goto 4, 3) := by decide +kernel
theorem dX12_between_166 : decode cX12_between 166 = .ok (.iconst 0, 1) := by decide +kernel
theorem dX12_between_167 : decode cX12_between 167 = .ok (.istore_n 3, 1) := by decide +kernel
theorem dX12_between_168 : decode cX12_between 168 = .ok (.iload_n 3, 1) := by decide +kernel
theorem dX12_between_169 : decode cX12_between 169 = .ok (.ifCond .eq 7, 3) := by decide +kernel
theorem dX12_between_172 : decode cX12_between 172 = .ok (.iconst 1, 1) := by decide +kernel
theorem dX12_between_173 : decode cX12_between 173 = .ok (.goto 4, 3) := by decide +kernel
theorem dX12_between_176 : decode cX12_between 176 = .ok (.iconst 0, 1) := by decide +kernel
theorem dX12_between_177 : decode cX12_between 177 = .ok (.ireturn, 1) := by decide +kernel
set_option maxRecDepth 100000 in
set_option maxHeartbeats 4000000 in
theorem v_X12_between_b167 {l : Launch} {p : Program} {e : Env} {s : State} {mt : MethodId} {args : Array Value} {below : List Frame} {meth : Method} {c : Code} {A : Nat → Prop} {ad0 : Nat → Nat} {G : Gt}  (C : Cx G p s mt args meth c RX12 cX12_between 5 (some .int) "between" A)  (z0 : Int32) (m : Mem) : V G SM oI l p e s mt args below meth c 5 1 A ad0 17 17 RM 17 RM 167 [] [.int z0] m (X12_between_b167  z0 m) := by
  rw [X12_between_b167]
  refine V.istore_n (pc := 167) C dX12_between_167 (L2 := [(3, .int z0)]) (by decide) rfl ?_
  refine V.iload_n (pc := 168) C dX12_between_168 0 rfl ?_
  refine V.if_eq (pc := 169) C dX12_between_169 176 (by decide) (fun _ => ?_) (fun _ => ?_)
  · refine V.iconst (pc := 176) C dX12_between_176 (v := 0) (by decide) ?_
    exact V.iret C dX12_between_177
  · refine V.iconst (pc := 172) C dX12_between_172 (v := 1) (by decide) ?_
    refine V.goto (pc := 173) C dX12_between_173 177 (by decide) ?_
    exact V.iret C dX12_between_177
set_option maxRecDepth 100000 in
set_option maxHeartbeats 4000000 in
theorem v_X12_between_b42 {l : Launch} {p : Program} {e : Env} {s : State} {mt : MethodId} {args : Array Value} {below : List Frame} {meth : Method} {c : Code} {A : Nat → Prop} {ad0 : Nat → Nat} {G : Gt}  (C : Cx G p s mt args meth c RX12 cX12_between 5 (some .int) "between" A)  (z0 : Int64) (m : Mem) : V G SM oI l p e s mt args below meth c 5 1 A ad0 17 17 RM 17 RM 42 [] [.long z0] m (X12_between_b42  z0 m) := by
  rw [X12_between_b42]
  refine V.lstore_n (pc := 42) C dX12_between_42 (L2 := [(3, .long z0)]) (by decide) rfl ?_
  refine V.lload_n (pc := 43) C dX12_between_43 0 rfl ?_
  refine V.ldc2 (pc := 44) C dX12_between_44 (v := 1000000) cl_RX12_219 ?_
  refine V.lcmp (pc := 47) C dX12_between_47 ?_
  refine V.if_le (pc := 48) C dX12_between_48 57 (by decide) (fun _ => ?_) (fun _ => ?_)
  · refine V.lload_n (pc := 57) C dX12_between_57 0 rfl ?_
    refine V.ldc2 (pc := 58) C dX12_between_58 (v := (-1000000)) cl_RX12_221 ?_
    refine V.lcmp (pc := 61) C dX12_between_61 ?_
    refine V.if_ge (pc := 62) C dX12_between_62 71 (by decide) (fun _ => ?_) (fun _ => ?_)
    · refine V.lload_n (pc := 71) C dX12_between_71 0 rfl ?_
      refine V.l2i (pc := 72) C dX12_between_72 ?_
      exact V.iret C dX12_between_73
    · refine V.ldc2 (pc := 65) C dX12_between_65 (v := (-1000000)) cl_RX12_221 ?_
      refine V.goto (pc := 68) C dX12_between_68 72 (by decide) ?_
      refine V.l2i (pc := 72) C dX12_between_72 ?_
      exact V.iret C dX12_between_73
  · refine V.ldc2 (pc := 51) C dX12_between_51 (v := 1000000) cl_RX12_219 ?_
    refine V.goto (pc := 54) C dX12_between_54 72 (by decide) ?_
    refine V.l2i (pc := 72) C dX12_between_72 ?_
    exact V.iret C dX12_between_73
set_option maxRecDepth 100000 in
set_option maxHeartbeats 4000000 in
theorem v_X12_between {l : Launch} {p : Program} {e : Env} {s : State} {mt : MethodId} {args : Array Value} {below : List Frame} {meth : Method} {c : Code} {A : Nat → Prop} {ad0 : Nat → Nat} {G : Gt}  (C : Cx G p s mt args meth c RX12 cX12_between 5 (some .int) "between" A)  (x1 : Int32) (x2 : Int32) (x3 : Int32) (m : Mem) : V G SM oI l p e s mt args below meth c 5 1 A ad0 17 17 RM 17 RM 0 [(0, .int x1), (1, .int x2), (2, .int x3)] [] m (X12_between  x1 x2 x3 m) := by
  rw [X12_between]
  refine V.iload_n (pc := 0) C dX12_between_0 0 rfl ?_
  refine V.sipush (pc := 1) C dX12_between_1 (v := 3002) (by decide) ?_
  refine V.icmp_gt (pc := 4) C dX12_between_4 74 (by decide) (fun _ => ?_) (fun _ => ?_)
  · refine V.iload_n (pc := 74) C dX12_between_74 0 rfl ?_
    refine V.sipush (pc := 75) C dX12_between_75 (v := 3003) (by decide) ?_
    refine V.icmp_ne (pc := 78) C dX12_between_78 94 (by decide) (fun _ => ?_) (fun _ => ?_)
    · refine V.iload_n (pc := 94) C dX12_between_94 0 rfl ?_
      refine V.sipush (pc := 95) C dX12_between_95 (v := 3004) (by decide) ?_
      refine V.icmp_ne (pc := 98) C dX12_between_98 114 (by decide) (fun _ => ?_) (fun _ => ?_)
      · refine V.iload_n (pc := 114) C dX12_between_114 0 rfl ?_
        refine V.sipush (pc := 115) C dX12_between_115 (v := 3005) (by decide) ?_
        refine V.icmp_ne (pc := 118) C dX12_between_118 134 (by decide) (fun _ => ?_) (fun _ => ?_)
        · refine V.iload_n (pc := 134) C dX12_between_134 0 rfl ?_
          refine V.sipush (pc := 135) C dX12_between_135 (v := 3006) (by decide) ?_
          refine V.icmp_ne (pc := 138) C dX12_between_138 156 (by decide) (fun _ => ?_) (fun _ => ?_)
          · refine V.iload_n (pc := 156) C dX12_between_156 1 rfl ?_
            refine V.iload_n (pc := 157) C dX12_between_157 2 rfl ?_
            refine V.iadd (pc := 158) C dX12_between_158 ?_
            refine V.if_le (pc := 159) C dX12_between_159 166 (by decide) (fun _ => ?_) (fun _ => ?_)
            · refine V.iconst (pc := 166) C dX12_between_166 (v := 0) (by decide) ?_
              refine V.wk [] rfl ?_
              exact v_X12_between_b167 C  0 m
            · refine V.iconst (pc := 162) C dX12_between_162 (v := 1) (by decide) ?_
              refine V.goto (pc := 163) C dX12_between_163 167 (by decide) ?_
              refine V.wk [] rfl ?_
              exact v_X12_between_b167 C  1 m
          · refine V.iload_n (pc := 141) C dX12_between_141 1 rfl ?_
            refine V.iload_n (pc := 142) C dX12_between_142 2 rfl ?_
            refine V.iadd (pc := 143) C dX12_between_143 ?_
            refine V.iconst (pc := 144) C dX12_between_144 (v := 2) (by decide) ?_
            refine V.icmp_ne (pc := 145) C dX12_between_145 152 (by decide) (fun _ => ?_) (fun _ => ?_)
            · refine V.iconst (pc := 152) C dX12_between_152 (v := 0) (by decide) ?_
              refine V.goto (pc := 153) C dX12_between_153 167 (by decide) ?_
              refine V.wk [] rfl ?_
              exact v_X12_between_b167 C  0 m
            · refine V.iconst (pc := 148) C dX12_between_148 (v := 1) (by decide) ?_
              refine V.goto (pc := 149) C dX12_between_149 167 (by decide) ?_
              refine V.wk [] rfl ?_
              exact v_X12_between_b167 C  1 m
        · refine V.iload_n (pc := 121) C dX12_between_121 1 rfl ?_
          refine V.iload_n (pc := 122) C dX12_between_122 2 rfl ?_
          refine V.icmp_le (pc := 123) C dX12_between_123 130 (by decide) (fun _ => ?_) (fun _ => ?_)
          · refine V.iconst (pc := 130) C dX12_between_130 (v := 0) (by decide) ?_
            refine V.goto (pc := 131) C dX12_between_131 167 (by decide) ?_
            refine V.wk [] rfl ?_
            exact v_X12_between_b167 C  0 m
          · refine V.iconst (pc := 126) C dX12_between_126 (v := 1) (by decide) ?_
            refine V.goto (pc := 127) C dX12_between_127 167 (by decide) ?_
            refine V.wk [] rfl ?_
            exact v_X12_between_b167 C  1 m
      · refine V.iload_n (pc := 101) C dX12_between_101 1 rfl ?_
        refine V.iload_n (pc := 102) C dX12_between_102 2 rfl ?_
        refine V.icmp_ge (pc := 103) C dX12_between_103 110 (by decide) (fun _ => ?_) (fun _ => ?_)
        · refine V.iconst (pc := 110) C dX12_between_110 (v := 0) (by decide) ?_
          refine V.goto (pc := 111) C dX12_between_111 167 (by decide) ?_
          refine V.wk [] rfl ?_
          exact v_X12_between_b167 C  0 m
        · refine V.iconst (pc := 106) C dX12_between_106 (v := 1) (by decide) ?_
          refine V.goto (pc := 107) C dX12_between_107 167 (by decide) ?_
          refine V.wk [] rfl ?_
          exact v_X12_between_b167 C  1 m
    · refine V.iload_n (pc := 81) C dX12_between_81 1 rfl ?_
      refine V.iload_n (pc := 82) C dX12_between_82 2 rfl ?_
      refine V.icmp_ne (pc := 83) C dX12_between_83 90 (by decide) (fun _ => ?_) (fun _ => ?_)
      · refine V.iconst (pc := 90) C dX12_between_90 (v := 0) (by decide) ?_
        refine V.goto (pc := 91) C dX12_between_91 167 (by decide) ?_
        refine V.wk [] rfl ?_
        exact v_X12_between_b167 C  0 m
      · refine V.iconst (pc := 86) C dX12_between_86 (v := 1) (by decide) ?_
        refine V.goto (pc := 87) C dX12_between_87 167 (by decide) ?_
        refine V.wk [] rfl ?_
        exact v_X12_between_b167 C  1 m
  · refine V.iload_n (pc := 7) C dX12_between_7 0 rfl ?_
    refine V.sipush (pc := 8) C dX12_between_8 (v := 3000) (by decide) ?_
    refine V.icmp_ne (pc := 11) C dX12_between_11 22 (by decide) (fun _ => ?_) (fun _ => ?_)
    · refine V.iload_n (pc := 22) C dX12_between_22 0 rfl ?_
      refine V.sipush (pc := 23) C dX12_between_23 (v := 3001) (by decide) ?_
      refine V.icmp_ne (pc := 26) C dX12_between_26 37 (by decide) (fun _ => ?_) (fun _ => ?_)
      · refine V.iload_n (pc := 37) C dX12_between_37 1 rfl ?_
        refine V.i2l (pc := 38) C dX12_between_38 ?_
        refine V.iload_n (pc := 39) C dX12_between_39 2 rfl ?_
        refine V.i2l (pc := 40) C dX12_between_40 ?_
        refine V.lmul (pc := 41) C dX12_between_41 ?_
        refine V.wk [] rfl ?_
        exact v_X12_between_b42 C  ((Int32.toInt64 x2) * (Int32.toInt64 x3)) m
      · refine V.iload_n (pc := 29) C dX12_between_29 1 rfl ?_
        refine V.i2l (pc := 30) C dX12_between_30 ?_
        refine V.iload_n (pc := 31) C dX12_between_31 2 rfl ?_
        refine V.i2l (pc := 32) C dX12_between_32 ?_
        refine V.lsub (pc := 33) C dX12_between_33 ?_
        refine V.goto (pc := 34) C dX12_between_34 42 (by decide) ?_
        refine V.wk [] rfl ?_
        exact v_X12_between_b42 C  ((Int32.toInt64 x2) - (Int32.toInt64 x3)) m
    · refine V.iload_n (pc := 14) C dX12_between_14 1 rfl ?_
      refine V.i2l (pc := 15) C dX12_between_15 ?_
      refine V.iload_n (pc := 16) C dX12_between_16 2 rfl ?_
      refine V.i2l (pc := 17) C dX12_between_17 ?_
      refine V.ladd (pc := 18) C dX12_between_18 ?_
      refine V.goto (pc := 19) C dX12_between_19 42 (by decide) ?_
      refine V.wk [] rfl ?_
      exact v_X12_between_b42 C  ((Int32.toInt64 x2) + (Int32.toInt64 x3)) m
theorem c_X12_between (l : Launch)   (x1 : Int32) (x2 : Int32) (x3 : Int32) (m : Mem) : Ct l yX12_between cX12_between 5 (some .int) 1 SM oI 17 17 RM RM [.int x1, .int x2, .int x3] m (X12_between  x1 x2 x3 m) :=
  Ct.of (own := RX12) (nm := "between") (by decide) rfl rfl (Nat.le_of_ble_eq_true rfl) (fun _ _ _ _ _ _ _ _ _ _ _ C => v_X12_between C  x1 x2 x3 m)
