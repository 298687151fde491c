theorem dX12_notes_0 : decode cX12_notes 0 = .ok (.aload_n 0, 1) := by decide +kernel
theorem dX12_notes_1 : decode cX12_notes 1 = .ok (.getfield 13, 3) := by decide +kernel
theorem dX12_notes_4 : decode cX12_notes 4 = .ok (.sipush 162, 3) := by decide +kernel
theorem dX12_notes_7 : decode cX12_notes 7 = .ok (.iaload, 1) := by decide +kernel
theorem dX12_notes_8 : decode cX12_notes 8 = .ok (.bipush 8, 2) := by decide +kernel
theorem dX12_notes_10 : decode cX12_notes 10 = .ok (.if_icmp .ne 50, 3) := by decide +kernel
theorem dX12_notes_13 : decode cX12_notes 13 = .ok (.iconst 0, 1) := by decide +kernel
theorem dX12_notes_14 : decode cX12_notes 14 = .ok (.istore_n 1, 1) := by decide +kernel
theorem dX12_notes_15 : decode cX12_notes 15 = .ok (.iload_n 1, 1) := by decide +kernel
theorem dX12_notes_16 : decode cX12_notes 16 = .ok (.sipush 903, 3) := by decide +kernel
theorem dX12_notes_19 : decode cX12_notes 19 = .ok (.if_icmp .ge 29, 3) := by decide +kernel
theorem dX12_notes_22 : decode cX12_notes 22 = .ok (.aload_n 0, 1) := by decide +kernel
theorem dX12_notes_23 : decode cX12_notes 23 = .ok (.getfield 13, 3) := by decide +kernel
theorem dX12_notes_26 : decode cX12_notes 26 = .ok (.sipush 163, 3) := by decide +kernel
theorem dX12_notes_29 : decode cX12_notes 29 = .ok (.iload_n 1, 1) := by decide +kernel
theorem dX12_notes_30 : decode cX12_notes 30 = .ok (.iadd, 1) := by decide +kernel
theorem dX12_notes_31 : decode cX12_notes 31 = .ok (.aload_n 0, 1) := by decide +kernel
theorem dX12_notes_32 : decode cX12_notes 32 = .ok (.getfield 13, 3) := by decide +kernel
theorem dX12_notes_35 : decode cX12_notes 35 = .ok (.sipush 292, 3) := by decide +kernel
theorem dX12_notes_38 : decode cX12_notes 38 = .ok (.iload_n 1, 1) := by decide +kernel
theorem dX12_notes_39 : decode cX12_notes 39 = .ok (.iadd, 1) := by decide +kernel
theorem dX12_notes_40 : decode cX12_notes 40 = .ok (.iaload, 1) := by decide +kernel
theorem dX12_notes_41 : decode cX12_notes 41 = .ok (.iastore, 1) := by decide +kernel
theorem dX12_notes_42 : decode cX12_notes 42 = .ok (.iinc 1 1, 3) := by decide +kernel
theorem dX12_notes_45 : decode cX12_notes 45 = .ok (.goto (-30), 3) := by decide +kernel
theorem dX12_notes_48 : decode cX12_notes 48 = .ok (.aload_n 0, 1) := by decide +kernel
theorem dX12_notes_49 : decode cX12_notes 49 = .ok (.getfield 13, 3) := by decide +kernel
theorem dX12_notes_52 : decode cX12_notes 52 = .ok (.sipush 162, 3) := by decide +kernel
theorem dX12_notes_55 : decode cX12_notes 55 = .ok (.dup2, 1) := by decide +kernel
theorem dX12_notes_56 : decode cX12_notes 56 = .ok (.iaload, 1) := by decide +kernel
theorem dX12_notes_57 : decode cX12_notes 57 = .ok (.iconst 1, 1) := by decide +kernel
theorem dX12_notes_58 : decode cX12_notes 58 = .ok (.isub, 1) := by decide +kernel
theorem dX12_notes_59 : decode cX12_notes 59 = .ok (.iastore, 1) := by decide +kernel
theorem dX12_notes_60 : decode cX12_notes 60 = .ok (.iconst 0, 1) := by decide +kernel
theorem dX12_notes_61 : decode cX12_notes 61 = .ok (.istore_n 1, 1) := by decide +kernel
theorem dX12_notes_62 : decode cX12_notes 62 = .ok (.iload_n 1, 1) := by decide +kernel
theorem dX12_notes_63 : decode cX12_notes 63 = .ok (.sipush 129, 3) := by decide +kernel
theorem dX12_notes_66 : decode cX12_notes 66 = .ok (.if_icmp .ge 38, 3) := by decide +kernel
theorem dX12_notes_69 : decode cX12_notes 69 = .ok (.aload_n 0, 1) := by decide +kernel
theorem dX12_notes_70 : decode cX12_notes 70 = .ok (.getfield 13, 3) := by decide +kernel
theorem dX12_notes_73 : decode cX12_notes 73 = .ok (.sipush 163, 3) := by decide +kernel
theorem dX12_notes_76 : decode cX12_notes 76 = .ok (.sipush 129, 3) := by decide +kernel
theorem dX12_notes_79 : decode cX12_notes 79 = .ok (.aload_n 0, 1) := by decide +kernel
theorem dX12_notes_80 : decode cX12_notes 80 = .ok (.getfield 13, 3) := by decide +kernel
theorem dX12_notes_83 : decode cX12_notes 83 = .ok (.sipush 162, 3) := by decide +kernel
theorem dX12_notes_86 : decode cX12_notes 86 = .ok (.iaload, 1) := by decide +kernel
theorem dX12_notes_87 : decode cX12_notes 87 = .ok (.imul, 1) := by decide +kernel
theorem dX12_notes_88 : decode cX12_notes 88 = .ok (.iadd, 1) := by decide +kernel
theorem dX12_notes_89 : decode cX12_notes 89 = .ok (.iload_n 1, 1) := by decide +kernel
theorem dX12_notes_90 : decode cX12_notes 90 = .ok (.iadd, 1) := by decide +kernel
theorem dX12_notes_91 : decode cX12_notes 91 = .ok (.aload_n 0, 1) := by decide +kernel
theorem dX12_notes_92 : decode cX12_notes 92 = .ok (.getfield 36, 3) := by decide +kernel
theorem dX12_notes_95 : decode cX12_notes 95 = .ok (.iload_n 1, 1) := by decide +kernel
theorem dX12_notes_96 : decode cX12_notes 96 = .ok (.iaload, 1) := by decide +kernel
theorem dX12_notes_97 : decode cX12_notes 97 = .ok (.iastore, 1) := by decide +kernel
theorem dX12_notes_98 : decode cX12_notes 98 = .ok (.iinc 1 1, 3) := by decide +kernel
theorem dX12_notes_101 : decode cX12_notes 101 = .ok (.goto (-39), 3) := by decide +kernel
theorem dX12_notes_104 : decode cX12_notes 104 = .ok (.aload_n 0, 1) := by decide +kernel
theorem dX12_notes_105 : decode cX12_notes 105 = .ok (.getfield 13, 3) := by decide +kernel
theorem dX12_notes_108 : decode cX12_notes 108 = .ok (.sipush 162, 3) := by decide +kernel
theorem dX12_notes_111 : decode cX12_notes 111 = .ok (.dup2, 1) := by decide +kernel
theorem dX12_notes_112 : decode cX12_notes 112 = .ok (.iaload, 1) := by decide +kernel
theorem dX12_notes_113 : decode cX12_notes 113 = .ok (.iconst 1, 1) := by decide +kernel
theorem dX12_notes_114 : decode cX12_notes 114 = .ok (.iadd, 1) := by decide +kernel
theorem dX12_notes_115 : decode cX12_notes 115 = .ok (.iastore, 1) := by decide +kernel
theorem dX12_notes_116 : decode cX12_notes 116 = .ok (.return_, 1) := by decide +kernel
set_option maxRecDepth 100000 in
set_option maxHeartbeats 4000000 in
theorem v_X12_notes_b62 {l : Launch} {p : Program} {e : Env} {s : State} {mt : MethodId} {args : Array Value} {below : List Frame} {meth : Method} {c : Code} {A : Nat → Prop} {ad0 : Nat → Nat} {G : Gt}  (C : Cx G p s mt args meth c RX12 cX12_notes 2 none "notes" A)  : ∀ (n : Nat) (y1 : Int32) (m : Mem), V G SM oV l p e s mt args below meth c 2 1 A ad0 17 17 RM 17 RM 62 [(0, .ref 0), (1, .int y1)] [] m (X12_notes_b62  n y1 m) := by
  intro n
  induction n with
  | zero =>
    intro y1 m
    rw [X12_notes_b62]
    exact V.nil
  | succ n ih =>
    intro y1 m
    rw [X12_notes_b62]
    refine V.iload_n (pc := 62) C dX12_notes_62 1 rfl ?_
    refine V.sipush (pc := 63) C dX12_notes_63 (v := 129) (by decide) ?_
    refine V.icmp_ge (pc := 66) C dX12_notes_66 104 (by decide) (fun _ => ?_) (fun _ => ?_)
    · refine V.aload_n (pc := 104) C dX12_notes_104 0 rfl ?_
      refine V.getr (pc := 105) C fl_RX12_13 sM0 kM0 rfl rM0_1 dX12_notes_105 ?_
      refine V.sipush (pc := 108) C dX12_notes_108 (v := 162) (by decide) ?_
      refine V.dup2 (pc := 111) C dX12_notes_111 rfl rfl ?_
      refine V.iald (pc := 112) C sM1 kM1 dX12_notes_112 (fun _ => ?_)
      refine V.iconst (pc := 113) C dX12_notes_113 (v := 1) (by decide) ?_
      refine V.iadd (pc := 114) C dX12_notes_114 ?_
      refine V.iast (pc := 115) C sM1 kM1 dX12_notes_115 (fun _ => ?_)
      refine V.ltm (fun m_1 => ?_)
      exact V.vret C dX12_notes_116
    · refine V.aload_n (pc := 69) C dX12_notes_69 0 rfl ?_
      refine V.getr (pc := 70) C fl_RX12_13 sM0 kM0 rfl rM0_1 dX12_notes_70 ?_
      refine V.sipush (pc := 73) C dX12_notes_73 (v := 163) (by decide) ?_
      refine V.sipush (pc := 76) C dX12_notes_76 (v := 129) (by decide) ?_
      refine V.aload_n (pc := 79) C dX12_notes_79 0 rfl ?_
      refine V.getr (pc := 80) C fl_RX12_13 sM0 kM0 rfl rM0_1 dX12_notes_80 ?_
      refine V.sipush (pc := 83) C dX12_notes_83 (v := 162) (by decide) ?_
      refine V.iald (pc := 86) C sM1 kM1 dX12_notes_86 (fun _ => ?_)
      refine V.imul (pc := 87) C dX12_notes_87 ?_
      refine V.iadd (pc := 88) C dX12_notes_88 ?_
      refine V.iload_n (pc := 89) C dX12_notes_89 1 rfl ?_
      refine V.iadd (pc := 90) C dX12_notes_90 ?_
      refine V.aload_n (pc := 91) C dX12_notes_91 0 rfl ?_
      refine V.getr (pc := 92) C fl_RX12_36 sM0 kM0 rfl rM0_17 dX12_notes_92 ?_
      refine V.iload_n (pc := 95) C dX12_notes_95 1 rfl ?_
      refine V.iald (pc := 96) C sM7 kM7 dX12_notes_96 (fun _ => ?_)
      refine V.iast (pc := 97) C sM1 kM1 dX12_notes_97 (fun _ => ?_)
      refine V.ltm (fun m_2 => ?_)
      refine V.iinc (pc := 98) C dX12_notes_98 (v := 1) (L2 := [(1, .int (y1 + 1)), (0, .ref 0)]) 1 rfl (by decide) (by decide) rfl ?_
      refine V.goto (pc := 101) C dX12_notes_101 62 (by decide) ?_
      refine V.wk [1, 0] rfl ?_
      exact ih (y1 + 1) m_2
set_option maxRecDepth 100000 in
set_option maxHeartbeats 4000000 in
theorem v_X12_notes_b15 {l : Launch} {p : Program} {e : Env} {s : State} {mt : MethodId} {args : Array Value} {below : List Frame} {meth : Method} {c : Code} {A : Nat → Prop} {ad0 : Nat → Nat} {G : Gt}  (C : Cx G p s mt args meth c RX12 cX12_notes 2 none "notes" A)  : ∀ (n : Nat) (y1 : Int32) (m : Mem), V G SM oV l p e s mt args below meth c 2 1 A ad0 17 17 RM 17 RM 15 [(0, .ref 0), (1, .int y1)] [] m (X12_notes_b15  n y1 m) := by
  intro n
  induction n with
  | zero =>
    intro y1 m
    rw [X12_notes_b15]
    exact V.nil
  | succ n ih =>
    intro y1 m
    rw [X12_notes_b15]
    refine V.iload_n (pc := 15) C dX12_notes_15 1 rfl ?_
    refine V.sipush (pc := 16) C dX12_notes_16 (v := 903) (by decide) ?_
    refine V.icmp_ge (pc := 19) C dX12_notes_19 48 (by decide) (fun _ => ?_) (fun _ => ?_)
    · refine V.aload_n (pc := 48) C dX12_notes_48 0 rfl ?_
      refine V.getr (pc := 49) C fl_RX12_13 sM0 kM0 rfl rM0_1 dX12_notes_49 ?_
      refine V.sipush (pc := 52) C dX12_notes_52 (v := 162) (by decide) ?_
      refine V.dup2 (pc := 55) C dX12_notes_55 rfl rfl ?_
      refine V.iald (pc := 56) C sM1 kM1 dX12_notes_56 (fun _ => ?_)
      refine V.iconst (pc := 57) C dX12_notes_57 (v := 1) (by decide) ?_
      refine V.isub (pc := 58) C dX12_notes_58 ?_
      refine V.iast (pc := 59) C sM1 kM1 dX12_notes_59 (fun _ => ?_)
      refine V.ltm (fun m_3 => ?_)
      refine V.iconst (pc := 60) C dX12_notes_60 (v := 0) (by decide) ?_
      refine V.istore_n (pc := 61) C dX12_notes_61 (L2 := [(1, .int 0), (0, .ref 0)]) (by decide) rfl ?_
      refine V.wk [1, 0] rfl ?_
      exact v_X12_notes_b62 C  FU 0 m_3
    · refine V.aload_n (pc := 22) C dX12_notes_22 0 rfl ?_
      refine V.getr (pc := 23) C fl_RX12_13 sM0 kM0 rfl rM0_1 dX12_notes_23 ?_
      refine V.sipush (pc := 26) C dX12_notes_26 (v := 163) (by decide) ?_
      refine V.iload_n (pc := 29) C dX12_notes_29 1 rfl ?_
      refine V.iadd (pc := 30) C dX12_notes_30 ?_
      refine V.aload_n (pc := 31) C dX12_notes_31 0 rfl ?_
      refine V.getr (pc := 32) C fl_RX12_13 sM0 kM0 rfl rM0_1 dX12_notes_32 ?_
      refine V.sipush (pc := 35) C dX12_notes_35 (v := 292) (by decide) ?_
      refine V.iload_n (pc := 38) C dX12_notes_38 1 rfl ?_
      refine V.iadd (pc := 39) C dX12_notes_39 ?_
      refine V.iald (pc := 40) C sM1 kM1 dX12_notes_40 (fun _ => ?_)
      refine V.iast (pc := 41) C sM1 kM1 dX12_notes_41 (fun _ => ?_)
      refine V.ltm (fun m_4 => ?_)
      refine V.iinc (pc := 42) C dX12_notes_42 (v := 1) (L2 := [(1, .int (y1 + 1)), (0, .ref 0)]) 1 rfl (by decide) (by decide) rfl ?_
      refine V.goto (pc := 45) C dX12_notes_45 15 (by decide) ?_
      refine V.wk [1, 0] rfl ?_
      exact ih (y1 + 1) m_4
set_option maxRecDepth 100000 in
set_option maxHeartbeats 4000000 in
theorem v_X12_notes {l : Launch} {p : Program} {e : Env} {s : State} {mt : MethodId} {args : Array Value} {below : List Frame} {meth : Method} {c : Code} {A : Nat → Prop} {ad0 : Nat → Nat} {G : Gt}  (C : Cx G p s mt args meth c RX12 cX12_notes 2 none "notes" A)  (m : Mem) : V G SM oV l p e s mt args below meth c 2 1 A ad0 17 17 RM 17 RM 0 [(0, .ref 0)] [] m (X12_notes   m) := by
  rw [X12_notes]
  refine V.aload_n (pc := 0) C dX12_notes_0 0 rfl ?_
  refine V.getr (pc := 1) C fl_RX12_13 sM0 kM0 rfl rM0_1 dX12_notes_1 ?_
  refine V.sipush (pc := 4) C dX12_notes_4 (v := 162) (by decide) ?_
  refine V.iald (pc := 7) C sM1 kM1 dX12_notes_7 (fun _ => ?_)
  refine V.bipush (pc := 8) C dX12_notes_8 (v := 8) (by decide) ?_
  refine V.icmp_ne (pc := 10) C dX12_notes_10 60 (by decide) (fun _ => ?_) (fun _ => ?_)
  · refine V.iconst (pc := 60) C dX12_notes_60 (v := 0) (by decide) ?_
    refine V.istore_n (pc := 61) C dX12_notes_61 (L2 := [(1, .int 0), (0, .ref 0)]) (by decide) rfl ?_
    refine V.wk [1, 0] rfl ?_
    exact v_X12_notes_b62 C  FU 0 m
  · refine V.iconst (pc := 13) C dX12_notes_13 (v := 0) (by decide) ?_
    refine V.istore_n (pc := 14) C dX12_notes_14 (L2 := [(1, .int 0), (0, .ref 0)]) (by decide) rfl ?_
    refine V.wk [1, 0] rfl ?_
    exact v_X12_notes_b15 C  FU 0 m
theorem c_X12_notes (l : Launch)   (m : Mem) : Ct l yX12_notes cX12_notes 2 none 1 SM oV 17 17 RM RM [.ref 0] m (X12_notes   m) :=
  Ct.of (own := RX12) (nm := "notes") (by decide) rfl rfl (Nat.le_of_ble_eq_true rfl) (fun _ _ _ _ _ _ _ _ _ _ _ C => v_X12_notes C   m)
theorem dX12_copies_0 : decode cX12_copies 0 = .ok (.aload_n 0, 1) := by decide +kernel
theorem dX12_copies_1 : decode cX12_copies 1 = .ok (.iconst 0, 1) := by decide +kernel
theorem dX12_copies_2 : decode cX12_copies 2 = .ok (.putfield 1, 3) := by decide +kernel
theorem dX12_copies_5 : decode cX12_copies 5 = .ok (.aload_n 0, 1) := by decide +kernel
theorem dX12_copies_6 : decode cX12_copies 6 = .ok (.iload_n 1, 1) := by decide +kernel
theorem dX12_copies_7 : decode cX12_copies 7 = .ok (.i2l, 1) := by decide +kernel
theorem dX12_copies_8 : decode cX12_copies 8 = .ok (.iload_n 2, 1) := by decide +kernel
theorem dX12_copies_9 : decode cX12_copies 9 = .ok (.i2l, 1) := by decide +kernel
theorem dX12_copies_10 : decode cX12_copies 10 = .ok (.invokevirtual 234, 3) := by decide +kernel
theorem dX12_copies_13 : decode cX12_copies 13 = .ok (.ifCond .ne 6, 3) := by decide +kernel
theorem dX12_copies_16 : decode cX12_copies 16 = .ok (.bipush (-11), 2) := by decide +kernel
theorem dX12_copies_18 : decode cX12_copies 18 = .ok (.ireturn, 1) := by decide +kernel
theorem dX12_copies_19 : decode cX12_copies 19 = .ok (.aload_n 0, 1) := by decide +kernel
theorem dX12_copies_20 : decode cX12_copies 20 = .ok (.invokevirtual 267, 3) := by decide +kernel
theorem dX12_copies_23 : decode cX12_copies 23 = .ok (.aload_n 0, 1) := by decide +kernel
theorem dX12_copies_24 : decode cX12_copies 24 = .ok (.sipush 2000, 3) := by decide +kernel
theorem dX12_copies_27 : decode cX12_copies 27 = .ok (.bipush 100, 2) := by decide +kernel
theorem dX12_copies_29 : decode cX12_copies 29 = .ok (.iload_n 1, 1) := by decide +kernel
theorem dX12_copies_30 : decode cX12_copies 30 = .ok (.imul, 1) := by decide +kernel
theorem dX12_copies_31 : decode cX12_copies 31 = .ok (.iadd, 1) := by decide +kernel
theorem dX12_copies_32 : decode cX12_copies 32 = .ok (.iload_n 2, 1) := by decide +kernel
theorem dX12_copies_33 : decode cX12_copies 33 = .ok (.iadd, 1) := by decide +kernel
theorem dX12_copies_34 : decode cX12_copies 34 = .ok (.invokevirtual 277, 3) := by decide +kernel
theorem dX12_copies_37 : decode cX12_copies 37 = .ok (.aload_n 0, 1) := by decide +kernel
theorem dX12_copies_38 : decode cX12_copies 38 = .ok (.invokevirtual 270, 3) := by decide +kernel
theorem dX12_copies_41 : decode cX12_copies 41 = .ok (.aload_n 0, 1) := by decide +kernel
theorem dX12_copies_42 : decode cX12_copies 42 = .ok (.iload_n 1, 1) := by decide +kernel
theorem dX12_copies_43 : decode cX12_copies 43 = .ok (.invokevirtual 207, 3) := by decide +kernel
theorem dX12_copies_46 : decode cX12_copies 46 = .ok (.invokestatic 201, 3) := by decide +kernel
theorem dX12_copies_49 : decode cX12_copies 49 = .ok (.ireturn, 1) := by decide +kernel
set_option maxRecDepth 100000 in
set_option maxHeartbeats 4000000 in
theorem v_X12_copies {l : Launch} {p : Program} {e : Env} {s : State} {mt : MethodId} {args : Array Value} {below : List Frame} {meth : Method} {c : Code} {A : Nat → Prop} {ad0 : Nat → Nat} {G : Gt}  (C : Cx G p s mt args meth c RX12 cX12_copies 3 (some .int) "copies" A)  (x1 : Int32) (x2 : Int32) (m : Mem) : V G SM oI l p e s mt args below meth c 3 5 A ad0 17 17 RM 17 RM 0 [(0, .ref 0), (1, .int x1), (2, .int x2)] [] m (X12_copies  x1 x2 m) := by
  rw [X12_copies]
  refine V.aload_n (pc := 0) C dX12_copies_0 0 rfl ?_
  refine V.iconst (pc := 1) C dX12_copies_1 (v := 0) (by decide) ?_
  refine V.puti (pc := 2) C fp_RX12_1 sM0 kM0 rfl dX12_copies_2 ?_
  refine V.ltm (fun m_1 => ?_)
  refine V.aload_n (pc := 5) C dX12_copies_5 0 rfl ?_
  refine V.iload_n (pc := 6) C dX12_copies_6 1 rfl ?_
  refine V.i2l (pc := 7) C dX12_copies_7 ?_
  refine V.iload_n (pc := 8) C dX12_copies_8 2 rfl ?_
  refine V.i2l (pc := 9) C dX12_copies_9 ?_
  refine V.callV (pc := 10) (st := []) C (c_X12_areTwo l (Int32.toInt64 x1) (Int32.toInt64 x2) m_1) obI ck_X12_areTwo ml_RX12_234 rfl rfl sM0 kM0 rfl rfl (Nat.le_of_ble_eq_true rfl) ⟨by decide, by decide⟩ dX12_copies_10 (fun r_2 m_3 _ => ?_)
  refine V.if_ne (pc := 13) C dX12_copies_13 19 (by decide) (fun _ => ?_) (fun _ => ?_)
  · refine V.aload_n (pc := 19) C dX12_copies_19 0 rfl ?_
    refine V.callV (pc := 20) (st := []) C (c_X12_keeps l  m_3) obV ck_X12_keeps ml_RX12_267 rfl rfl sM0 kM0 rfl rfl (Nat.le_of_ble_eq_true rfl) ⟨by decide, by decide⟩ dX12_copies_20 (fun r_4 m_5 _ => ?_)
    refine V.aload_n (pc := 23) C dX12_copies_23 0 rfl ?_
    refine V.sipush (pc := 24) C dX12_copies_24 (v := 2000) (by decide) ?_
    refine V.bipush (pc := 27) C dX12_copies_27 (v := 100) (by decide) ?_
    refine V.iload_n (pc := 29) C dX12_copies_29 1 rfl ?_
    refine V.imul (pc := 30) C dX12_copies_30 ?_
    refine V.iadd (pc := 31) C dX12_copies_31 ?_
    refine V.iload_n (pc := 32) C dX12_copies_32 2 rfl ?_
    refine V.iadd (pc := 33) C dX12_copies_33 ?_
    refine V.callV (pc := 34) (st := []) C (c_X12_does l ((2000 + (100 * x1)) + x2) m_5) obV ck_X12_does ml_RX12_277 rfl rfl sM0 kM0 rfl rfl (Nat.le_of_ble_eq_true rfl) ⟨by decide, by decide⟩ dX12_copies_34 (fun r_6 m_7 _ => ?_)
    refine V.aload_n (pc := 37) C dX12_copies_37 0 rfl ?_
    refine V.callV (pc := 38) (st := []) C (c_X12_notes l  m_7) obV ck_X12_notes ml_RX12_270 rfl rfl sM0 kM0 rfl rfl (Nat.le_of_ble_eq_true rfl) ⟨by decide, by decide⟩ dX12_copies_38 (fun r_8 m_9 _ => ?_)
    refine V.aload_n (pc := 41) C dX12_copies_41 0 rfl ?_
    refine V.iload_n (pc := 42) C dX12_copies_42 1 rfl ?_
    refine V.callV (pc := 43) (st := []) C (c_X12_listOf l x1 m_9) obI ck_X12_listOf ml_RX12_207 rfl rfl sM0 kM0 rfl rfl (Nat.le_of_ble_eq_true rfl) ⟨by decide, by decide⟩ dX12_copies_43 (fun r_10 m_11 _ => ?_)
    refine V.callS (pc := 46) (st := []) C (c_X12_bitsOf l r_10 m_11) obI ck_X12_bitsOf ml_RX12_201 rfl rfl (Nat.le_of_ble_eq_true rfl) ⟨by decide, by decide⟩ dX12_copies_46 (fun r_12 m_13 _ => ?_)
    exact V.iret C dX12_copies_49
  · refine V.bipush (pc := 16) C dX12_copies_16 (v := (-11)) (by decide) ?_
    exact V.iret C dX12_copies_18
theorem c_X12_copies (l : Launch)   (x1 : Int32) (x2 : Int32) (m : Mem) : Ct l yX12_copies cX12_copies 3 (some .int) 5 SM oI 17 17 RM RM [.ref 0, .int x1, .int x2] m (X12_copies  x1 x2 m) :=
  Ct.of (own := RX12) (nm := "copies") (by decide) rfl rfl (Nat.le_of_ble_eq_true rfl) (fun _ _ _ _ _ _ _ _ _ _ _ C => v_X12_copies C  x1 x2 m)
theorem dX12_wedMany_0 : decode cX12_wedMany 0 = .ok (.iconst 0, 1) := by decide +kernel
theorem dX12_wedMany_1 : decode cX12_wedMany 1 = .ok (.istore_n 1, 1) := by decide +kernel
theorem dX12_wedMany_2 : decode cX12_wedMany 2 = .ok (.iconst 0, 1) := by decide +kernel
theorem dX12_wedMany_3 : decode cX12_wedMany 3 = .ok (.istore_n 2, 1) := by decide +kernel
theorem dX12_wedMany_4 : decode cX12_wedMany 4 = .ok (.iload_n 2, 1) := by decide +kernel
theorem dX12_wedMany_5 : decode cX12_wedMany 5 = .ok (.aload_n 0, 1) := by decide +kernel
theorem dX12_wedMany_6 : decode cX12_wedMany 6 = .ok (.getfield 13, 3) := by decide +kernel
theorem dX12_wedMany_9 : decode cX12_wedMany 9 = .ok (.iconst 2, 1) := by decide +kernel
theorem dX12_wedMany_10 : decode cX12_wedMany 10 = .ok (.iaload, 1) := by decide +kernel
theorem dX12_wedMany_11 : decode cX12_wedMany 11 = .ok (.if_icmp .ge 31, 3) := by decide +kernel
theorem dX12_wedMany_14 : decode cX12_wedMany 14 = .ok (.iload_n 1, 1) := by decide +kernel
theorem dX12_wedMany_15 : decode cX12_wedMany 15 = .ok (.aload_n 0, 1) := by decide +kernel
theorem dX12_wedMany_16 : decode cX12_wedMany 16 = .ok (.getfield 13, 3) := by decide +kernel
theorem dX12_wedMany_19 : decode cX12_wedMany 19 = .ok (.sipush 153, 3) := by decide +kernel
theorem dX12_wedMany_22 : decode cX12_wedMany 22 = .ok (.iload_n 2, 1) := by decide +kernel
theorem dX12_wedMany_23 : decode cX12_wedMany 23 = .ok (.iadd, 1) := by decide +kernel
theorem dX12_wedMany_24 : decode cX12_wedMany 24 = .ok (.iaload, 1) := by decide +kernel
theorem dX12_wedMany_25 : decode cX12_wedMany 25 = .ok (.iload_n 2, 1) := by decide +kernel
theorem dX12_wedMany_26 : decode cX12_wedMany 26 = .ok (.if_icmp .le 7, 3) := by decide +kernel
theorem dX12_wedMany_29 : decode cX12_wedMany 29 = .ok (.iconst 1, 1) := by decide +kernel
theorem dX12_wedMany_30 : decode cX12_wedMany 30 = .ok (.goto 4, 3) := by decide +kernel
theorem dX12_wedMany_33 : decode cX12_wedMany 33 = .ok (.iconst 0, 1) := by decide +kernel
theorem dX12_wedMany_34 : decode cX12_wedMany 34 = .ok (.iadd, 1) := by decide +kernel
theorem dX12_wedMany_35 : decode cX12_wedMany 35 = .ok (.istore_n 1, 1) := by decide +kernel
theorem dX12_wedMany_36 : decode cX12_wedMany 36 = .ok (.iinc 2 1, 3) := by decide +kernel
theorem dX12_wedMany_39 : decode cX12_wedMany 39 = .ok (.goto (-35), 3) := by decide +kernel
theorem dX12_wedMany_42 : decode cX12_wedMany 42 = .ok (.iload_n 1, 1) := by decide +kernel
theorem dX12_wedMany_43 : decode cX12_wedMany 43 = .ok (.ireturn, 1) := by decide +kernel
set_option maxRecDepth 100000 in
set_option maxHeartbeats 4000000 in
theorem v_X12_wedMany_b4 {l : Launch} {p : Program} {e : Env} {s : State} {mt : MethodId} {args : Array Value} {below : List Frame} {meth : Method} {c : Code} {A : Nat → Prop} {ad0 : Nat → Nat} {G : Gt}  (C : Cx G p s mt args meth c RX12 cX12_wedMany 3 (some .int) "wedMany" A)  : ∀ (n : Nat) (y1 : Int32) (y2 : Int32) (m : Mem), V G SM oI l p e s mt args below meth c 3 1 A ad0 17 17 RM 17 RM 4 [(0, .ref 0), (1, .int y1), (2, .int y2)] [] m (X12_wedMany_b4  n y1 y2 m) := by
  intro n
  induction n with
  | zero =>
    intro y1 y2 m
    rw [X12_wedMany_b4]
    exact V.nil
  | succ n ih =>
    intro y1 y2 m
    rw [X12_wedMany_b4]
    refine V.iload_n (pc := 4) C dX12_wedMany_4 2 rfl ?_
    refine V.aload_n (pc := 5) C dX12_wedMany_5 0 rfl ?_
    refine V.getr (pc := 6) C fl_RX12_13 sM0 kM0 rfl rM0_1 dX12_wedMany_6 ?_
    refine V.iconst (pc := 9) C dX12_wedMany_9 (v := 2) (by decide) ?_
    refine V.iald (pc := 10) C sM1 kM1 dX12_wedMany_10 (fun _ => ?_)
    refine V.icmp_ge (pc := 11) C dX12_wedMany_11 42 (by decide) (fun _ => ?_) (fun _ => ?_)
    · refine V.iload_n (pc := 42) C dX12_wedMany_42 1 rfl ?_
      exact V.iret C dX12_wedMany_43
    · refine V.iload_n (pc := 14) C dX12_wedMany_14 1 rfl ?_
      refine V.aload_n (pc := 15) C dX12_wedMany_15 0 rfl ?_
      refine V.getr (pc := 16) C fl_RX12_13 sM0 kM0 rfl rM0_1 dX12_wedMany_16 ?_
      refine V.sipush (pc := 19) C dX12_wedMany_19 (v := 153) (by decide) ?_
      refine V.iload_n (pc := 22) C dX12_wedMany_22 2 rfl ?_
      refine V.iadd (pc := 23) C dX12_wedMany_23 ?_
      refine V.iald (pc := 24) C sM1 kM1 dX12_wedMany_24 (fun _ => ?_)
      refine V.iload_n (pc := 25) C dX12_wedMany_25 2 rfl ?_
      refine V.icmp_le (pc := 26) C dX12_wedMany_26 33 (by decide) (fun _ => ?_) (fun _ => ?_)
      · refine V.iconst (pc := 33) C dX12_wedMany_33 (v := 0) (by decide) ?_
        refine V.iadd (pc := 34) C dX12_wedMany_34 ?_
        refine V.lti (fun x_1 _ => ?_)
        refine V.istore_n (pc := 35) C dX12_wedMany_35 (L2 := [(1, .int x_1), (0, .ref 0), (2, .int y2)]) (by decide) rfl ?_
        refine V.iinc (pc := 36) C dX12_wedMany_36 (v := 1) (L2 := [(2, .int (y2 + 1)), (1, .int x_1), (0, .ref 0)]) 2 rfl (by decide) (by decide) rfl ?_
        refine V.goto (pc := 39) C dX12_wedMany_39 4 (by decide) ?_
        refine V.wk [2, 1, 0] rfl ?_
        exact ih x_1 (y2 + 1) m
      · refine V.iconst (pc := 29) C dX12_wedMany_29 (v := 1) (by decide) ?_
        refine V.goto (pc := 30) C dX12_wedMany_30 34 (by decide) ?_
        refine V.iadd (pc := 34) C dX12_wedMany_34 ?_
        refine V.lti (fun x_2 _ => ?_)
        refine V.istore_n (pc := 35) C dX12_wedMany_35 (L2 := [(1, .int x_2), (0, .ref 0), (2, .int y2)]) (by decide) rfl ?_
        refine V.iinc (pc := 36) C dX12_wedMany_36 (v := 1) (L2 := [(2, .int (y2 + 1)), (1, .int x_2), (0, .ref 0)]) 2 rfl (by decide) (by decide) rfl ?_
        refine V.goto (pc := 39) C dX12_wedMany_39 4 (by decide) ?_
        refine V.wk [2, 1, 0] rfl ?_
        exact ih x_2 (y2 + 1) m
set_option maxRecDepth 100000 in
set_option maxHeartbeats 4000000 in
theorem v_X12_wedMany {l : Launch} {p : Program} {e : Env} {s : State} {mt : MethodId} {args : Array Value} {below : List Frame} {meth : Method} {c : Code} {A : Nat → Prop} {ad0 : Nat → Nat} {G : Gt}  (C : Cx G p s mt args meth c RX12 cX12_wedMany 3 (some .int) "wedMany" A)  (m : Mem) : V G SM oI l p e s mt args below meth c 3 1 A ad0 17 17 RM 17 RM 0 [(0, .ref 0)] [] m (X12_wedMany   m) := by
  rw [X12_wedMany]
  refine V.iconst (pc := 0) C dX12_wedMany_0 (v := 0) (by decide) ?_
  refine V.istore_n (pc := 1) C dX12_wedMany_1 (L2 := [(1, .int 0), (0, .ref 0)]) (by decide) rfl ?_
  refine V.iconst (pc := 2) C dX12_wedMany_2 (v := 0) (by decide) ?_
  refine V.istore_n (pc := 3) C dX12_wedMany_3 (L2 := [(2, .int 0), (1, .int 0), (0, .ref 0)]) (by decide) rfl ?_
  refine V.wk [2, 1, 0] rfl ?_
  exact v_X12_wedMany_b4 C  FU 0 0 m
theorem c_X12_wedMany (l : Launch)   (m : Mem) : Ct l yX12_wedMany cX12_wedMany 3 (some .int) 1 SM oI 17 17 RM RM [.ref 0] m (X12_wedMany   m) :=
  Ct.of (own := RX12) (nm := "wedMany") (by decide) rfl rfl (Nat.le_of_ble_eq_true rfl) (fun _ _ _ _ _ _ _ _ _ _ _ C => v_X12_wedMany C   m)
theorem dX12_listedMany_0 : decode cX12_listedMany 0 = .ok (.iconst 0, 1) := by decide +kernel
theorem dX12_listedMany_1 : decode cX12_listedMany 1 = .ok (.istore_n 1, 1) := by decide +kernel
theorem dX12_listedMany_2 : decode cX12_listedMany 2 = .ok (.iconst 0, 1) := by decide +kernel
theorem dX12_listedMany_3 : decode cX12_listedMany 3 = .ok (.istore_n 2, 1) := by decide +kernel
theorem dX12_listedMany_4 : decode cX12_listedMany 4 = .ok (.iload_n 2, 1) := by decide +kernel
theorem dX12_listedMany_5 : decode cX12_listedMany 5 = .ok (.aload_n 0, 1) := by decide +kernel
theorem dX12_listedMany_6 : decode cX12_listedMany 6 = .ok (.getfield 13, 3) := by decide +kernel
theorem dX12_listedMany_9 : decode cX12_listedMany 9 = .ok (.iconst 2, 1) := by decide +kernel
theorem dX12_listedMany_10 : decode cX12_listedMany 10 = .ok (.iaload, 1) := by decide +kernel
theorem dX12_listedMany_11 : decode cX12_listedMany 11 = .ok (.if_icmp .ge 20, 3) := by decide +kernel
theorem dX12_listedMany_14 : decode cX12_listedMany 14 = .ok (.iload_n 1, 1) := by decide +kernel
theorem dX12_listedMany_15 : decode cX12_listedMany 15 = .ok (.aload_n 0, 1) := by decide +kernel
theorem dX12_listedMany_16 : decode cX12_listedMany 16 = .ok (.iload_n 2, 1) := by decide +kernel
theorem dX12_listedMany_17 : decode cX12_listedMany 17 = .ok (.invokevirtual 207, 3) := by decide +kernel
theorem dX12_listedMany_20 : decode cX12_listedMany 20 = .ok (.invokestatic 201, 3) := by decide +kernel
theorem dX12_listedMany_23 : decode cX12_listedMany 23 = .ok (.iadd, 1) := by decide +kernel
theorem dX12_listedMany_24 : decode cX12_listedMany 24 = .ok (.istore_n 1, 1) := by decide +kernel
theorem dX12_listedMany_25 : decode cX12_listedMany 25 = .ok (.iinc 2 1, 3) := by decide +kernel
theorem dX12_listedMany_28 : decode cX12_listedMany 28 = .ok (.goto (-24), 3) := by decide +kernel
theorem dX12_listedMany_31 : decode cX12_listedMany 31 = .ok (.iload_n 1, 1) := by decide +kernel
theorem dX12_listedMany_32 : decode cX12_listedMany 32 = .ok (.ireturn, 1) := by decide +kernel
set_option maxRecDepth 100000 in
set_option maxHeartbeats 4000000 in
theorem v_X12_listedMany_b4 {l : Launch} {p : Program} {e : Env} {s : State} {mt : MethodId} {args : Array Value} {below : List Frame} {meth : Method} {c : Code} {A : Nat → Prop} {ad0 : Nat → Nat} {G : Gt}  (C : Cx G p s mt args meth c RX12 cX12_listedMany 3 (some .int) "listedMany" A)  : ∀ (n : Nat) (y1 : Int32) (y2 : Int32) (m : Mem), V G SM oI l p e s mt args below meth c 3 2 A ad0 17 17 RM 17 RM 4 [(0, .ref 0), (1, .int y1), (2, .int y2)] [] m (X12_listedMany_b4  n y1 y2 m) := by
  intro n
  induction n with
  | zero =>
    intro y1 y2 m
    rw [X12_listedMany_b4]
    exact V.nil
  | succ n ih =>
    intro y1 y2 m
    rw [X12_listedMany_b4]
    refine V.iload_n (pc := 4) C dX12_listedMany_4 2 rfl ?_
    refine V.aload_n (pc := 5) C dX12_listedMany_5 0 rfl ?_
    refine V.getr (pc := 6) C fl_RX12_13 sM0 kM0 rfl rM0_1 dX12_listedMany_6 ?_
    refine V.iconst (pc := 9) C dX12_listedMany_9 (v := 2) (by decide) ?_
    refine V.iald (pc := 10) C sM1 kM1 dX12_listedMany_10 (fun _ => ?_)
    refine V.icmp_ge (pc := 11) C dX12_listedMany_11 31 (by decide) (fun _ => ?_) (fun _ => ?_)
    · refine V.iload_n (pc := 31) C dX12_listedMany_31 1 rfl ?_
      exact V.iret C dX12_listedMany_32
    · refine V.iload_n (pc := 14) C dX12_listedMany_14 1 rfl ?_
      refine V.aload_n (pc := 15) C dX12_listedMany_15 0 rfl ?_
      refine V.iload_n (pc := 16) C dX12_listedMany_16 2 rfl ?_
      refine V.callV (pc := 17) (st := [.int y1]) C (c_X12_listOf l y2 m) obI ck_X12_listOf ml_RX12_207 rfl rfl sM0 kM0 rfl rfl (Nat.le_of_ble_eq_true rfl) ⟨by decide, by decide⟩ dX12_listedMany_17 (fun r_1 m_2 _ => ?_)
      refine V.callS (pc := 20) (st := [.int y1]) C (c_X12_bitsOf l r_1 m_2) obI ck_X12_bitsOf ml_RX12_201 rfl rfl (Nat.le_of_ble_eq_true rfl) ⟨by decide, by decide⟩ dX12_listedMany_20 (fun r_3 m_4 _ => ?_)
      refine V.iadd (pc := 23) C dX12_listedMany_23 ?_
      refine V.lti (fun x_5 _ => ?_)
      refine V.istore_n (pc := 24) C dX12_listedMany_24 (L2 := [(1, .int x_5), (0, .ref 0), (2, .int y2)]) (by decide) rfl ?_
      refine V.iinc (pc := 25) C dX12_listedMany_25 (v := 1) (L2 := [(2, .int (y2 + 1)), (1, .int x_5), (0, .ref 0)]) 2 rfl (by decide) (by decide) rfl ?_
      refine V.goto (pc := 28) C dX12_listedMany_28 4 (by decide) ?_
      refine V.wk [2, 1, 0] rfl ?_
      exact ih x_5 (y2 + 1) m_4
set_option maxRecDepth 100000 in
set_option maxHeartbeats 4000000 in
theorem v_X12_listedMany {l : Launch} {p : Program} {e : Env} {s : State} {mt : MethodId} {args : Array Value} {below : List Frame} {meth : Method} {c : Code} {A : Nat → Prop} {ad0 : Nat → Nat} {G : Gt}  (C : Cx G p s mt args meth c RX12 cX12_listedMany 3 (some .int) "listedMany" A)  (m : Mem) : V G SM oI l p e s mt args below meth c 3 2 A ad0 17 17 RM 17 RM 0 [(0, .ref 0)] [] m (X12_listedMany   m) := by
  rw [X12_listedMany]
  refine V.iconst (pc := 0) C dX12_listedMany_0 (v := 0) (by decide) ?_
  refine V.istore_n (pc := 1) C dX12_listedMany_1 (L2 := [(1, .int 0), (0, .ref 0)]) (by decide) rfl ?_
  refine V.iconst (pc := 2) C dX12_listedMany_2 (v := 0) (by decide) ?_
  refine V.istore_n (pc := 3) C dX12_listedMany_3 (L2 := [(2, .int 0), (1, .int 0), (0, .ref 0)]) (by decide) rfl ?_
  refine V.wk [2, 1, 0] rfl ?_
  exact v_X12_listedMany_b4 C  FU 0 0 m
theorem c_X12_listedMany (l : Launch)   (m : Mem) : Ct l yX12_listedMany cX12_listedMany 3 (some .int) 2 SM oI 17 17 RM RM [.ref 0] m (X12_listedMany   m) :=
  Ct.of (own := RX12) (nm := "listedMany") (by decide) rfl rfl (Nat.le_of_ble_eq_true rfl) (fun _ _ _ _ _ _ _ _ _ _ _ C => v_X12_listedMany C   m)
theorem dX12_count_0 : decode cX12_count 0 = .ok (.aload_n 0, 1) := by decide +kernel
theorem dX12_count_1 : decode cX12_count 1 = .ok (.iconst 0, 1) := by decide +kernel
theorem dX12_count_2 : decode cX12_count 2 = .ok (.putfield 1, 3) := by decide +kernel
theorem dX12_count_5 : decode cX12_count 5 = .ok (.iload_n 1, 1) := by decide +kernel
theorem dX12_count_6 : decode cX12_count 6 = .ok (.tableswitch 122 0 9 #[54, 61, 68, 77, 82, 89, 96, 105, 110, 117], 54) := by decide +kernel
theorem dX12_count_60 : decode cX12_count 60 = .ok (.aload_n 0, 1) := by decide +kernel
theorem dX12_count_61 : decode cX12_count 61 = .ok (.getfield 13, 3) := by decide +kernel
theorem dX12_count_64 : decode cX12_count 64 = .ok (.iconst 1, 1) := by decide +kernel
theorem dX12_count_65 : decode cX12_count 65 = .ok (.iaload, 1) := by decide +kernel
theorem dX12_count_66 : decode cX12_count 66 = .ok (.ireturn, 1) := by decide +kernel
theorem dX12_count_67 : decode cX12_count 67 = .ok (.aload_n 0, 1) := by decide +kernel
theorem dX12_count_68 : decode cX12_count 68 = .ok (.getfield 13, 3) := by decide +kernel
theorem dX12_count_71 : decode cX12_count 71 = .ok (.iconst 2, 1) := by decide +kernel
theorem dX12_count_72 : decode cX12_count 72 = .ok (.iaload, 1) := by decide +kernel
theorem dX12_count_73 : decode cX12_count 73 = .ok (.ireturn, 1) := by decide +kernel
theorem dX12_count_74 : decode cX12_count 74 = .ok (.aload_n 0, 1) := by decide +kernel
theorem dX12_count_75 : decode cX12_count 75 = .ok (.getfield 13, 3) := by decide +kernel
theorem dX12_count_78 : decode cX12_count 78 = .ok (.sipush 161, 3) := by decide +kernel
theorem dX12_count_81 : decode cX12_count 81 = .ok (.iaload, 1) := by decide +kernel
theorem dX12_count_82 : decode cX12_count 82 = .ok (.ireturn, 1) := by decide +kernel
theorem dX12_count_83 : decode cX12_count 83 = .ok (.aload_n 0, 1) := by decide +kernel
theorem dX12_count_84 : decode cX12_count 84 = .ok (.invokevirtual 295, 3) := by decide +kernel
theorem dX12_count_87 : decode cX12_count 87 = .ok (.ireturn, 1) := by decide +kernel
theorem dX12_count_88 : decode cX12_count 88 = .ok (.aload_n 0, 1) := by decide +kernel
theorem dX12_count_89 : decode cX12_count 89 = .ok (.getfield 13, 3) := by decide +kernel
theorem dX12_count_92 : decode cX12_count 92 = .ok (.iconst 3, 1) := by decide +kernel
theorem dX12_count_93 : decode cX12_count 93 = .ok (.iaload, 1) := by decide +kernel
theorem dX12_count_94 : decode cX12_count 94 = .ok (.ireturn, 1) := by decide +kernel
theorem dX12_count_95 : decode cX12_count 95 = .ok (.aload_n 0, 1) := by decide +kernel
theorem dX12_count_96 : decode cX12_count 96 = .ok (.getfield 13, 3) := by decide +kernel
theorem dX12_count_99 : decode cX12_count 99 = .ok (.iconst 4, 1) := by decide +kernel
theorem dX12_count_100 : decode cX12_count 100 = .ok (.iaload, 1) := by decide +kernel
theorem dX12_count_101 : decode cX12_count 101 = .ok (.ireturn, 1) := by decide +kernel
theorem dX12_count_102 : decode cX12_count 102 = .ok (.aload_n 0, 1) := by decide +kernel
theorem dX12_count_103 : decode cX12_count 103 = .ok (.getfield 13, 3) := by decide +kernel
theorem dX12_count_106 : decode cX12_count 106 = .ok (.sipush 162, 3) := by decide +kernel
theorem dX12_count_109 : decode cX12_count 109 = .ok (.iaload, 1) := by decide +kernel
theorem dX12_count_110 : decode cX12_count 110 = .ok (.ireturn, 1) := by decide +kernel
theorem dX12_count_111 : decode cX12_count 111 = .ok (.aload_n 0, 1) := by decide +kernel
theorem dX12_count_112 : decode cX12_count 112 = .ok (.getfield 71, 3) := by decide +kernel
theorem dX12_count_115 : decode cX12_count 115 = .ok (.ireturn, 1) := by decide +kernel
theorem dX12_count_116 : decode cX12_count 116 = .ok (.aload_n 0, 1) := by decide +kernel
theorem dX12_count_117 : decode cX12_count 117 = .ok (.getfield 13, 3) := by decide +kernel
theorem dX12_count_120 : decode cX12_count 120 = .ok (.iconst 0, 1) := by decide +kernel
theorem dX12_count_121 : decode cX12_count 121 = .ok (.iaload, 1) := by decide +kernel
theorem dX12_count_122 : decode cX12_count 122 = .ok (.ireturn, 1) := by decide +kernel
theorem dX12_count_123 : decode cX12_count 123 = .ok (.aload_n 0, 1) := by decide +kernel
theorem dX12_count_124 : decode cX12_count 124 = .ok (.invokevirtual 381, 3) := by decide +kernel
theorem dX12_count_127 : decode cX12_count 127 = .ok (.ireturn, 1) := by decide +kernel
theorem dX12_count_128 : decode cX12_count 128 = .ok (.iconst (-1), 1) := by decide +kernel
theorem dX12_count_129 : decode cX12_count 129 = .ok (.ireturn, 1) := by decide +kernel
set_option maxRecDepth 100000 in
set_option maxHeartbeats 4000000 in
theorem v_X12_count {l : Launch} {p : Program} {e : Env} {s : State} {mt : MethodId} {args : Array Value} {below : List Frame} {meth : Method} {c : Code} {A : Nat → Prop} {ad0 : Nat → Nat} {G : Gt}  (C : Cx G p s mt args meth c RX12 cX12_count 2 (some .int) "count" A)  (x1 : Int32) (m : Mem) : V G SM oI l p e s mt args below meth c 2 3 A ad0 17 17 RM 17 RM 0 [(0, .ref 0), (1, .int x1)] [] m (X12_count  x1 m) := by
  rw [X12_count]
  refine V.aload_n (pc := 0) C dX12_count_0 0 rfl ?_
  refine V.iconst (pc := 1) C dX12_count_1 (v := 0) (by decide) ?_
  refine V.puti (pc := 2) C fp_RX12_1 sM0 kM0 rfl dX12_count_2 ?_
  refine V.ltm (fun m_1 => ?_)
  refine V.iload_n (pc := 5) C dX12_count_5 1 rfl ?_
  refine V.br (fun h_2 => ?_) (fun h_2 => ?_)
  · refine V.tin (pc := 6) (x := x1) (j := 0) (tgt := 60) C dX12_count_6 h_2 (by decide) (by decide) rfl (by decide) ?_
    refine V.aload_n (pc := 60) C dX12_count_60 0 rfl ?_
    refine V.getr (pc := 61) C fl_RX12_13 sM0 kM0 rfl rM0_1 dX12_count_61 ?_
    refine V.iconst (pc := 64) C dX12_count_64 (v := 1) (by decide) ?_
    refine V.iald (pc := 65) C sM1 kM1 dX12_count_65 (fun _ => ?_)
    exact V.iret C dX12_count_66
  · refine V.br (fun h_3 => ?_) (fun h_3 => ?_)
    · refine V.tin (pc := 6) (x := x1) (j := 1) (tgt := 67) C dX12_count_6 h_3 (by decide) (by decide) rfl (by decide) ?_
      refine V.aload_n (pc := 67) C dX12_count_67 0 rfl ?_
      refine V.getr (pc := 68) C fl_RX12_13 sM0 kM0 rfl rM0_1 dX12_count_68 ?_
      refine V.iconst (pc := 71) C dX12_count_71 (v := 2) (by decide) ?_
      refine V.iald (pc := 72) C sM1 kM1 dX12_count_72 (fun _ => ?_)
      exact V.iret C dX12_count_73
    · refine V.br (fun h_4 => ?_) (fun h_4 => ?_)
      · refine V.tin (pc := 6) (x := x1) (j := 2) (tgt := 74) C dX12_count_6 h_4 (by decide) (by decide) rfl (by decide) ?_
        refine V.aload_n (pc := 74) C dX12_count_74 0 rfl ?_
        refine V.getr (pc := 75) C fl_RX12_13 sM0 kM0 rfl rM0_1 dX12_count_75 ?_
        refine V.sipush (pc := 78) C dX12_count_78 (v := 161) (by decide) ?_
        refine V.iald (pc := 81) C sM1 kM1 dX12_count_81 (fun _ => ?_)
        exact V.iret C dX12_count_82
      · refine V.br (fun h_7 => ?_) (fun h_7 => ?_)
        · refine V.tin (pc := 6) (x := x1) (j := 3) (tgt := 83) C dX12_count_6 h_7 (by decide) (by decide) rfl (by decide) ?_
          refine V.aload_n (pc := 83) C dX12_count_83 0 rfl ?_
          refine V.callV (pc := 84) (st := []) C (c_X12_wedMany l  m_1) obI ck_X12_wedMany ml_RX12_295 rfl rfl sM0 kM0 rfl rfl (Nat.le_of_ble_eq_true rfl) ⟨by decide, by decide⟩ dX12_count_84 (fun r_5 m_6 _ => ?_)
          exact V.iret C dX12_count_87
        · refine V.br (fun h_8 => ?_) (fun h_8 => ?_)
          · refine V.tin (pc := 6) (x := x1) (j := 4) (tgt := 88) C dX12_count_6 h_8 (by decide) (by decide) rfl (by decide) ?_
            refine V.aload_n (pc := 88) C dX12_count_88 0 rfl ?_
            refine V.getr (pc := 89) C fl_RX12_13 sM0 kM0 rfl rM0_1 dX12_count_89 ?_
            refine V.iconst (pc := 92) C dX12_count_92 (v := 3) (by decide) ?_
            refine V.iald (pc := 93) C sM1 kM1 dX12_count_93 (fun _ => ?_)
            exact V.iret C dX12_count_94
          · refine V.br (fun h_9 => ?_) (fun h_9 => ?_)
            · refine V.tin (pc := 6) (x := x1) (j := 5) (tgt := 95) C dX12_count_6 h_9 (by decide) (by decide) rfl (by decide) ?_
              refine V.aload_n (pc := 95) C dX12_count_95 0 rfl ?_
              refine V.getr (pc := 96) C fl_RX12_13 sM0 kM0 rfl rM0_1 dX12_count_96 ?_
              refine V.iconst (pc := 99) C dX12_count_99 (v := 4) (by decide) ?_
              refine V.iald (pc := 100) C sM1 kM1 dX12_count_100 (fun _ => ?_)
              exact V.iret C dX12_count_101
            · refine V.br (fun h_10 => ?_) (fun h_10 => ?_)
              · refine V.tin (pc := 6) (x := x1) (j := 6) (tgt := 102) C dX12_count_6 h_10 (by decide) (by decide) rfl (by decide) ?_
                refine V.aload_n (pc := 102) C dX12_count_102 0 rfl ?_
                refine V.getr (pc := 103) C fl_RX12_13 sM0 kM0 rfl rM0_1 dX12_count_103 ?_
                refine V.sipush (pc := 106) C dX12_count_106 (v := 162) (by decide) ?_
                refine V.iald (pc := 109) C sM1 kM1 dX12_count_109 (fun _ => ?_)
                exact V.iret C dX12_count_110
              · refine V.br (fun h_11 => ?_) (fun h_11 => ?_)
                · refine V.tin (pc := 6) (x := x1) (j := 7) (tgt := 111) C dX12_count_6 h_11 (by decide) (by decide) rfl (by decide) ?_
                  refine V.aload_n (pc := 111) C dX12_count_111 0 rfl ?_
                  refine V.geti (pc := 112) C fl_RX12_71 sM0 kM0 rfl dX12_count_112 ?_
                  exact V.iret C dX12_count_115
                · refine V.br (fun h_12 => ?_) (fun h_12 => ?_)
                  · refine V.tin (pc := 6) (x := x1) (j := 8) (tgt := 116) C dX12_count_6 h_12 (by decide) (by decide) rfl (by decide) ?_
                    refine V.aload_n (pc := 116) C dX12_count_116 0 rfl ?_
                    refine V.getr (pc := 117) C fl_RX12_13 sM0 kM0 rfl rM0_1 dX12_count_117 ?_
                    refine V.iconst (pc := 120) C dX12_count_120 (v := 0) (by decide) ?_
                    refine V.iald (pc := 121) C sM1 kM1 dX12_count_121 (fun _ => ?_)
                    exact V.iret C dX12_count_122
                  · refine V.br (fun h_15 => ?_) (fun h_15 => ?_)
                    · refine V.tin (pc := 6) (x := x1) (j := 9) (tgt := 123) C dX12_count_6 h_15 (by decide) (by decide) rfl (by decide) ?_
                      refine V.aload_n (pc := 123) C dX12_count_123 0 rfl ?_
                      refine V.callV (pc := 124) (st := []) C (c_X12_listedMany l  m_1) obI ck_X12_listedMany ml_RX12_381 rfl rfl sM0 kM0 rfl rfl (Nat.le_of_ble_eq_true rfl) ⟨by decide, by decide⟩ dX12_count_124 (fun r_13 m_14 _ => ?_)
                      exact V.iret C dX12_count_127
                    · have g0 := lv_neT h_2 (show (0 : Int32).toInt = 0 from by decide)
                      have g1 := lv_neT h_3 (show (1 : Int32).toInt = 1 from by decide)
                      have g2 := lv_neT h_4 (show (2 : Int32).toInt = 2 from by decide)
                      have g3 := lv_neT h_7 (show (3 : Int32).toInt = 3 from by decide)
                      have g4 := lv_neT h_8 (show (4 : Int32).toInt = 4 from by decide)
                      have g5 := lv_neT h_9 (show (5 : Int32).toInt = 5 from by decide)
                      have g6 := lv_neT h_10 (show (6 : Int32).toInt = 6 from by decide)
                      have g7 := lv_neT h_11 (show (7 : Int32).toInt = 7 from by decide)
                      have g8 := lv_neT h_12 (show (8 : Int32).toInt = 8 from by decide)
                      have g9 := lv_neT h_15 (show (9 : Int32).toInt = 9 from by decide)
                      refine V.tout (pc := 6) (x := x1) (tgt := 128) C dX12_count_6 (by omega) (by decide) ?_
                      refine V.iconst (pc := 128) C dX12_count_128 (v := (-1)) (by decide) ?_
                      exact V.iret C dX12_count_129
theorem c_X12_count (l : Launch)   (x1 : Int32) (m : Mem) : Ct l yX12_count cX12_count 2 (some .int) 3 SM oI 17 17 RM RM [.ref 0, .int x1] m (X12_count  x1 m) :=
  Ct.of (own := RX12) (nm := "count") (by decide) rfl rfl (Nat.le_of_ble_eq_true rfl) (fun _ _ _ _ _ _ _ _ _ _ _ C => v_X12_count C  x1 m)
theorem dX12_cut_0 : decode cX12_cut 0 = .ok (.iload_n 2, 1) := by decide +kernel
theorem dX12_cut_1 : decode cX12_cut 1 = .ok (.ifCond .ne 10, 3) := by decide +kernel
theorem dX12_cut_4 : decode cX12_cut 4 = .ok (.lload_n 0, 1) := by decide +kernel
theorem dX12_cut_5 : decode cX12_cut 5 = .ok (.l2i, 1) := by decide +kernel
theorem dX12_cut_6 : decode cX12_cut 6 = .ok (.i2b, 1) := by decide +kernel
theorem dX12_cut_7 : decode cX12_cut 7 = .ok (.i2l, 1) := by decide +kernel
theorem dX12_cut_8 : decode cX12_cut 8 = .ok (.goto 27, 3) := by decide +kernel
theorem dX12_cut_11 : decode cX12_cut 11 = .ok (.iload_n 2, 1) := by decide +kernel
theorem dX12_cut_12 : decode cX12_cut 12 = .ok (.iconst 1, 1) := by decide +kernel
theorem dX12_cut_13 : decode cX12_cut 13 = .ok (.if_icmp .ne 10, 3) := by decide +kernel
theorem dX12_cut_16 : decode cX12_cut 16 = .ok (.lload_n 0, 1) := by decide +kernel
theorem dX12_cut_17 : decode cX12_cut 17 = .ok (.l2i, 1) := by decide +kernel
theorem dX12_cut_18 : decode cX12_cut 18 = .ok (.i2s, 1) := by decide +kernel
theorem dX12_cut_19 : decode cX12_cut 19 = .ok (.i2l, 1) := by decide +kernel
theorem dX12_cut_20 : decode cX12_cut 20 = .ok (.goto 15, 3) := by decide +kernel
theorem dX12_cut_23 : decode cX12_cut 23 = .ok (.iload_n 2, 1) := by decide +kernel
theorem dX12_cut_24 : decode cX12_cut 24 = .ok (.iconst 2, 1) := by decide +kernel
theorem dX12_cut_25 : decode cX12_cut 25 = .ok (.if_icmp .ne 9, 3) := by decide +kernel
theorem dX12_cut_28 : decode cX12_cut 28 = .ok (.lload_n 0, 1) := by decide +kernel
theorem dX12_cut_29 : decode cX12_cut 29 = .ok (.l2i, 1) := by decide +kernel
theorem dX12_cut_30 : decode cX12_cut 30 = .ok (.i2l, 1) := by decide +kernel
theorem dX12_cut_31 : decode cX12_cut 31 = .ok (.goto 4, 3) := by decide +kernel
theorem dX12_cut_34 : decode cX12_cut 34 = .ok (.lload_n 0, 1) := by decide +kernel
theorem dX12_cut_35 : decode cX12_cut 35 = .ok (.lreturn, 1) := by decide +kernel
set_option maxRecDepth 100000 in
set_option maxHeartbeats 4000000 in
theorem v_X12_cut {l : Launch} {p : Program} {e : Env} {s : State} {mt : MethodId} {args : Array Value} {below : List Frame} {meth : Method} {c : Code} {A : Nat → Prop} {ad0 : Nat → Nat} {G : Gt}  (C : Cx G p s mt args meth c RX12 cX12_cut 3 (some .long) "cut" A)  (x1 : Int64) (x2 : Int32) (m : Mem) : V G SM oL l p e s mt args below meth c 3 1 A ad0 17 17 RM 17 RM 0 [(0, .long x1), (2, .int x2)] [] m (X12_cut  x1 x2 m) := by
  rw [X12_cut]
  refine V.iload_n (pc := 0) C dX12_cut_0 1 rfl ?_
  refine V.if_ne (pc := 1) C dX12_cut_1 11 (by decide) (fun _ => ?_) (fun _ => ?_)
  · refine V.iload_n (pc := 11) C dX12_cut_11 1 rfl ?_
    refine V.iconst (pc := 12) C dX12_cut_12 (v := 1) (by decide) ?_
    refine V.icmp_ne (pc := 13) C dX12_cut_13 23 (by decide) (fun _ => ?_) (fun _ => ?_)
    · refine V.iload_n (pc := 23) C dX12_cut_23 1 rfl ?_
      refine V.iconst (pc := 24) C dX12_cut_24 (v := 2) (by decide) ?_
      refine V.icmp_ne (pc := 25) C dX12_cut_25 34 (by decide) (fun _ => ?_) (fun _ => ?_)
      · refine V.lload_n (pc := 34) C dX12_cut_34 0 rfl ?_
        exact V.lret C dX12_cut_35
      · refine V.lload_n (pc := 28) C dX12_cut_28 0 rfl ?_
        refine V.l2i (pc := 29) C dX12_cut_29 ?_
        refine V.i2l (pc := 30) C dX12_cut_30 ?_
        refine V.goto (pc := 31) C dX12_cut_31 35 (by decide) ?_
        exact V.lret C dX12_cut_35
    · refine V.lload_n (pc := 16) C dX12_cut_16 0 rfl ?_
      refine V.l2i (pc := 17) C dX12_cut_17 ?_
      refine V.i2s (pc := 18) C dX12_cut_18 ?_
      refine V.i2l (pc := 19) C dX12_cut_19 ?_
      refine V.goto (pc := 20) C dX12_cut_20 35 (by decide) ?_
      exact V.lret C dX12_cut_35
  · refine V.lload_n (pc := 4) C dX12_cut_4 0 rfl ?_
    refine V.l2i (pc := 5) C dX12_cut_5 ?_
    refine V.i2b (pc := 6) C dX12_cut_6 ?_
    refine V.i2l (pc := 7) C dX12_cut_7 ?_
    refine V.goto (pc := 8) C dX12_cut_8 35 (by decide) ?_
    exact V.lret C dX12_cut_35
theorem c_X12_cut (l : Launch)   (x1 : Int64) (x2 : Int32) (m : Mem) : Ct l yX12_cut cX12_cut 3 (some .long) 1 SM oL 17 17 RM RM [.long x1, .int x2] m (X12_cut  x1 x2 m) :=
  Ct.of (own := RX12) (nm := "cut") (by decide) rfl rfl (Nat.le_of_ble_eq_true rfl) (fun _ _ _ _ _ _ _ _ _ _ _ C => v_X12_cut C  x1 x2 m)
theorem dX12_dearest_0 : decode cX12_dearest 0 = .ok (.aload_n 0, 1) := by decide +kernel
theorem dX12_dearest_1 : decode cX12_dearest 1 = .ok (.iconst 0, 1) := by decide +kernel
theorem dX12_dearest_2 : decode cX12_dearest 2 = .ok (.putfield 1, 3) := by decide +kernel
theorem dX12_dearest_5 : decode cX12_dearest 5 = .ok (.aload_n 0, 1) := by decide +kernel
theorem dX12_dearest_6 : decode cX12_dearest 6 = .ok (.iload_n 1, 1) := by decide +kernel
theorem dX12_dearest_7 : decode cX12_dearest 7 = .ok (.i2l, 1) := by decide +kernel
theorem dX12_dearest_8 : decode cX12_dearest 8 = .ok (.invokevirtual 194, 3) := by decide +kernel
theorem dX12_dearest_11 : decode cX12_dearest 11 = .ok (.ifCond .ne 6, 3) := by decide +kernel
theorem dX12_dearest_14 : decode cX12_dearest 14 = .ok (.bipush (-2), 2) := by decide +kernel
theorem dX12_dearest_16 : decode cX12_dearest 16 = .ok (.ireturn, 1) := by decide +kernel
theorem dX12_dearest_17 : decode cX12_dearest 17 = .ok (.aload_n 0, 1) := by decide +kernel
theorem dX12_dearest_18 : decode cX12_dearest 18 = .ok (.iconst 0, 1) := by decide +kernel
theorem dX12_dearest_19 : decode cX12_dearest 19 = .ok (.iconst 0, 1) := by decide +kernel
theorem dX12_dearest_20 : decode cX12_dearest 20 = .ok (.invokevirtual 348, 3) := by decide +kernel
theorem dX12_dearest_23 : decode cX12_dearest 23 = .ok (.iconst (-1), 1) := by decide +kernel
theorem dX12_dearest_24 : decode cX12_dearest 24 = .ok (.istore_n 2, 1) := by decide +kernel
theorem dX12_dearest_25 : decode cX12_dearest 25 = .ok (.iconst 0, 1) := by decide +kernel
theorem dX12_dearest_26 : decode cX12_dearest 26 = .ok (.istore_n 3, 1) := by decide +kernel
theorem dX12_dearest_27 : decode cX12_dearest 27 = .ok (.iload_n 3, 1) := by decide +kernel
theorem dX12_dearest_28 : decode cX12_dearest 28 = .ok (.aload_n 0, 1) := by decide +kernel
theorem dX12_dearest_29 : decode cX12_dearest 29 = .ok (.getfield 13, 3) := by decide +kernel
theorem dX12_dearest_32 : decode cX12_dearest 32 = .ok (.iconst 2, 1) := by decide +kernel
theorem dX12_dearest_33 : decode cX12_dearest 33 = .ok (.iaload, 1) := by decide +kernel
theorem dX12_dearest_34 : decode cX12_dearest 34 = .ok (.if_icmp .ge 60, 3) := by decide +kernel
theorem dX12_dearest_37 : decode cX12_dearest 37 = .ok (.iload_n 3, 1) := by decide +kernel
theorem dX12_dearest_38 : decode cX12_dearest 38 = .ok (.iload_n 1, 1) := by decide +kernel
theorem dX12_dearest_39 : decode cX12_dearest 39 = .ok (.if_icmp .eq 49, 3) := by decide +kernel
theorem dX12_dearest_42 : decode cX12_dearest 42 = .ok (.aload_n 0, 1) := by decide +kernel
theorem dX12_dearest_43 : decode cX12_dearest 43 = .ok (.getfield 51, 3) := by decide +kernel
theorem dX12_dearest_46 : decode cX12_dearest 46 = .ok (.bipush 8, 2) := by decide +kernel
theorem dX12_dearest_48 : decode cX12_dearest 48 = .ok (.iload_n 1, 1) := by decide +kernel
theorem dX12_dearest_49 : decode cX12_dearest 49 = .ok (.imul, 1) := by decide +kernel
theorem dX12_dearest_50 : decode cX12_dearest 50 = .ok (.iload_n 3, 1) := by decide +kernel
theorem dX12_dearest_51 : decode cX12_dearest 51 = .ok (.iadd, 1) := by decide +kernel
theorem dX12_dearest_52 : decode cX12_dearest 52 = .ok (.baload, 1) := by decide +kernel
theorem dX12_dearest_53 : decode cX12_dearest 53 = .ok (.ifCond .eq 35, 3) := by decide +kernel
theorem dX12_dearest_56 : decode cX12_dearest 56 = .ok (.iload_n 2, 1) := by decide +kernel
theorem dX12_dearest_57 : decode cX12_dearest 57 = .ok (.iconst (-1), 1) := by decide +kernel
theorem dX12_dearest_58 : decode cX12_dearest 58 = .ok (.if_icmp .eq 28, 3) := by decide +kernel
theorem dX12_dearest_61 : decode cX12_dearest 61 = .ok (.aload_n 0, 1) := by decide +kernel
theorem dX12_dearest_62 : decode cX12_dearest 62 = .ok (.getfield 42, 3) := by decide +kernel
theorem dX12_dearest_65 : decode cX12_dearest 65 = .ok (.bipush 8, 2) := by decide +kernel
theorem dX12_dearest_67 : decode cX12_dearest 67 = .ok (.iload_n 1, 1) := by decide +kernel
theorem dX12_dearest_68 : decode cX12_dearest 68 = .ok (.imul, 1) := by decide +kernel
theorem dX12_dearest_69 : decode cX12_dearest 69 = .ok (.iload_n 3, 1) := by decide +kernel
theorem dX12_dearest_70 : decode cX12_dearest 70 = .ok (.iadd, 1) := by decide +kernel
theorem dX12_dearest_71 : decode cX12_dearest 71 = .ok (.iaload, 1) := by decide +kernel
theorem dX12_dearest_72 : decode cX12_dearest 72 = .ok (.aload_n 0, 1) := by decide +kernel
theorem dX12_dearest_73 : decode cX12_dearest 73 = .ok (.getfield 42, 3) := by decide +kernel
theorem dX12_dearest_76 : decode cX12_dearest 76 = .ok (.bipush 8, 2) := by decide +kernel
theorem dX12_dearest_78 : decode cX12_dearest 78 = .ok (.iload_n 1, 1) := by decide +kernel
theorem dX12_dearest_79 : decode cX12_dearest 79 = .ok (.imul, 1) := by decide +kernel
theorem dX12_dearest_80 : decode cX12_dearest 80 = .ok (.iload_n 2, 1) := by decide +kernel
theorem dX12_dearest_81 : decode cX12_dearest 81 = .ok (.iadd, 1) := by decide +kernel
theorem dX12_dearest_82 : decode cX12_dearest 82 = .ok (.iaload, 1) := by decide +kernel
theorem dX12_dearest_83 : decode cX12_dearest 83 = .ok (.if_icmp .le 5, 3) := by decide +kernel
theorem dX12_dearest_86 : decode cX12_dearest 86 = .ok (.iload_n 3, 1) := by decide +kernel
theorem dX12_dearest_87 : decode cX12_dearest 87 = .ok (.istore_n 2, 1) := by decide +kernel
theorem dX12_dearest_88 : decode cX12_dearest 88 = .ok (.iinc 3 1, 3) := by decide +kernel
theorem dX12_dearest_91 : decode cX12_dearest 91 = .ok (.goto (-64), 3) := by decide +kernel
theorem dX12_dearest_94 : decode cX12_dearest 94 = .ok (.iload_n 2, 1) := by decide +kernel
theorem dX12_dearest_95 : decode cX12_dearest 95 = .ok (.ireturn, 1) := by decide +kernel
set_option maxRecDepth 100000 in
set_option maxHeartbeats 4000000 in
theorem v_X12_dearest_b27 {l : Launch} {p : Program} {e : Env} {s : State} {mt : MethodId} {args : Array Value} {below : List Frame} {meth : Method} {c : Code} {A : Nat → Prop} {ad0 : Nat → Nat} {G : Gt}  (C : Cx G p s mt args meth c RX12 cX12_dearest 4 (some .int) "dearest" A)  : ∀ (n : Nat) (y1 : Int32) (y2 : Int32) (y3 : Int32) (m : Mem), V G SM oI l p e s mt args below meth c 4 8 A ad0 17 17 RM 17 RM 27 [(0, .ref 0), (1, .int y1), (2, .int y2), (3, .int y3)] [] m (X12_dearest_b27  n y1 y2 y3 m) := by
  intro n
  induction n with
  | zero =>
    intro y1 y2 y3 m
    rw [X12_dearest_b27]
    exact V.nil
  | succ n ih =>
    intro y1 y2 y3 m
    rw [X12_dearest_b27]
    refine V.iload_n (pc := 27) C dX12_dearest_27 3 rfl ?_
    refine V.aload_n (pc := 28) C dX12_dearest_28 0 rfl ?_
    refine V.getr (pc := 29) C fl_RX12_13 sM0 kM0 rfl rM0_1 dX12_dearest_29 ?_
    refine V.iconst (pc := 32) C dX12_dearest_32 (v := 2) (by decide) ?_
    refine V.iald (pc := 33) C sM1 kM1 dX12_dearest_33 (fun _ => ?_)
    refine V.icmp_ge (pc := 34) C dX12_dearest_34 94 (by decide) (fun _ => ?_) (fun _ => ?_)
    · refine V.iload_n (pc := 94) C dX12_dearest_94 2 rfl ?_
      exact V.iret C dX12_dearest_95
    · refine V.iload_n (pc := 37) C dX12_dearest_37 3 rfl ?_
      refine V.iload_n (pc := 38) C dX12_dearest_38 1 rfl ?_
      refine V.icmp_eq (pc := 39) C dX12_dearest_39 88 (by decide) (fun _ => ?_) (fun _ => ?_)
      · refine V.iinc (pc := 88) C dX12_dearest_88 (v := 1) (L2 := [(3, .int (y3 + 1)), (0, .ref 0), (1, .int y1), (2, .int y2)]) 3 rfl (by decide) (by decide) rfl ?_
        refine V.goto (pc := 91) C dX12_dearest_91 27 (by decide) ?_
        refine V.wk [1, 2, 3, 0] rfl ?_
        exact ih y1 y2 (y3 + 1) m
      · refine V.aload_n (pc := 42) C dX12_dearest_42 0 rfl ?_
        refine V.getr (pc := 43) C fl_RX12_51 sM0 kM0 rfl rM0_24 dX12_dearest_43 ?_
        refine V.bipush (pc := 46) C dX12_dearest_46 (v := 8) (by decide) ?_
        refine V.iload_n (pc := 48) C dX12_dearest_48 1 rfl ?_
        refine V.imul (pc := 49) C dX12_dearest_49 ?_
        refine V.iload_n (pc := 50) C dX12_dearest_50 3 rfl ?_
        refine V.iadd (pc := 51) C dX12_dearest_51 ?_
        refine V.zald (pc := 52) C sM12 kM12 dX12_dearest_52 (fun _ => ?_)
        refine V.if_eq (pc := 53) C dX12_dearest_53 88 (by decide) (fun _ => ?_) (fun _ => ?_)
        · refine V.iinc (pc := 88) C dX12_dearest_88 (v := 1) (L2 := [(3, .int (y3 + 1)), (0, .ref 0), (1, .int y1), (2, .int y2)]) 3 rfl (by decide) (by decide) rfl ?_
          refine V.goto (pc := 91) C dX12_dearest_91 27 (by decide) ?_
          refine V.wk [1, 2, 3, 0] rfl ?_
          exact ih y1 y2 (y3 + 1) m
        · refine V.iload_n (pc := 56) C dX12_dearest_56 2 rfl ?_
          refine V.iconst (pc := 57) C dX12_dearest_57 (v := (-1)) (by decide) ?_
          refine V.icmp_eq (pc := 58) C dX12_dearest_58 86 (by decide) (fun _ => ?_) (fun _ => ?_)
          · refine V.iload_n (pc := 86) C dX12_dearest_86 3 rfl ?_
            refine V.istore_n (pc := 87) C dX12_dearest_87 (L2 := [(2, .int y3), (0, .ref 0), (1, .int y1), (3, .int y3)]) (by decide) rfl ?_
            refine V.iinc (pc := 88) C dX12_dearest_88 (v := 1) (L2 := [(3, .int (y3 + 1)), (2, .int y3), (0, .ref 0), (1, .int y1)]) 3 rfl (by decide) (by decide) rfl ?_
            refine V.goto (pc := 91) C dX12_dearest_91 27 (by decide) ?_
            refine V.wk [2, 3, 1, 0] rfl ?_
            exact ih y1 y3 (y3 + 1) m
          · refine V.aload_n (pc := 61) C dX12_dearest_61 0 rfl ?_
            refine V.getr (pc := 62) C fl_RX12_42 sM0 kM0 rfl rM0_21 dX12_dearest_62 ?_
            refine V.bipush (pc := 65) C dX12_dearest_65 (v := 8) (by decide) ?_
            refine V.iload_n (pc := 67) C dX12_dearest_67 1 rfl ?_
            refine V.imul (pc := 68) C dX12_dearest_68 ?_
            refine V.iload_n (pc := 69) C dX12_dearest_69 3 rfl ?_
            refine V.iadd (pc := 70) C dX12_dearest_70 ?_
            refine V.iald (pc := 71) C sM9 kM9 dX12_dearest_71 (fun _ => ?_)
            refine V.aload_n (pc := 72) C dX12_dearest_72 0 rfl ?_
            refine V.getr (pc := 73) C fl_RX12_42 sM0 kM0 rfl rM0_21 dX12_dearest_73 ?_
            refine V.bipush (pc := 76) C dX12_dearest_76 (v := 8) (by decide) ?_
            refine V.iload_n (pc := 78) C dX12_dearest_78 1 rfl ?_
            refine V.imul (pc := 79) C dX12_dearest_79 ?_
            refine V.iload_n (pc := 80) C dX12_dearest_80 2 rfl ?_
            refine V.iadd (pc := 81) C dX12_dearest_81 ?_
            refine V.iald (pc := 82) C sM9 kM9 dX12_dearest_82 (fun _ => ?_)
            refine V.icmp_le (pc := 83) C dX12_dearest_83 88 (by decide) (fun _ => ?_) (fun _ => ?_)
            · refine V.iinc (pc := 88) C dX12_dearest_88 (v := 1) (L2 := [(3, .int (y3 + 1)), (0, .ref 0), (1, .int y1), (2, .int y2)]) 3 rfl (by decide) (by decide) rfl ?_
              refine V.goto (pc := 91) C dX12_dearest_91 27 (by decide) ?_
              refine V.wk [1, 2, 3, 0] rfl ?_
              exact ih y1 y2 (y3 + 1) m
            · refine V.iload_n (pc := 86) C dX12_dearest_86 3 rfl ?_
              refine V.istore_n (pc := 87) C dX12_dearest_87 (L2 := [(2, .int y3), (0, .ref 0), (1, .int y1), (3, .int y3)]) (by decide) rfl ?_
              refine V.iinc (pc := 88) C dX12_dearest_88 (v := 1) (L2 := [(3, .int (y3 + 1)), (2, .int y3), (0, .ref 0), (1, .int y1)]) 3 rfl (by decide) (by decide) rfl ?_
              refine V.goto (pc := 91) C dX12_dearest_91 27 (by decide) ?_
              refine V.wk [2, 3, 1, 0] rfl ?_
              exact ih y1 y3 (y3 + 1) m
set_option maxRecDepth 100000 in
set_option maxHeartbeats 4000000 in
theorem v_X12_dearest {l : Launch} {p : Program} {e : Env} {s : State} {mt : MethodId} {args : Array Value} {below : List Frame} {meth : Method} {c : Code} {A : Nat → Prop} {ad0 : Nat → Nat} {G : Gt}  (C : Cx G p s mt args meth c RX12 cX12_dearest 4 (some .int) "dearest" A)  (x1 : Int32) (m : Mem) : V G SM oI l p e s mt args below meth c 4 8 A ad0 17 17 RM 17 RM 0 [(0, .ref 0), (1, .int x1)] [] m (X12_dearest  x1 m) := by
  rw [X12_dearest]
  refine V.aload_n (pc := 0) C dX12_dearest_0 0 rfl ?_
  refine V.iconst (pc := 1) C dX12_dearest_1 (v := 0) (by decide) ?_
  refine V.puti (pc := 2) C fp_RX12_1 sM0 kM0 rfl dX12_dearest_2 ?_
  refine V.ltm (fun m_1 => ?_)
  refine V.aload_n (pc := 5) C dX12_dearest_5 0 rfl ?_
  refine V.iload_n (pc := 6) C dX12_dearest_6 1 rfl ?_
  refine V.i2l (pc := 7) C dX12_dearest_7 ?_
  refine V.callV (pc := 8) (st := []) C (c_X12_isPerson l (Int32.toInt64 x1) m_1) obI ck_X12_isPerson ml_RX12_194 rfl rfl sM0 kM0 rfl rfl (Nat.le_of_ble_eq_true rfl) ⟨by decide, by decide⟩ dX12_dearest_8 (fun r_2 m_3 _ => ?_)
  refine V.if_ne (pc := 11) C dX12_dearest_11 17 (by decide) (fun _ => ?_) (fun _ => ?_)
  · refine V.aload_n (pc := 17) C dX12_dearest_17 0 rfl ?_
    refine V.iconst (pc := 18) C dX12_dearest_18 (v := 0) (by decide) ?_
    refine V.iconst (pc := 19) C dX12_dearest_19 (v := 0) (by decide) ?_
    refine V.callV (pc := 20) (st := []) C (c_X12_laysPairs l 0 0 m_3) obV ck_X12_laysPairs ml_RX12_348 rfl rfl sM0 kM0 rfl rfl (Nat.le_of_ble_eq_true rfl) ⟨by decide, by decide⟩ dX12_dearest_20 (fun r_4 m_5 _ => ?_)
    refine V.iconst (pc := 23) C dX12_dearest_23 (v := (-1)) (by decide) ?_
    refine V.istore_n (pc := 24) C dX12_dearest_24 (L2 := [(2, .int (-1)), (0, .ref 0), (1, .int x1)]) (by decide) rfl ?_
    refine V.iconst (pc := 25) C dX12_dearest_25 (v := 0) (by decide) ?_
    refine V.istore_n (pc := 26) C dX12_dearest_26 (L2 := [(3, .int 0), (2, .int (-1)), (0, .ref 0), (1, .int x1)]) (by decide) rfl ?_
    refine V.wk [2, 3, 1, 0] rfl ?_
    exact v_X12_dearest_b27 C  FU x1 (-1) 0 m_5
  · refine V.bipush (pc := 14) C dX12_dearest_14 (v := (-2)) (by decide) ?_
    exact V.iret C dX12_dearest_16
theorem c_X12_dearest (l : Launch)   (x1 : Int32) (m : Mem) : Ct l yX12_dearest cX12_dearest 4 (some .int) 8 SM oI 17 17 RM RM [.ref 0, .int x1] m (X12_dearest  x1 m) :=
  Ct.of (own := RX12) (nm := "dearest") (by decide) rfl rfl (Nat.le_of_ble_eq_true rfl) (fun _ _ _ _ _ _ _ _ _ _ _ C => v_X12_dearest C  x1 m)
theorem dX12_draw_0 : decode cX12_draw 0 = .ok (.aload_n 0, 1) := by decide +kernel
theorem dX12_draw_1 : decode cX12_draw 1 = .ok (.ldc_w 304, 3) := by decide +kernel
theorem dX12_draw_4 : decode cX12_draw 4 = .ok (.aload_n 0, 1) := by decide +kernel
theorem dX12_draw_5 : decode cX12_draw 5 = .ok (.getfield 305, 3) := by decide +kernel
theorem dX12_draw_8 : decode cX12_draw 8 = .ok (.imul, 1) := by decide +kernel
theorem dX12_draw_9 : decode cX12_draw 9 = .ok (.sipush 12345, 3) := by decide +kernel
theorem dX12_draw_12 : decode cX12_draw 12 = .ok (.iadd, 1) := by decide +kernel
theorem dX12_draw_13 : decode cX12_draw 13 = .ok (.putfield 305, 3) := by decide +kernel
theorem dX12_draw_16 : decode cX12_draw 16 = .ok (.aload_n 0, 1) := by decide +kernel
theorem dX12_draw_17 : decode cX12_draw 17 = .ok (.getfield 305, 3) := by decide +kernel
theorem dX12_draw_20 : decode cX12_draw 20 = .ok (.bipush 16, 2) := by decide +kernel
theorem dX12_draw_22 : decode cX12_draw 22 = .ok (.iushr, 1) := by decide +kernel
theorem dX12_draw_23 : decode cX12_draw 23 = .ok (.iload_n 1, 1) := by decide +kernel
theorem dX12_draw_24 : decode cX12_draw 24 = .ok (.irem, 1) := by decide +kernel
theorem dX12_draw_25 : decode cX12_draw 25 = .ok (.ireturn, 1) := by decide +kernel
set_option maxRecDepth 100000 in
set_option maxHeartbeats 4000000 in
theorem v_X12_draw {l : Launch} {p : Program} {e : Env} {s : State} {mt : MethodId} {args : Array Value} {below : List Frame} {meth : Method} {c : Code} {A : Nat → Prop} {ad0 : Nat → Nat} {G : Gt}  (C : Cx G p s mt args meth c RX12 cX12_draw 2 (some .int) "draw" A)  (x1 : Int32) (m : Mem) : V G SM oI l p e s mt args below meth c 2 1 A ad0 17 17 RM 17 RM 0 [(0, .ref 0), (1, .int x1)] [] m (X12_draw  x1 m) := by
  rw [X12_draw]
  refine V.aload_n (pc := 0) C dX12_draw_0 0 rfl ?_
  refine V.ldcw (pc := 1) C dX12_draw_1 (v := 1103515245) cn_RX12_304 ?_
  refine V.aload_n (pc := 4) C dX12_draw_4 0 rfl ?_
  refine V.geti (pc := 5) C fl_RX12_305 sM0 kM0 rfl dX12_draw_5 ?_
  refine V.imul (pc := 8) C dX12_draw_8 ?_
  refine V.sipush (pc := 9) C dX12_draw_9 (v := 12345) (by decide) ?_
  refine V.iadd (pc := 12) C dX12_draw_12 ?_
  refine V.puti (pc := 13) C fp_RX12_305 sM0 kM0 rfl dX12_draw_13 ?_
  refine V.ltm (fun m_1 => ?_)
  refine V.aload_n (pc := 16) C dX12_draw_16 0 rfl ?_
  refine V.geti (pc := 17) C fl_RX12_305 sM0 kM0 rfl dX12_draw_17 ?_
  refine V.bipush (pc := 20) C dX12_draw_20 (v := 16) (by decide) ?_
  refine V.iushr (pc := 22) C dX12_draw_22 ?_
  refine V.iload_n (pc := 23) C dX12_draw_23 1 rfl ?_
  refine V.ck (fun hz => ?_)
  refine V.irem (pc := 24) C dX12_draw_24 (of_decide_eq_true hz) ?_
  exact V.iret C dX12_draw_25
theorem c_X12_draw (l : Launch)   (x1 : Int32) (m : Mem) : Ct l yX12_draw cX12_draw 2 (some .int) 1 SM oI 17 17 RM RM [.ref 0, .int x1] m (X12_draw  x1 m) :=
  Ct.of (own := RX12) (nm := "draw") (by decide) rfl rfl (Nat.le_of_ble_eq_true rfl) (fun _ _ _ _ _ _ _ _ _ _ _ C => v_X12_draw C  x1 m)
theorem dX12_drawn_0 : decode cX12_drawn 0 = .ok (.aload_n 0, 1) := by decide +kernel
theorem dX12_drawn_1 : decode cX12_drawn 1 = .ok (.iconst 4, 1) := by decide +kernel
theorem dX12_drawn_2 : decode cX12_drawn 2 = .ok (.invokevirtual 308, 3) := by decide +kernel
theorem dX12_drawn_5 : decode cX12_drawn 5 = .ok (.istore_n 1, 1) := by decide +kernel
theorem dX12_drawn_6 : decode cX12_drawn 6 = .ok (.iload_n 1, 1) := by decide +kernel
theorem dX12_drawn_7 : decode cX12_drawn 7 = .ok (.ifCond .ne 5, 3) := by decide +kernel
theorem dX12_drawn_10 : decode cX12_drawn 10 = .ok (.iconst (-1), 1) := by decide +kernel
theorem dX12_drawn_11 : decode cX12_drawn 11 = .ok (.ireturn, 1) := by decide +kernel
theorem dX12_drawn_12 : decode cX12_drawn 12 = .ok (.aload_n 0, 1) := by decide +kernel
theorem dX12_drawn_13 : decode cX12_drawn 13 = .ok (.aload_n 0, 1) := by decide +kernel
theorem dX12_drawn_14 : decode cX12_drawn 14 = .ok (.getfield 13, 3) := by decide +kernel
theorem dX12_drawn_17 : decode cX12_drawn 17 = .ok (.iconst 2, 1) := by decide +kernel
theorem dX12_drawn_18 : decode cX12_drawn 18 = .ok (.iaload, 1) := by decide +kernel
theorem dX12_drawn_19 : decode cX12_drawn 19 = .ok (.invokevirtual 308, 3) := by decide +kernel
theorem dX12_drawn_22 : decode cX12_drawn 22 = .ok (.istore_n 2, 1) := by decide +kernel
theorem dX12_drawn_23 : decode cX12_drawn 23 = .ok (.aload_n 0, 1) := by decide +kernel
theorem dX12_drawn_24 : decode cX12_drawn 24 = .ok (.iload_n 1, 1) := by decide +kernel
theorem dX12_drawn_25 : decode cX12_drawn 25 = .ok (.iconst 2, 1) := by decide +kernel
theorem dX12_drawn_26 : decode cX12_drawn 26 = .ok (.if_icmp .ne 12, 3) := by decide +kernel
theorem dX12_drawn_29 : decode cX12_drawn 29 = .ok (.aload_n 0, 1) := by decide +kernel
theorem dX12_drawn_30 : decode cX12_drawn 30 = .ok (.getfield 13, 3) := by decide +kernel
theorem dX12_drawn_33 : decode cX12_drawn 33 = .ok (.iconst 1, 1) := by decide +kernel
theorem dX12_drawn_34 : decode cX12_drawn 34 = .ok (.iaload, 1) := by decide +kernel
theorem dX12_drawn_35 : decode cX12_drawn 35 = .ok (.goto 9, 3) := by decide +kernel
theorem dX12_drawn_38 : decode cX12_drawn 38 = .ok (.aload_n 0, 1) := by decide +kernel
theorem dX12_drawn_39 : decode cX12_drawn 39 = .ok (.getfield 13, 3) := by decide +kernel
theorem dX12_drawn_42 : decode cX12_drawn 42 = .ok (.iconst 2, 1) := by decide +kernel
theorem dX12_drawn_43 : decode cX12_drawn 43 = .ok (.iaload, 1) := by decide +kernel
theorem dX12_drawn_44 : decode cX12_drawn 44 = .ok (.invokevirtual 308, 3) := by decide +kernel
theorem dX12_drawn_47 : decode cX12_drawn 47 = .ok (.istore_n 3, 1) := by decide +kernel
theorem dX12_drawn_48 : decode cX12_drawn 48 = .ok (.iload_n 1, 1) := by decide +kernel
theorem dX12_drawn_49 : decode cX12_drawn 49 = .ok (.iconst 1, 1) := by decide +kernel
theorem dX12_drawn_50 : decode cX12_drawn 50 = .ok (.isub, 1) := by decide +kernel
theorem dX12_drawn_51 : decode cX12_drawn 51 = .ok (.sipush 1000, 3) := by decide +kernel
theorem dX12_drawn_54 : decode cX12_drawn 54 = .ok (.imul, 1) := by decide +kernel
theorem dX12_drawn_55 : decode cX12_drawn 55 = .ok (.bipush 100, 2) := by decide +kernel
theorem dX12_drawn_57 : decode cX12_drawn 57 = .ok (.iload_n 2, 1) := by decide +kernel
theorem dX12_drawn_58 : decode cX12_drawn 58 = .ok (.imul, 1) := by decide +kernel
theorem dX12_drawn_59 : decode cX12_drawn 59 = .ok (.iadd, 1) := by decide +kernel
theorem dX12_drawn_60 : decode cX12_drawn 60 = .ok (.iload_n 3, 1) := by decide +kernel
theorem dX12_drawn_61 : decode cX12_drawn 61 = .ok (.iadd, 1) := by decide +kernel
theorem dX12_drawn_62 : decode cX12_drawn 62 = .ok (.ireturn, 1) := by decide +kernel
set_option maxRecDepth 100000 in
set_option maxHeartbeats 4000000 in
theorem v_X12_drawn_b44 {l : Launch} {p : Program} {e : Env} {s : State} {mt : MethodId} {args : Array Value} {below : List Frame} {meth : Method} {c : Code} {A : Nat → Prop} {ad0 : Nat → Nat} {G : Gt}  (C : Cx G p s mt args meth c RX12 cX12_drawn 4 (some .int) "drawn" A)  (y1 : Int32) (y2 : Int32) (z0 : Int32) (m : Mem) : V G SM oI l p e s mt args below meth c 4 2 A ad0 17 17 RM 17 RM 44 [(1, .int y1), (2, .int y2)] [.int z0, .ref 0] m (X12_drawn_b44  y1 y2 z0 m) := by
  rw [X12_drawn_b44]
  refine V.callV (pc := 44) (st := []) C (c_X12_draw l z0 m) obI ck_X12_draw ml_RX12_308 rfl rfl sM0 kM0 rfl rfl (Nat.le_of_ble_eq_true rfl) ⟨by decide, by decide⟩ dX12_drawn_44 (fun r_5 m_6 _ => ?_)
  refine V.istore_n (pc := 47) C dX12_drawn_47 (L2 := [(3, .int r_5), (1, .int y1), (2, .int y2)]) (by decide) rfl ?_
  refine V.iload_n (pc := 48) C dX12_drawn_48 1 rfl ?_
  refine V.iconst (pc := 49) C dX12_drawn_49 (v := 1) (by decide) ?_
  refine V.isub (pc := 50) C dX12_drawn_50 ?_
  refine V.sipush (pc := 51) C dX12_drawn_51 (v := 1000) (by decide) ?_
  refine V.imul (pc := 54) C dX12_drawn_54 ?_
  refine V.bipush (pc := 55) C dX12_drawn_55 (v := 100) (by decide) ?_
  refine V.iload_n (pc := 57) C dX12_drawn_57 2 rfl ?_
  refine V.imul (pc := 58) C dX12_drawn_58 ?_
  refine V.iadd (pc := 59) C dX12_drawn_59 ?_
  refine V.iload_n (pc := 60) C dX12_drawn_60 0 rfl ?_
  refine V.iadd (pc := 61) C dX12_drawn_61 ?_
  exact V.iret C dX12_drawn_62
set_option maxRecDepth 100000 in
set_option maxHeartbeats 4000000 in
theorem v_X12_drawn {l : Launch} {p : Program} {e : Env} {s : State} {mt : MethodId} {args : Array Value} {below : List Frame} {meth : Method} {c : Code} {A : Nat → Prop} {ad0 : Nat → Nat} {G : Gt}  (C : Cx G p s mt args meth c RX12 cX12_drawn 4 (some .int) "drawn" A)  (m : Mem) : V G SM oI l p e s mt args below meth c 4 2 A ad0 17 17 RM 17 RM 0 [(0, .ref 0)] [] m (X12_drawn   m) := by
  rw [X12_drawn]
  refine V.aload_n (pc := 0) C dX12_drawn_0 0 rfl ?_
  refine V.iconst (pc := 1) C dX12_drawn_1 (v := 4) (by decide) ?_
  refine V.callV (pc := 2) (st := []) C (c_X12_draw l 4 m) obI ck_X12_draw ml_RX12_308 rfl rfl sM0 kM0 rfl rfl (Nat.le_of_ble_eq_true rfl) ⟨by decide, by decide⟩ dX12_drawn_2 (fun r_1 m_2 _ => ?_)
  refine V.istore_n (pc := 5) C dX12_drawn_5 (L2 := [(1, .int r_1), (0, .ref 0)]) (by decide) rfl ?_
  refine V.iload_n (pc := 6) C dX12_drawn_6 0 rfl ?_
  refine V.if_ne (pc := 7) C dX12_drawn_7 12 (by decide) (fun _ => ?_) (fun _ => ?_)
  · refine V.aload_n (pc := 12) C dX12_drawn_12 1 rfl ?_
    refine V.aload_n (pc := 13) C dX12_drawn_13 1 rfl ?_
    refine V.getr (pc := 14) C fl_RX12_13 sM0 kM0 rfl rM0_1 dX12_drawn_14 ?_
    refine V.iconst (pc := 17) C dX12_drawn_17 (v := 2) (by decide) ?_
    refine V.iald (pc := 18) C sM1 kM1 dX12_drawn_18 (fun _ => ?_)
    refine V.callV (pc := 19) (st := []) C (c_X12_draw l (gi m_2 1 (ix 2)) m_2) obI ck_X12_draw ml_RX12_308 rfl rfl sM0 kM0 rfl rfl (Nat.le_of_ble_eq_true rfl) ⟨by decide, by decide⟩ dX12_drawn_19 (fun r_3 m_4 _ => ?_)
    refine V.istore_n (pc := 22) C dX12_drawn_22 (L2 := [(2, .int r_3), (1, .int r_1), (0, .ref 0)]) (by decide) rfl ?_
    refine V.aload_n (pc := 23) C dX12_drawn_23 2 rfl ?_
    refine V.iload_n (pc := 24) C dX12_drawn_24 1 rfl ?_
    refine V.iconst (pc := 25) C dX12_drawn_25 (v := 2) (by decide) ?_
    refine V.icmp_ne (pc := 26) C dX12_drawn_26 38 (by decide) (fun _ => ?_) (fun _ => ?_)
    · refine V.aload_n (pc := 38) C dX12_drawn_38 2 rfl ?_
      refine V.getr (pc := 39) C fl_RX12_13 sM0 kM0 rfl rM0_1 dX12_drawn_39 ?_
      refine V.iconst (pc := 42) C dX12_drawn_42 (v := 2) (by decide) ?_
      refine V.iald (pc := 43) C sM1 kM1 dX12_drawn_43 (fun _ => ?_)
      refine V.wk [1, 0] rfl ?_
      exact v_X12_drawn_b44 C  r_1 r_3 (gi m_4 1 (ix 2)) m_4
    · refine V.aload_n (pc := 29) C dX12_drawn_29 2 rfl ?_
      refine V.getr (pc := 30) C fl_RX12_13 sM0 kM0 rfl rM0_1 dX12_drawn_30 ?_
      refine V.iconst (pc := 33) C dX12_drawn_33 (v := 1) (by decide) ?_
      refine V.iald (pc := 34) C sM1 kM1 dX12_drawn_34 (fun _ => ?_)
      refine V.goto (pc := 35) C dX12_drawn_35 44 (by decide) ?_
      refine V.wk [1, 0] rfl ?_
      exact v_X12_drawn_b44 C  r_1 r_3 (gi m_4 1 (ix 1)) m_4
  · refine V.iconst (pc := 10) C dX12_drawn_10 (v := (-1)) (by decide) ?_
    exact V.iret C dX12_drawn_11
theorem c_X12_drawn (l : Launch)   (m : Mem) : Ct l yX12_drawn cX12_drawn 4 (some .int) 2 SM oI 17 17 RM RM [.ref 0] m (X12_drawn   m) :=
  Ct.of (own := RX12) (nm := "drawn") (by decide) rfl rfl (Nat.le_of_ble_eq_true rfl) (fun _ _ _ _ _ _ _ _ _ _ _ C => v_X12_drawn C   m)
theorem dX12_fault_0 : decode cX12_fault 0 = .ok (.aload_n 0, 1) := by decide +kernel
theorem dX12_fault_1 : decode cX12_fault 1 = .ok (.iconst 0, 1) := by decide +kernel
theorem dX12_fault_2 : decode cX12_fault 2 = .ok (.putfield 1, 3) := by decide +kernel
theorem dX12_fault_5 : decode cX12_fault 5 = .ok (.iload_n 1, 1) := by decide +kernel
theorem dX12_fault_6 : decode cX12_fault 6 = .ok (.ifCond .ne 10, 3) := by decide +kernel
theorem dX12_fault_9 : decode cX12_fault 9 = .ok (.aload_n 0, 1) := by decide +kernel
theorem dX12_fault_10 : decode cX12_fault 10 = .ok (.getfield 191, 3) := by decide +kernel
theorem dX12_fault_13 : decode cX12_fault 13 = .ok (.goto 16, 3) := by decide +kernel
theorem dX12_fault_16 : decode cX12_fault 16 = .ok (.iload_n 1, 1) := by decide +kernel
theorem dX12_fault_17 : decode cX12_fault 17 = .ok (.iconst 1, 1) := by decide +kernel
theorem dX12_fault_18 : decode cX12_fault 18 = .ok (.if_icmp .ne 10, 3) := by decide +kernel
theorem dX12_fault_21 : decode cX12_fault 21 = .ok (.aload_n 0, 1) := by decide +kernel
theorem dX12_fault_22 : decode cX12_fault 22 = .ok (.getfield 27, 3) := by decide +kernel
theorem dX12_fault_25 : decode cX12_fault 25 = .ok (.goto 4, 3) := by decide +kernel
theorem dX12_fault_28 : decode cX12_fault 28 = .ok (.iconst (-1), 1) := by decide +kernel
theorem dX12_fault_29 : decode cX12_fault 29 = .ok (.ireturn, 1) := by decide +kernel
set_option maxRecDepth 100000 in
set_option maxHeartbeats 4000000 in
theorem v_X12_fault {l : Launch} {p : Program} {e : Env} {s : State} {mt : MethodId} {args : Array Value} {below : List Frame} {meth : Method} {c : Code} {A : Nat → Prop} {ad0 : Nat → Nat} {G : Gt}  (C : Cx G p s mt args meth c RX12 cX12_fault 2 (some .int) "fault" A)  (x1 : Int32) (m : Mem) : V G SM oI l p e s mt args below meth c 2 1 A ad0 17 17 RM 17 RM 0 [(0, .ref 0), (1, .int x1)] [] m (X12_fault  x1 m) := by
  rw [X12_fault]
  refine V.aload_n (pc := 0) C dX12_fault_0 0 rfl ?_
  refine V.iconst (pc := 1) C dX12_fault_1 (v := 0) (by decide) ?_
  refine V.puti (pc := 2) C fp_RX12_1 sM0 kM0 rfl dX12_fault_2 ?_
  refine V.ltm (fun m_1 => ?_)
  refine V.iload_n (pc := 5) C dX12_fault_5 1 rfl ?_
  refine V.if_ne (pc := 6) C dX12_fault_6 16 (by decide) (fun _ => ?_) (fun _ => ?_)
  · refine V.iload_n (pc := 16) C dX12_fault_16 1 rfl ?_
    refine V.iconst (pc := 17) C dX12_fault_17 (v := 1) (by decide) ?_
    refine V.icmp_ne (pc := 18) C dX12_fault_18 28 (by decide) (fun _ => ?_) (fun _ => ?_)
    · refine V.iconst (pc := 28) C dX12_fault_28 (v := (-1)) (by decide) ?_
      exact V.iret C dX12_fault_29
    · refine V.aload_n (pc := 21) C dX12_fault_21 0 rfl ?_
      refine V.geti (pc := 22) C fl_RX12_27 sM0 kM0 rfl dX12_fault_22 ?_
      refine V.goto (pc := 25) C dX12_fault_25 29 (by decide) ?_
      exact V.iret C dX12_fault_29
  · refine V.aload_n (pc := 9) C dX12_fault_9 0 rfl ?_
    refine V.geti (pc := 10) C fl_RX12_191 sM0 kM0 rfl dX12_fault_10 ?_
    refine V.goto (pc := 13) C dX12_fault_13 29 (by decide) ?_
    exact V.iret C dX12_fault_29
theorem c_X12_fault (l : Launch)   (x1 : Int32) (m : Mem) : Ct l yX12_fault cX12_fault 2 (some .int) 1 SM oI 17 17 RM RM [.ref 0, .int x1] m (X12_fault  x1 m) :=
  Ct.of (own := RX12) (nm := "fault") (by decide) rfl rfl (Nat.le_of_ble_eq_true rfl) (fun _ _ _ _ _ _ _ _ _ _ _ C => v_X12_fault C  x1 m)
theorem dX12_feed_0 : decode cX12_feed 0 = .ok (.aload_n 0, 1) := by decide +kernel
theorem dX12_feed_1 : decode cX12_feed 1 = .ok (.iconst 0, 1) := by decide +kernel
theorem dX12_feed_2 : decode cX12_feed 2 = .ok (.putfield 1, 3) := by decide +kernel
theorem dX12_feed_5 : decode cX12_feed 5 = .ok (.aload_n 0, 1) := by decide +kernel
theorem dX12_feed_6 : decode cX12_feed 6 = .ok (.getfield 71, 3) := by decide +kernel
theorem dX12_feed_9 : decode cX12_feed 9 = .ok (.bipush 20, 2) := by decide +kernel
theorem dX12_feed_11 : decode cX12_feed 11 = .ok (.iadd, 1) := by decide +kernel
theorem dX12_feed_12 : decode cX12_feed 12 = .ok (.sipush 900, 3) := by decide +kernel
theorem dX12_feed_15 : decode cX12_feed 15 = .ok (.if_icmp .le 6, 3) := by decide +kernel
theorem dX12_feed_18 : decode cX12_feed 18 = .ok (.bipush (-5), 2) := by decide +kernel
theorem dX12_feed_20 : decode cX12_feed 20 = .ok (.ireturn, 1) := by decide +kernel
theorem dX12_feed_21 : decode cX12_feed 21 = .ok (.iconst 0, 1) := by decide +kernel
theorem dX12_feed_22 : decode cX12_feed 22 = .ok (.istore 6, 2) := by decide +kernel
theorem dX12_feed_24 : decode cX12_feed 24 = .ok (.iload 6, 2) := by decide +kernel
theorem dX12_feed_26 : decode cX12_feed 26 = .ok (.bipush 20, 2) := by decide +kernel
theorem dX12_feed_28 : decode cX12_feed 28 = .ok (.if_icmp .ge 93, 3) := by decide +kernel
theorem dX12_feed_31 : decode cX12_feed 31 = .ok (.iload 6, 2) := by decide +kernel
theorem dX12_feed_33 : decode cX12_feed 33 = .ok (.iconst 4, 1) := by decide +kernel
theorem dX12_feed_34 : decode cX12_feed 34 = .ok (.if_icmp .ge 7, 3) := by decide +kernel
theorem dX12_feed_37 : decode cX12_feed 37 = .ok (.iload_n 1, 1) := by decide +kernel
theorem dX12_feed_38 : decode cX12_feed 38 = .ok (.goto 39, 3) := by decide +kernel
theorem dX12_feed_41 : decode cX12_feed 41 = .ok (.iload 6, 2) := by decide +kernel
theorem dX12_feed_43 : decode cX12_feed 43 = .ok (.bipush 8, 2) := by decide +kernel
theorem dX12_feed_45 : decode cX12_feed 45 = .ok (.if_icmp .ge 7, 3) := by decide +kernel
theorem dX12_feed_48 : decode cX12_feed 48 = .ok (.iload_n 2, 1) := by decide +kernel
theorem dX12_feed_49 : decode cX12_feed 49 = .ok (.goto 28, 3) := by decide +kernel
theorem dX12_feed_52 : decode cX12_feed 52 = .ok (.iload 6, 2) := by decide +kernel
theorem dX12_feed_54 : decode cX12_feed 54 = .ok (.bipush 12, 2) := by decide +kernel
theorem dX12_feed_56 : decode cX12_feed 56 = .ok (.if_icmp .ge 7, 3) := by decide +kernel
theorem dX12_feed_59 : decode cX12_feed 59 = .ok (.iload_n 3, 1) := by decide +kernel
theorem dX12_feed_60 : decode cX12_feed 60 = .ok (.goto 17, 3) := by decide +kernel
theorem dX12_feed_63 : decode cX12_feed 63 = .ok (.iload 6, 2) := by decide +kernel
theorem dX12_feed_65 : decode cX12_feed 65 = .ok (.bipush 16, 2) := by decide +kernel
theorem dX12_feed_67 : decode cX12_feed 67 = .ok (.if_icmp .ge 8, 3) := by decide +kernel
theorem dX12_feed_70 : decode cX12_feed 70 = .ok (.iload 4, 2) := by decide +kernel
theorem dX12_feed_72 : decode cX12_feed 72 = .ok (.goto 5, 3) := by decide +kernel
theorem dX12_feed_75 : decode cX12_feed 75 = .ok (.iload 5, 2) := by decide +kernel
theorem dX12_feed_77 : decode cX12_feed 77 = .ok (.istore 7, 2) := by decide +kernel
theorem dX12_feed_79 : decode cX12_feed 79 = .ok (.aload_n 0, 1) := by decide +kernel
theorem dX12_feed_80 : decode cX12_feed 80 = .ok (.getfield 21, 3) := by decide +kernel
theorem dX12_feed_83 : decode cX12_feed 83 = .ok (.aload_n 0, 1) := by decide +kernel
theorem dX12_feed_84 : decode cX12_feed 84 = .ok (.getfield 71, 3) := by decide +kernel
theorem dX12_feed_87 : decode cX12_feed 87 = .ok (.iload 7, 2) := by decide +kernel
theorem dX12_feed_89 : decode cX12_feed 89 = .ok (.bipush 24, 2) := by decide +kernel
theorem dX12_feed_91 : decode cX12_feed 91 = .ok (.bipush 8, 2) := by decide +kernel
theorem dX12_feed_93 : decode cX12_feed 93 = .ok (.iload 6, 2) := by decide +kernel
theorem dX12_feed_95 : decode cX12_feed 95 = .ok (.iconst 4, 1) := by decide +kernel
theorem dX12_feed_96 : decode cX12_feed 96 = .ok (.irem, 1) := by decide +kernel
theorem dX12_feed_97 : decode cX12_feed 97 = .ok (.imul, 1) := by decide +kernel
theorem dX12_feed_98 : decode cX12_feed 98 = .ok (.isub, 1) := by decide +kernel
theorem dX12_feed_99 : decode cX12_feed 99 = .ok (.ishr, 1) := by decide +kernel
theorem dX12_feed_100 : decode cX12_feed 100 = .ok (.sipush 255, 3) := by decide +kernel
theorem dX12_feed_103 : decode cX12_feed 103 = .ok (.iand, 1) := by decide +kernel
theorem dX12_feed_104 : decode cX12_feed 104 = .ok (.iastore, 1) := by decide +kernel
theorem dX12_feed_105 : decode cX12_feed 105 = .ok (.aload_n 0, 1) := by decide +kernel
theorem dX12_feed_106 : decode cX12_feed 106 = .ok (.dup, 1) := by decide +kernel
theorem dX12_feed_107 : decode cX12_feed 107 = .ok (.getfield 71, 3) := by decide +kernel
theorem dX12_feed_110 : decode cX12_feed 110 = .ok (.iconst 1, 1) := by decide +kernel
theorem dX12_feed_111 : decode cX12_feed 111 = .ok (.iadd, 1) := by decide +kernel
theorem dX12_feed_112 : decode cX12_feed 112 = .ok (.putfield 71, 3) := by decide +kernel
theorem dX12_feed_115 : decode cX12_feed 115 = .ok (.iinc 6 1, 3) := by decide +kernel
theorem dX12_feed_118 : decode cX12_feed 118 = .ok (.goto (-94), 3) := by decide +kernel
theorem dX12_feed_121 : decode cX12_feed 121 = .ok (.aload_n 0, 1) := by decide +kernel
theorem dX12_feed_122 : decode cX12_feed 122 = .ok (.getfield 71, 3) := by decide +kernel
theorem dX12_feed_125 : decode cX12_feed 125 = .ok (.ireturn, 1) := by decide +kernel
set_option maxRecDepth 100000 in
set_option maxHeartbeats 4000000 in
theorem v_X12_feed_b77 {l : Launch} {p : Program} {e : Env} {s : State} {mt : MethodId} {args : Array Value} {below : List Frame} {meth : Method} {c : Code} {A : Nat → Prop} {ad0 : Nat → Nat} {G : Gt}  (C : Cx G p s mt args meth c RX12 cX12_feed 8 (some .int) "feed" A) (k24 : Int32 → Int32 → Int32 → Int32 → Int32 → Int32 → Mem → Option (Int32 × Mem)) (h24 : ∀ (y1 : Int32) (y2 : Int32) (y3 : Int32) (y4 : Int32) (y5 : Int32) (y6 : Int32) (m : Mem), V G SM oI l p e s mt args below meth c 8 1 A ad0 17 17 RM 17 RM 24 [(0, .ref 0), (1, .int y1), (2, .int y2), (3, .int y3), (4, .int y4), (5, .int y5), (6, .int y6)] [] m (k24 y1 y2 y3 y4 y5 y6 m)) (y1 : Int32) (y2 : Int32) (y3 : Int32) (y4 : Int32) (y5 : Int32) (y6 : Int32) (z0 : Int32) (m : Mem) : V G SM oI l p e s mt args below meth c 8 1 A ad0 17 17 RM 17 RM 77 [(0, .ref 0), (1, .int y1), (2, .int y2), (3, .int y3), (4, .int y4), (5, .int y5), (6, .int y6)] [.int z0] m (X12_feed_b77 k24 y1 y2 y3 y4 y5 y6 z0 m) := by
  rw [X12_feed_b77]
  refine V.istore (pc := 77) C dX12_feed_77 (L2 := [(7, .int z0), (0, .ref 0), (1, .int y1), (2, .int y2), (3, .int y3), (4, .int y4), (5, .int y5), (6, .int y6)]) (by decide) rfl ?_
  refine V.aload_n (pc := 79) C dX12_feed_79 1 rfl ?_
  refine V.getr (pc := 80) C fl_RX12_21 sM0 kM0 rfl rM0_3 dX12_feed_80 ?_
  refine V.aload_n (pc := 83) C dX12_feed_83 1 rfl ?_
  refine V.geti (pc := 84) C fl_RX12_71 sM0 kM0 rfl dX12_feed_84 ?_
  refine V.iload (pc := 87) C dX12_feed_87 0 rfl ?_
  refine V.bipush (pc := 89) C dX12_feed_89 (v := 24) (by decide) ?_
  refine V.bipush (pc := 91) C dX12_feed_91 (v := 8) (by decide) ?_
  refine V.iload (pc := 93) C dX12_feed_93 7 rfl ?_
  refine V.iconst (pc := 95) C dX12_feed_95 (v := 4) (by decide) ?_
  refine V.irem (pc := 96) C dX12_feed_96 (by decide) ?_
  refine V.imul (pc := 97) C dX12_feed_97 ?_
  refine V.isub (pc := 98) C dX12_feed_98 ?_
  refine V.ishr (pc := 99) C dX12_feed_99 ?_
  refine V.sipush (pc := 100) C dX12_feed_100 (v := 255) (by decide) ?_
  refine V.iand (pc := 103) C dX12_feed_103 ?_
  refine V.iast (pc := 104) C sM3 kM3 dX12_feed_104 (fun _ => ?_)
  refine V.ltm (fun m_2 => ?_)
  refine V.aload_n (pc := 105) C dX12_feed_105 1 rfl ?_
  refine V.dup (pc := 106) C dX12_feed_106 rfl ?_
  refine V.geti (pc := 107) C fl_RX12_71 sM0 kM0 rfl dX12_feed_107 ?_
  refine V.iconst (pc := 110) C dX12_feed_110 (v := 1) (by decide) ?_
  refine V.iadd (pc := 111) C dX12_feed_111 ?_
  refine V.puti (pc := 112) C fp_RX12_71 sM0 kM0 rfl dX12_feed_112 ?_
  refine V.ltm (fun m_3 => ?_)
  refine V.iinc (pc := 115) C dX12_feed_115 (v := 1) (L2 := [(6, .int (y6 + 1)), (7, .int z0), (0, .ref 0), (1, .int y1), (2, .int y2), (3, .int y3), (4, .int y4), (5, .int y5)]) 7 rfl (by decide) (by decide) rfl ?_
  refine V.goto (pc := 118) C dX12_feed_118 24 (by decide) ?_
  refine V.wk [2, 3, 4, 5, 6, 7, 0] rfl ?_
  exact h24 y1 y2 y3 y4 y5 (y6 + 1) m_3
set_option maxRecDepth 100000 in
set_option maxHeartbeats 4000000 in
theorem v_X12_feed_b24 {l : Launch} {p : Program} {e : Env} {s : State} {mt : MethodId} {args : Array Value} {below : List Frame} {meth : Method} {c : Code} {A : Nat → Prop} {ad0 : Nat → Nat} {G : Gt}  (C : Cx G p s mt args meth c RX12 cX12_feed 8 (some .int) "feed" A)  : ∀ (n : Nat) (y1 : Int32) (y2 : Int32) (y3 : Int32) (y4 : Int32) (y5 : Int32) (y6 : Int32) (m : Mem), V G SM oI l p e s mt args below meth c 8 1 A ad0 17 17 RM 17 RM 24 [(0, .ref 0), (1, .int y1), (2, .int y2), (3, .int y3), (4, .int y4), (5, .int y5), (6, .int y6)] [] m (X12_feed_b24  n y1 y2 y3 y4 y5 y6 m) := by
  intro n
  induction n with
  | zero =>
    intro y1 y2 y3 y4 y5 y6 m
    rw [X12_feed_b24]
    exact V.nil
  | succ n ih =>
    intro y1 y2 y3 y4 y5 y6 m
    rw [X12_feed_b24]
    refine V.iload (pc := 24) C dX12_feed_24 6 rfl ?_
    refine V.bipush (pc := 26) C dX12_feed_26 (v := 20) (by decide) ?_
    refine V.icmp_ge (pc := 28) C dX12_feed_28 121 (by decide) (fun _ => ?_) (fun _ => ?_)
    · refine V.aload_n (pc := 121) C dX12_feed_121 0 rfl ?_
      refine V.geti (pc := 122) C fl_RX12_71 sM0 kM0 rfl dX12_feed_122 ?_
      exact V.iret C dX12_feed_125
    · refine V.iload (pc := 31) C dX12_feed_31 6 rfl ?_
      refine V.iconst (pc := 33) C dX12_feed_33 (v := 4) (by decide) ?_
      refine V.icmp_ge (pc := 34) C dX12_feed_34 41 (by decide) (fun _ => ?_) (fun _ => ?_)
      · refine V.iload (pc := 41) C dX12_feed_41 6 rfl ?_
        refine V.bipush (pc := 43) C dX12_feed_43 (v := 8) (by decide) ?_
        refine V.icmp_ge (pc := 45) C dX12_feed_45 52 (by decide) (fun _ => ?_) (fun _ => ?_)
        · refine V.iload (pc := 52) C dX12_feed_52 6 rfl ?_
          refine V.bipush (pc := 54) C dX12_feed_54 (v := 12) (by decide) ?_
          refine V.icmp_ge (pc := 56) C dX12_feed_56 63 (by decide) (fun _ => ?_) (fun _ => ?_)
          · refine V.iload (pc := 63) C dX12_feed_63 6 rfl ?_
            refine V.bipush (pc := 65) C dX12_feed_65 (v := 16) (by decide) ?_
            refine V.icmp_ge (pc := 67) C dX12_feed_67 75 (by decide) (fun _ => ?_) (fun _ => ?_)
            · refine V.iload (pc := 75) C dX12_feed_75 5 rfl ?_
              refine V.wk [0, 1, 2, 3, 4, 5, 6] rfl ?_
              exact v_X12_feed_b77 C (X12_feed_b24 n) ih y1 y2 y3 y4 y5 y6 y5 m
            · refine V.iload (pc := 70) C dX12_feed_70 4 rfl ?_
              refine V.goto (pc := 72) C dX12_feed_72 77 (by decide) ?_
              refine V.wk [0, 1, 2, 3, 4, 5, 6] rfl ?_
              exact v_X12_feed_b77 C (X12_feed_b24 n) ih y1 y2 y3 y4 y5 y6 y4 m
          · refine V.iload_n (pc := 59) C dX12_feed_59 3 rfl ?_
            refine V.goto (pc := 60) C dX12_feed_60 77 (by decide) ?_
            refine V.wk [0, 1, 2, 3, 4, 5, 6] rfl ?_
            exact v_X12_feed_b77 C (X12_feed_b24 n) ih y1 y2 y3 y4 y5 y6 y3 m
        · refine V.iload_n (pc := 48) C dX12_feed_48 2 rfl ?_
          refine V.goto (pc := 49) C dX12_feed_49 77 (by decide) ?_
          refine V.wk [0, 1, 2, 3, 4, 5, 6] rfl ?_
          exact v_X12_feed_b77 C (X12_feed_b24 n) ih y1 y2 y3 y4 y5 y6 y2 m
      · refine V.iload_n (pc := 37) C dX12_feed_37 1 rfl ?_
        refine V.goto (pc := 38) C dX12_feed_38 77 (by decide) ?_
        refine V.wk [0, 1, 2, 3, 4, 5, 6] rfl ?_
        exact v_X12_feed_b77 C (X12_feed_b24 n) ih y1 y2 y3 y4 y5 y6 y1 m
set_option maxRecDepth 100000 in
set_option maxHeartbeats 4000000 in
theorem v_X12_feed {l : Launch} {p : Program} {e : Env} {s : State} {mt : MethodId} {args : Array Value} {below : List Frame} {meth : Method} {c : Code} {A : Nat → Prop} {ad0 : Nat → Nat} {G : Gt}  (C : Cx G p s mt args meth c RX12 cX12_feed 8 (some .int) "feed" A)  (x1 : Int32) (x2 : Int32) (x3 : Int32) (x4 : Int32) (x5 : Int32) (m : Mem) : V G SM oI l p e s mt args below meth c 8 1 A ad0 17 17 RM 17 RM 0 [(0, .ref 0), (1, .int x1), (2, .int x2), (3, .int x3), (4, .int x4), (5, .int x5)] [] m (X12_feed  x1 x2 x3 x4 x5 m) := by
  rw [X12_feed]
  refine V.aload_n (pc := 0) C dX12_feed_0 0 rfl ?_
  refine V.iconst (pc := 1) C dX12_feed_1 (v := 0) (by decide) ?_
  refine V.puti (pc := 2) C fp_RX12_1 sM0 kM0 rfl dX12_feed_2 ?_
  refine V.ltm (fun m_1 => ?_)
  refine V.aload_n (pc := 5) C dX12_feed_5 0 rfl ?_
  refine V.geti (pc := 6) C fl_RX12_71 sM0 kM0 rfl dX12_feed_6 ?_
  refine V.bipush (pc := 9) C dX12_feed_9 (v := 20) (by decide) ?_
  refine V.iadd (pc := 11) C dX12_feed_11 ?_
  refine V.sipush (pc := 12) C dX12_feed_12 (v := 900) (by decide) ?_
  refine V.icmp_le (pc := 15) C dX12_feed_15 21 (by decide) (fun _ => ?_) (fun _ => ?_)
  · refine V.iconst (pc := 21) C dX12_feed_21 (v := 0) (by decide) ?_
    refine V.istore (pc := 22) C dX12_feed_22 (L2 := [(6, .int 0), (0, .ref 0), (1, .int x1), (2, .int x2), (3, .int x3), (4, .int x4), (5, .int x5)]) (by decide) rfl ?_
    refine V.wk [1, 2, 3, 4, 5, 6, 0] rfl ?_
    exact v_X12_feed_b24 C  FU x1 x2 x3 x4 x5 0 m_1
  · refine V.bipush (pc := 18) C dX12_feed_18 (v := (-5)) (by decide) ?_
    exact V.iret C dX12_feed_20
theorem c_X12_feed (l : Launch)   (x1 : Int32) (x2 : Int32) (x3 : Int32) (x4 : Int32) (x5 : Int32) (m : Mem) : Ct l yX12_feed cX12_feed 8 (some .int) 1 SM oI 17 17 RM RM [.ref 0, .int x1, .int x2, .int x3, .int x4, .int x5] m (X12_feed  x1 x2 x3 x4 x5 m) :=
  Ct.of (own := RX12) (nm := "feed") (by decide) rfl rfl (Nat.le_of_ble_eq_true rfl) (fun _ _ _ _ _ _ _ _ _ _ _ C => v_X12_feed C  x1 x2 x3 x4 x5 m)
