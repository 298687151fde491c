theorem dX12_see_0 : decode cX12_see 0 = .ok (.iload_n 1, 1) := by decide +kernel
theorem dX12_see_1 : decode cX12_see 1 = .ok (.aload_n 0, 1) := by decide +kernel
theorem dX12_see_2 : decode cX12_see 2 = .ok (.getfield 74, 3) := by decide +kernel
theorem dX12_see_5 : decode cX12_see 5 = .ok (.if_icmp .ge 12, 3) := by decide +kernel
theorem dX12_see_8 : decode cX12_see 8 = .ok (.aload_n 0, 1) := by decide +kernel
theorem dX12_see_9 : decode cX12_see 9 = .ok (.getfield 21, 3) := by decide +kernel
theorem dX12_see_12 : decode cX12_see 12 = .ok (.iload_n 1, 1) := by decide +kernel
theorem dX12_see_13 : decode cX12_see 13 = .ok (.iaload, 1) := by decide +kernel
theorem dX12_see_14 : decode cX12_see 14 = .ok (.goto 4, 3) := by decide +kernel
theorem dX12_see_17 : decode cX12_see 17 = .ok (.iconst (-1), 1) := by decide +kernel
theorem dX12_see_18 : decode cX12_see 18 = .ok (.ireturn, 1) := by decide +kernel
set_option maxRecDepth 100000 in
set_option maxHeartbeats 4000000 in
theorem v_X12_see {l : Launch} {p : Program} {e : Env} {s : State} {mt : MethodId} {args : Array Value} {below : List Frame} {meth : Method} {c : Code} {A : Nat → Prop} {ad0 : Nat → Nat} {G : Gt}  (C : Cx G p s mt args meth c RX12 cX12_see 2 (some .int) "see" A)  (x1 : Int32) (m : Mem) : V G SM oI l p e s mt args below meth c 2 1 A ad0 17 17 RM 17 RM 0 [(0, .ref 0), (1, .int x1)] [] m (X12_see  x1 m) := by
  rw [X12_see]
  refine V.iload_n (pc := 0) C dX12_see_0 1 rfl ?_
  refine V.aload_n (pc := 1) C dX12_see_1 0 rfl ?_
  refine V.geti (pc := 2) C fl_RX12_74 sM0 kM0 rfl dX12_see_2 ?_
  refine V.icmp_ge (pc := 5) C dX12_see_5 17 (by decide) (fun _ => ?_) (fun _ => ?_)
  · refine V.iconst (pc := 17) C dX12_see_17 (v := (-1)) (by decide) ?_
    exact V.iret C dX12_see_18
  · refine V.aload_n (pc := 8) C dX12_see_8 0 rfl ?_
    refine V.getr (pc := 9) C fl_RX12_21 sM0 kM0 rfl rM0_3 dX12_see_9 ?_
    refine V.iload_n (pc := 12) C dX12_see_12 1 rfl ?_
    refine V.iald (pc := 13) C sM3 kM3 dX12_see_13 (fun _ => ?_)
    refine V.goto (pc := 14) C dX12_see_14 18 (by decide) ?_
    exact V.iret C dX12_see_18
theorem c_X12_see (l : Launch)   (x1 : Int32) (m : Mem) : Ct l yX12_see cX12_see 2 (some .int) 1 SM oI 17 17 RM RM [.ref 0, .int x1] m (X12_see  x1 m) :=
  Ct.of (own := RX12) (nm := "see") (by decide) rfl rfl (Nat.le_of_ble_eq_true rfl) (fun _ _ _ _ _ _ _ _ _ _ _ C => v_X12_see C  x1 m)
theorem dX12_isSmall_0 : decode cX12_isSmall 0 = .ok (.iload_n 0, 1) := by decide +kernel
theorem dX12_isSmall_1 : decode cX12_isSmall 1 = .ok (.bipush 97, 2) := by decide +kernel
theorem dX12_isSmall_3 : decode cX12_isSmall 3 = .ok (.if_icmp .lt 13, 3) := by decide +kernel
theorem dX12_isSmall_6 : decode cX12_isSmall 6 = .ok (.iload_n 0, 1) := by decide +kernel
theorem dX12_isSmall_7 : decode cX12_isSmall 7 = .ok (.bipush 122, 2) := by decide +kernel
theorem dX12_isSmall_9 : decode cX12_isSmall 9 = .ok (.if_icmp .gt 7, 3) := by decide +kernel
theorem dX12_isSmall_12 : decode cX12_isSmall 12 = .ok (.iconst 1, 1) := by decide +kernel
theorem dX12_isSmall_13 : decode cX12_isSmall 13 = .ok (.goto 4, 3) := by decide +kernel
theorem dX12_isSmall_16 : decode cX12_isSmall 16 = .ok (.iconst 0, 1) := by decide +kernel
theorem dX12_isSmall_17 : decode cX12_isSmall 17 = .ok (.ireturn, 1) := by decide +kernel
set_option maxRecDepth 100000 in
set_option maxHeartbeats 4000000 in
theorem v_X12_isSmall {l : Launch} {p : Program} {e : Env} {s : State} {mt : MethodId} {args : Array Value} {below : List Frame} {meth : Method} {c : Code} {A : Nat → Prop} {ad0 : Nat → Nat} {G : Gt}  (C : Cx G p s mt args meth c RX12 cX12_isSmall 1 (some .boolean) "isSmall" A)  (x1 : Int32) (m : Mem) : V G SM oI l p e s mt args below meth c 1 1 A ad0 17 17 RM 17 RM 0 [(0, .int x1)] [] m (X12_isSmall  x1 m) := by
  rw [X12_isSmall]
  refine V.iload_n (pc := 0) C dX12_isSmall_0 0 rfl ?_
  refine V.bipush (pc := 1) C dX12_isSmall_1 (v := 97) (by decide) ?_
  refine V.icmp_lt (pc := 3) C dX12_isSmall_3 16 (by decide) (fun _ => ?_) (fun _ => ?_)
  · refine V.iconst (pc := 16) C dX12_isSmall_16 (v := 0) (by decide) ?_
    exact V.zret rfl C dX12_isSmall_17
  · refine V.iload_n (pc := 6) C dX12_isSmall_6 0 rfl ?_
    refine V.bipush (pc := 7) C dX12_isSmall_7 (v := 122) (by decide) ?_
    refine V.icmp_gt (pc := 9) C dX12_isSmall_9 16 (by decide) (fun _ => ?_) (fun _ => ?_)
    · refine V.iconst (pc := 16) C dX12_isSmall_16 (v := 0) (by decide) ?_
      exact V.zret rfl C dX12_isSmall_17
    · refine V.iconst (pc := 12) C dX12_isSmall_12 (v := 1) (by decide) ?_
      refine V.goto (pc := 13) C dX12_isSmall_13 17 (by decide) ?_
      exact V.zret rfl C dX12_isSmall_17
theorem c_X12_isSmall (l : Launch)   (x1 : Int32) (m : Mem) : Ct l yX12_isSmall cX12_isSmall 1 (some .boolean) 1 SM oI 17 17 RM RM [.int x1] m (X12_isSmall  x1 m) :=
  Ct.of (own := RX12) (nm := "isSmall") (by decide) rfl rfl (Nat.le_of_ble_eq_true rfl) (fun _ _ _ _ _ _ _ _ _ _ _ C => v_X12_isSmall C  x1 m)
theorem dX12_keyAt_0 : decode cX12_keyAt 0 = .ok (.iconst 0, 1) := by decide +kernel
theorem dX12_keyAt_1 : decode cX12_keyAt 1 = .ok (.istore_n 1, 1) := by decide +kernel
theorem dX12_keyAt_2 : decode cX12_keyAt 2 = .ok (.iconst 1, 1) := by decide +kernel
theorem dX12_keyAt_3 : decode cX12_keyAt 3 = .ok (.istore_n 2, 1) := by decide +kernel
theorem dX12_keyAt_4 : decode cX12_keyAt 4 = .ok (.iload_n 2, 1) := by decide +kernel
theorem dX12_keyAt_5 : decode cX12_keyAt 5 = .ok (.ldc 77, 2) := by decide +kernel
theorem dX12_keyAt_7 : decode cX12_keyAt 7 = .ok (.invokevirtual 79, 3) := by decide +kernel
theorem dX12_keyAt_10 : decode cX12_keyAt 10 = .ok (.if_icmp .ge 113, 3) := by decide +kernel
theorem dX12_keyAt_13 : decode cX12_keyAt 13 = .ok (.iconst 0, 1) := by decide +kernel
theorem dX12_keyAt_14 : decode cX12_keyAt 14 = .ok (.istore_n 3, 1) := by decide +kernel
theorem dX12_keyAt_15 : decode cX12_keyAt 15 = .ok (.ldc 77, 2) := by decide +kernel
theorem dX12_keyAt_17 : decode cX12_keyAt 17 = .ok (.iload_n 2, 1) := by decide +kernel
theorem dX12_keyAt_18 : decode cX12_keyAt 18 = .ok (.iload_n 3, 1) := by decide +kernel
theorem dX12_keyAt_19 : decode cX12_keyAt 19 = .ok (.iadd, 1) := by decide +kernel
theorem dX12_keyAt_20 : decode cX12_keyAt 20 = .ok (.invokevirtual 85, 3) := by decide +kernel
theorem dX12_keyAt_23 : decode cX12_keyAt 23 = .ok (.bipush 32, 2) := by decide +kernel
theorem dX12_keyAt_25 : decode cX12_keyAt 25 = .ok (.if_icmp .eq 44, 3) := by decide +kernel
theorem dX12_keyAt_28 : decode cX12_keyAt 28 = .ok (.aload_n 0, 1) := by decide +kernel
theorem dX12_keyAt_29 : decode cX12_keyAt 29 = .ok (.getfield 89, 3) := by decide +kernel
theorem dX12_keyAt_32 : decode cX12_keyAt 32 = .ok (.iload_n 3, 1) := by decide +kernel
theorem dX12_keyAt_33 : decode cX12_keyAt 33 = .ok (.iadd, 1) := by decide +kernel
theorem dX12_keyAt_34 : decode cX12_keyAt 34 = .ok (.aload_n 0, 1) := by decide +kernel
theorem dX12_keyAt_35 : decode cX12_keyAt 35 = .ok (.getfield 92, 3) := by decide +kernel
theorem dX12_keyAt_38 : decode cX12_keyAt 38 = .ok (.if_icmp .ge 31, 3) := by decide +kernel
theorem dX12_keyAt_41 : decode cX12_keyAt 41 = .ok (.aload_n 0, 1) := by decide +kernel
theorem dX12_keyAt_42 : decode cX12_keyAt 42 = .ok (.getfield 21, 3) := by decide +kernel
theorem dX12_keyAt_45 : decode cX12_keyAt 45 = .ok (.aload_n 0, 1) := by decide +kernel
theorem dX12_keyAt_46 : decode cX12_keyAt 46 = .ok (.getfield 89, 3) := by decide +kernel
theorem dX12_keyAt_49 : decode cX12_keyAt 49 = .ok (.iload_n 3, 1) := by decide +kernel
theorem dX12_keyAt_50 : decode cX12_keyAt 50 = .ok (.iadd, 1) := by decide +kernel
theorem dX12_keyAt_51 : decode cX12_keyAt 51 = .ok (.iaload, 1) := by decide +kernel
theorem dX12_keyAt_52 : decode cX12_keyAt 52 = .ok (.ldc 77, 2) := by decide +kernel
theorem dX12_keyAt_54 : decode cX12_keyAt 54 = .ok (.iload_n 2, 1) := by decide +kernel
theorem dX12_keyAt_55 : decode cX12_keyAt 55 = .ok (.iload_n 3, 1) := by decide +kernel
theorem dX12_keyAt_56 : decode cX12_keyAt 56 = .ok (.iadd, 1) := by decide +kernel
theorem dX12_keyAt_57 : decode cX12_keyAt 57 = .ok (.invokevirtual 85, 3) := by decide +kernel
theorem dX12_keyAt_60 : decode cX12_keyAt 60 = .ok (.if_icmp .ne 9, 3) := by decide +kernel
theorem dX12_keyAt_63 : decode cX12_keyAt 63 = .ok (.iinc 3 1, 3) := by decide +kernel
theorem dX12_keyAt_66 : decode cX12_keyAt 66 = .ok (.goto (-51), 3) := by decide +kernel
theorem dX12_keyAt_69 : decode cX12_keyAt 69 = .ok (.ldc 77, 2) := by decide +kernel
theorem dX12_keyAt_71 : decode cX12_keyAt 71 = .ok (.iload_n 2, 1) := by decide +kernel
theorem dX12_keyAt_72 : decode cX12_keyAt 72 = .ok (.iload_n 3, 1) := by decide +kernel
theorem dX12_keyAt_73 : decode cX12_keyAt 73 = .ok (.iadd, 1) := by decide +kernel
theorem dX12_keyAt_74 : decode cX12_keyAt 74 = .ok (.invokevirtual 85, 3) := by decide +kernel
theorem dX12_keyAt_77 : decode cX12_keyAt 77 = .ok (.bipush 32, 2) := by decide +kernel
theorem dX12_keyAt_79 : decode cX12_keyAt 79 = .ok (.if_icmp .ne 18, 3) := by decide +kernel
theorem dX12_keyAt_82 : decode cX12_keyAt 82 = .ok (.aload_n 0, 1) := by decide +kernel
theorem dX12_keyAt_83 : decode cX12_keyAt 83 = .ok (.getfield 89, 3) := by decide +kernel
theorem dX12_keyAt_86 : decode cX12_keyAt 86 = .ok (.iload_n 3, 1) := by decide +kernel
theorem dX12_keyAt_87 : decode cX12_keyAt 87 = .ok (.iadd, 1) := by decide +kernel
theorem dX12_keyAt_88 : decode cX12_keyAt 88 = .ok (.aload_n 0, 1) := by decide +kernel
theorem dX12_keyAt_89 : decode cX12_keyAt 89 = .ok (.getfield 92, 3) := by decide +kernel
theorem dX12_keyAt_92 : decode cX12_keyAt 92 = .ok (.if_icmp .ne 5, 3) := by decide +kernel
theorem dX12_keyAt_95 : decode cX12_keyAt 95 = .ok (.iload_n 1, 1) := by decide +kernel
theorem dX12_keyAt_96 : decode cX12_keyAt 96 = .ok (.ireturn, 1) := by decide +kernel
theorem dX12_keyAt_97 : decode cX12_keyAt 97 = .ok (.ldc 77, 2) := by decide +kernel
theorem dX12_keyAt_99 : decode cX12_keyAt 99 = .ok (.iload_n 2, 1) := by decide +kernel
theorem dX12_keyAt_100 : decode cX12_keyAt 100 = .ok (.invokevirtual 85, 3) := by decide +kernel
theorem dX12_keyAt_103 : decode cX12_keyAt 103 = .ok (.bipush 32, 2) := by decide +kernel
theorem dX12_keyAt_105 : decode cX12_keyAt 105 = .ok (.if_icmp .eq 9, 3) := by decide +kernel
theorem dX12_keyAt_108 : decode cX12_keyAt 108 = .ok (.iinc 2 1, 3) := by decide +kernel
theorem dX12_keyAt_111 : decode cX12_keyAt 111 = .ok (.goto (-14), 3) := by decide +kernel
theorem dX12_keyAt_114 : decode cX12_keyAt 114 = .ok (.iinc 2 1, 3) := by decide +kernel
theorem dX12_keyAt_117 : decode cX12_keyAt 117 = .ok (.iinc 1 1, 3) := by decide +kernel
theorem dX12_keyAt_120 : decode cX12_keyAt 120 = .ok (.goto (-116), 3) := by decide +kernel
theorem dX12_keyAt_123 : decode cX12_keyAt 123 = .ok (.bipush 22, 2) := by decide +kernel
theorem dX12_keyAt_125 : decode cX12_keyAt 125 = .ok (.ireturn, 1) := by decide +kernel
set_option maxRecDepth 100000 in
set_option maxHeartbeats 4000000 in
theorem v_X12_keyAt_b97 {l : Launch} {p : Program} {e : Env} {s : State} {mt : MethodId} {args : Array Value} {below : List Frame} {meth : Method} {c : Code} {A : Nat → Prop} {ad0 : Nat → Nat} {G : Gt}  (C : Cx G p s mt args meth c RX12 cX12_keyAt 4 (some .int) "keyAt" A) (k4 : Int32 → Int32 → Mem → Option (Int32 × Mem)) (h4 : ∀ (y1 : Int32) (y2 : Int32) (m : Mem), V G SM oI l p e s mt args below meth c 4 5 A ad0 17 17 RM 17 RM 4 [(0, .ref 0), (1, .int y1), (2, .int y2)] [] m (k4 y1 y2 m)) : ∀ (n : Nat) (y1 : Int32) (y2 : Int32) (m : Mem), V G SM oI l p e s mt args below meth c 4 5 A ad0 17 17 RM 17 RM 97 [(0, .ref 0), (1, .int y1), (2, .int y2)] [] m (X12_keyAt_b97 k4 n y1 y2 m) := by
  intro n
  induction n with
  | zero =>
    intro y1 y2 m
    rw [X12_keyAt_b97]
    exact V.nil
  | succ n ih =>
    intro y1 y2 m
    rw [X12_keyAt_b97]
    refine V.ldcs (pc := 97) (k := 21) C (by decide) (by decide) dX12_keyAt_97 ?_
    refine V.iload_n (pc := 99) C dX12_keyAt_99 2 rfl ?_
    refine V.callT (pc := 100) (st := []) C (c_J0_charAt_5068e l 21 (by decide) y2 m) obI ck_J0_charAt_5068e ml_RX12_85 rfl (by decide) rfl rfl (Nat.le_of_ble_eq_true rfl) ⟨by decide, by decide⟩ dX12_keyAt_100 (fun r_7 m_8 _ => ?_)
    refine V.bipush (pc := 103) C dX12_keyAt_103 (v := 32) (by decide) ?_
    refine V.icmp_eq (pc := 105) C dX12_keyAt_105 114 (by decide) (fun _ => ?_) (fun _ => ?_)
    · refine V.iinc (pc := 114) C dX12_keyAt_114 (v := 1) (L2 := [(2, .int (y2 + 1)), (0, .ref 0), (1, .int y1)]) 2 rfl (by decide) (by decide) rfl ?_
      refine V.iinc (pc := 117) C dX12_keyAt_117 (v := 1) (L2 := [(1, .int (y1 + 1)), (2, .int (y2 + 1)), (0, .ref 0)]) 2 rfl (by decide) (by decide) rfl ?_
      refine V.goto (pc := 120) C dX12_keyAt_120 4 (by decide) ?_
      refine V.wk [2, 0, 1] rfl ?_
      exact h4 (y1 + 1) (y2 + 1) m_8
    · refine V.iinc (pc := 108) C dX12_keyAt_108 (v := 1) (L2 := [(2, .int (y2 + 1)), (0, .ref 0), (1, .int y1)]) 2 rfl (by decide) (by decide) rfl ?_
      refine V.goto (pc := 111) C dX12_keyAt_111 97 (by decide) ?_
      refine V.wk [1, 2, 0] rfl ?_
      exact ih y1 (y2 + 1) m_8
set_option maxRecDepth 100000 in
set_option maxHeartbeats 4000000 in
theorem v_X12_keyAt_b69 {l : Launch} {p : Program} {e : Env} {s : State} {mt : MethodId} {args : Array Value} {below : List Frame} {meth : Method} {c : Code} {A : Nat → Prop} {ad0 : Nat → Nat} {G : Gt}  (C : Cx G p s mt args meth c RX12 cX12_keyAt 4 (some .int) "keyAt" A) (k4 : Int32 → Int32 → Mem → Option (Int32 × Mem)) (h4 : ∀ (y1 : Int32) (y2 : Int32) (m : Mem), V G SM oI l p e s mt args below meth c 4 5 A ad0 17 17 RM 17 RM 4 [(0, .ref 0), (1, .int y1), (2, .int y2)] [] m (k4 y1 y2 m)) (y1 : Int32) (y2 : Int32) (y3 : Int32) (m : Mem) : V G SM oI l p e s mt args below meth c 4 5 A ad0 17 17 RM 17 RM 69 [(0, .ref 0), (1, .int y1), (2, .int y2), (3, .int y3)] [] m (X12_keyAt_b69 k4 y1 y2 y3 m) := by
  rw [X12_keyAt_b69]
  refine V.ldcs (pc := 69) (k := 21) C (by decide) (by decide) dX12_keyAt_69 ?_
  refine V.iload_n (pc := 71) C dX12_keyAt_71 2 rfl ?_
  refine V.iload_n (pc := 72) C dX12_keyAt_72 3 rfl ?_
  refine V.iadd (pc := 73) C dX12_keyAt_73 ?_
  refine V.callT (pc := 74) (st := []) C (c_J0_charAt_5068e l 21 (by decide) (y2 + y3) m) obI ck_J0_charAt_5068e ml_RX12_85 rfl (by decide) rfl rfl (Nat.le_of_ble_eq_true rfl) ⟨by decide, by decide⟩ dX12_keyAt_74 (fun r_5 m_6 _ => ?_)
  refine V.bipush (pc := 77) C dX12_keyAt_77 (v := 32) (by decide) ?_
  refine V.icmp_ne (pc := 79) C dX12_keyAt_79 97 (by decide) (fun _ => ?_) (fun _ => ?_)
  · refine V.wk [0, 1, 2] rfl ?_
    exact v_X12_keyAt_b97 C k4 h4 FU y1 y2 m_6
  · refine V.aload_n (pc := 82) C dX12_keyAt_82 0 rfl ?_
    refine V.geti (pc := 83) C fl_RX12_89 sM0 kM0 rfl dX12_keyAt_83 ?_
    refine V.iload_n (pc := 86) C dX12_keyAt_86 3 rfl ?_
    refine V.iadd (pc := 87) C dX12_keyAt_87 ?_
    refine V.aload_n (pc := 88) C dX12_keyAt_88 0 rfl ?_
    refine V.geti (pc := 89) C fl_RX12_92 sM0 kM0 rfl dX12_keyAt_89 ?_
    refine V.icmp_ne (pc := 92) C dX12_keyAt_92 97 (by decide) (fun _ => ?_) (fun _ => ?_)
    · refine V.wk [0, 1, 2] rfl ?_
      exact v_X12_keyAt_b97 C k4 h4 FU y1 y2 m_6
    · refine V.iload_n (pc := 95) C dX12_keyAt_95 1 rfl ?_
      exact V.iret C dX12_keyAt_96
set_option maxRecDepth 100000 in
set_option maxHeartbeats 4000000 in
theorem v_X12_keyAt_b15 {l : Launch} {p : Program} {e : Env} {s : State} {mt : MethodId} {args : Array Value} {below : List Frame} {meth : Method} {c : Code} {A : Nat → Prop} {ad0 : Nat → Nat} {G : Gt}  (C : Cx G p s mt args meth c RX12 cX12_keyAt 4 (some .int) "keyAt" A) (k4 : Int32 → Int32 → Mem → Option (Int32 × Mem)) (h4 : ∀ (y1 : Int32) (y2 : Int32) (m : Mem), V G SM oI l p e s mt args below meth c 4 5 A ad0 17 17 RM 17 RM 4 [(0, .ref 0), (1, .int y1), (2, .int y2)] [] m (k4 y1 y2 m)) : ∀ (n : Nat) (y1 : Int32) (y2 : Int32) (y3 : Int32) (m : Mem), V G SM oI l p e s mt args below meth c 4 5 A ad0 17 17 RM 17 RM 15 [(0, .ref 0), (1, .int y1), (2, .int y2), (3, .int y3)] [] m (X12_keyAt_b15 k4 n y1 y2 y3 m) := by
  intro n
  induction n with
  | zero =>
    intro y1 y2 y3 m
    rw [X12_keyAt_b15]
    exact V.nil
  | succ n ih =>
    intro y1 y2 y3 m
    rw [X12_keyAt_b15]
    refine V.ldcs (pc := 15) (k := 21) C (by decide) (by decide) dX12_keyAt_15 ?_
    refine V.iload_n (pc := 17) C dX12_keyAt_17 2 rfl ?_
    refine V.iload_n (pc := 18) C dX12_keyAt_18 3 rfl ?_
    refine V.iadd (pc := 19) C dX12_keyAt_19 ?_
    refine V.callT (pc := 20) (st := []) C (c_J0_charAt_5068e l 21 (by decide) (y2 + y3) m) obI ck_J0_charAt_5068e ml_RX12_85 rfl (by decide) rfl rfl (Nat.le_of_ble_eq_true rfl) ⟨by decide, by decide⟩ dX12_keyAt_20 (fun r_3 m_4 _ => ?_)
    refine V.bipush (pc := 23) C dX12_keyAt_23 (v := 32) (by decide) ?_
    refine V.icmp_eq (pc := 25) C dX12_keyAt_25 69 (by decide) (fun _ => ?_) (fun _ => ?_)
    · refine V.wk [0, 1, 2, 3] rfl ?_
      exact v_X12_keyAt_b69 C k4 h4 y1 y2 y3 m_4
    · refine V.aload_n (pc := 28) C dX12_keyAt_28 0 rfl ?_
      refine V.geti (pc := 29) C fl_RX12_89 sM0 kM0 rfl dX12_keyAt_29 ?_
      refine V.iload_n (pc := 32) C dX12_keyAt_32 3 rfl ?_
      refine V.iadd (pc := 33) C dX12_keyAt_33 ?_
      refine V.aload_n (pc := 34) C dX12_keyAt_34 0 rfl ?_
      refine V.geti (pc := 35) C fl_RX12_92 sM0 kM0 rfl dX12_keyAt_35 ?_
      refine V.icmp_ge (pc := 38) C dX12_keyAt_38 69 (by decide) (fun _ => ?_) (fun _ => ?_)
      · refine V.wk [0, 1, 2, 3] rfl ?_
        exact v_X12_keyAt_b69 C k4 h4 y1 y2 y3 m_4
      · refine V.aload_n (pc := 41) C dX12_keyAt_41 0 rfl ?_
        refine V.getr (pc := 42) C fl_RX12_21 sM0 kM0 rfl rM0_3 dX12_keyAt_42 ?_
        refine V.aload_n (pc := 45) C dX12_keyAt_45 0 rfl ?_
        refine V.geti (pc := 46) C fl_RX12_89 sM0 kM0 rfl dX12_keyAt_46 ?_
        refine V.iload_n (pc := 49) C dX12_keyAt_49 3 rfl ?_
        refine V.iadd (pc := 50) C dX12_keyAt_50 ?_
        refine V.iald (pc := 51) C sM3 kM3 dX12_keyAt_51 (fun _ => ?_)
        refine V.ldcs (pc := 52) (k := 21) C (by decide) (by decide) dX12_keyAt_52 ?_
        refine V.iload_n (pc := 54) C dX12_keyAt_54 2 rfl ?_
        refine V.iload_n (pc := 55) C dX12_keyAt_55 3 rfl ?_
        refine V.iadd (pc := 56) C dX12_keyAt_56 ?_
        refine V.callT (pc := 57) (st := [.int (gi m_4 3 (ix ((gi m_4 0 6) + y3)))]) C (c_J0_charAt_5068e l 21 (by decide) (y2 + y3) m_4) obI ck_J0_charAt_5068e ml_RX12_85 rfl (by decide) rfl rfl (Nat.le_of_ble_eq_true rfl) ⟨by decide, by decide⟩ dX12_keyAt_57 (fun r_9 m_10 _ => ?_)
        refine V.icmp_ne (pc := 60) C dX12_keyAt_60 69 (by decide) (fun _ => ?_) (fun _ => ?_)
        · refine V.wk [0, 1, 2, 3] rfl ?_
          exact v_X12_keyAt_b69 C k4 h4 y1 y2 y3 m_10
        · refine V.iinc (pc := 63) C dX12_keyAt_63 (v := 1) (L2 := [(3, .int (y3 + 1)), (0, .ref 0), (1, .int y1), (2, .int y2)]) 3 rfl (by decide) (by decide) rfl ?_
          refine V.goto (pc := 66) C dX12_keyAt_66 15 (by decide) ?_
          refine V.wk [1, 2, 3, 0] rfl ?_
          exact ih y1 y2 (y3 + 1) m_10
set_option maxRecDepth 100000 in
set_option maxHeartbeats 4000000 in
theorem v_X12_keyAt_b4 {l : Launch} {p : Program} {e : Env} {s : State} {mt : MethodId} {args : Array Value} {below : List Frame} {meth : Method} {c : Code} {A : Nat → Prop} {ad0 : Nat → Nat} {G : Gt}  (C : Cx G p s mt args meth c RX12 cX12_keyAt 4 (some .int) "keyAt" A)  : ∀ (n : Nat) (y1 : Int32) (y2 : Int32) (m : Mem), V G SM oI l p e s mt args below meth c 4 5 A ad0 17 17 RM 17 RM 4 [(0, .ref 0), (1, .int y1), (2, .int y2)] [] m (X12_keyAt_b4  n y1 y2 m) := by
  intro n
  induction n with
  | zero =>
    intro y1 y2 m
    rw [X12_keyAt_b4]
    exact V.nil
  | succ n ih =>
    intro y1 y2 m
    rw [X12_keyAt_b4]
    refine V.iload_n (pc := 4) C dX12_keyAt_4 2 rfl ?_
    refine V.ldcs (pc := 5) (k := 21) C (by decide) (by decide) dX12_keyAt_5 ?_
    refine V.callT (pc := 7) (st := [.int y2]) C (c_J0_length_8abf5 l 21 (by decide) m) obI ck_J0_length_8abf5 ml_RX12_79 rfl (by decide) rfl rfl (Nat.le_of_ble_eq_true rfl) ⟨by decide, by decide⟩ dX12_keyAt_7 (fun r_1 m_2 _ => ?_)
    refine V.icmp_ge (pc := 10) C dX12_keyAt_10 123 (by decide) (fun _ => ?_) (fun _ => ?_)
    · refine V.bipush (pc := 123) C dX12_keyAt_123 (v := 22) (by decide) ?_
      exact V.iret C dX12_keyAt_125
    · refine V.iconst (pc := 13) C dX12_keyAt_13 (v := 0) (by decide) ?_
      refine V.istore_n (pc := 14) C dX12_keyAt_14 (L2 := [(3, .int 0), (0, .ref 0), (1, .int y1), (2, .int y2)]) (by decide) rfl ?_
      refine V.wk [1, 2, 3, 0] rfl ?_
      exact v_X12_keyAt_b15 C (X12_keyAt_b4 n) ih FU y1 y2 0 m_2
set_option maxRecDepth 100000 in
set_option maxHeartbeats 4000000 in
theorem v_X12_keyAt {l : Launch} {p : Program} {e : Env} {s : State} {mt : MethodId} {args : Array Value} {below : List Frame} {meth : Method} {c : Code} {A : Nat → Prop} {ad0 : Nat → Nat} {G : Gt}  (C : Cx G p s mt args meth c RX12 cX12_keyAt 4 (some .int) "keyAt" A)  (m : Mem) : V G SM oI l p e s mt args below meth c 4 5 A ad0 17 17 RM 17 RM 0 [(0, .ref 0)] [] m (X12_keyAt   m) := by
  rw [X12_keyAt]
  refine V.iconst (pc := 0) C dX12_keyAt_0 (v := 0) (by decide) ?_
  refine V.istore_n (pc := 1) C dX12_keyAt_1 (L2 := [(1, .int 0), (0, .ref 0)]) (by decide) rfl ?_
  refine V.iconst (pc := 2) C dX12_keyAt_2 (v := 1) (by decide) ?_
  refine V.istore_n (pc := 3) C dX12_keyAt_3 (L2 := [(2, .int 1), (1, .int 0), (0, .ref 0)]) (by decide) rfl ?_
  refine V.wk [2, 1, 0] rfl ?_
  exact v_X12_keyAt_b4 C  FU 0 1 m
theorem c_X12_keyAt (l : Launch)   (m : Mem) : Ct l yX12_keyAt cX12_keyAt 4 (some .int) 5 SM oI 17 17 RM RM [.ref 0] m (X12_keyAt   m) :=
  Ct.of (own := RX12) (nm := "keyAt") (by decide) rfl rfl (Nat.le_of_ble_eq_true rfl) (fun _ _ _ _ _ _ _ _ _ _ _ C => v_X12_keyAt C   m)
theorem dX12_isDigit_0 : decode cX12_isDigit 0 = .ok (.iload_n 0, 1) := by decide +kernel
theorem dX12_isDigit_1 : decode cX12_isDigit 1 = .ok (.bipush 48, 2) := by decide +kernel
theorem dX12_isDigit_3 : decode cX12_isDigit 3 = .ok (.if_icmp .lt 13, 3) := by decide +kernel
theorem dX12_isDigit_6 : decode cX12_isDigit 6 = .ok (.iload_n 0, 1) := by decide +kernel
theorem dX12_isDigit_7 : decode cX12_isDigit 7 = .ok (.bipush 57, 2) := by decide +kernel
theorem dX12_isDigit_9 : decode cX12_isDigit 9 = .ok (.if_icmp .gt 7, 3) := by decide +kernel
theorem dX12_isDigit_12 : decode cX12_isDigit 12 = .ok (.iconst 1, 1) := by decide +kernel
theorem dX12_isDigit_13 : decode cX12_isDigit 13 = .ok (.goto 4, 3) := by decide +kernel
theorem dX12_isDigit_16 : decode cX12_isDigit 16 = .ok (.iconst 0, 1) := by decide +kernel
theorem dX12_isDigit_17 : decode cX12_isDigit 17 = .ok (.ireturn, 1) := by decide +kernel
set_option maxRecDepth 100000 in
set_option maxHeartbeats 4000000 in
theorem v_X12_isDigit {l : Launch} {p : Program} {e : Env} {s : State} {mt : MethodId} {args : Array Value} {below : List Frame} {meth : Method} {c : Code} {A : Nat → Prop} {ad0 : Nat → Nat} {G : Gt}  (C : Cx G p s mt args meth c RX12 cX12_isDigit 1 (some .boolean) "isDigit" A)  (x1 : Int32) (m : Mem) : V G SM oI l p e s mt args below meth c 1 1 A ad0 17 17 RM 17 RM 0 [(0, .int x1)] [] m (X12_isDigit  x1 m) := by
  rw [X12_isDigit]
  refine V.iload_n (pc := 0) C dX12_isDigit_0 0 rfl ?_
  refine V.bipush (pc := 1) C dX12_isDigit_1 (v := 48) (by decide) ?_
  refine V.icmp_lt (pc := 3) C dX12_isDigit_3 16 (by decide) (fun _ => ?_) (fun _ => ?_)
  · refine V.iconst (pc := 16) C dX12_isDigit_16 (v := 0) (by decide) ?_
    exact V.zret rfl C dX12_isDigit_17
  · refine V.iload_n (pc := 6) C dX12_isDigit_6 0 rfl ?_
    refine V.bipush (pc := 7) C dX12_isDigit_7 (v := 57) (by decide) ?_
    refine V.icmp_gt (pc := 9) C dX12_isDigit_9 16 (by decide) (fun _ => ?_) (fun _ => ?_)
    · refine V.iconst (pc := 16) C dX12_isDigit_16 (v := 0) (by decide) ?_
      exact V.zret rfl C dX12_isDigit_17
    · refine V.iconst (pc := 12) C dX12_isDigit_12 (v := 1) (by decide) ?_
      refine V.goto (pc := 13) C dX12_isDigit_13 17 (by decide) ?_
      exact V.zret rfl C dX12_isDigit_17
theorem c_X12_isDigit (l : Launch)   (x1 : Int32) (m : Mem) : Ct l yX12_isDigit cX12_isDigit 1 (some .boolean) 1 SM oI 17 17 RM RM [.int x1] m (X12_isDigit  x1 m) :=
  Ct.of (own := RX12) (nm := "isDigit") (by decide) rfl rfl (Nat.le_of_ble_eq_true rfl) (fun _ _ _ _ _ _ _ _ _ _ _ C => v_X12_isDigit C  x1 m)
theorem dX12_next_0 : decode cX12_next 0 = .ok (.aload_n 0, 1) := by decide +kernel
theorem dX12_next_1 : decode cX12_next 1 = .ok (.aload_n 0, 1) := by decide +kernel
theorem dX12_next_2 : decode cX12_next 2 = .ok (.getfield 92, 3) := by decide +kernel
theorem dX12_next_5 : decode cX12_next 5 = .ok (.putfield 89, 3) := by decide +kernel
theorem dX12_next_8 : decode cX12_next 8 = .ok (.aload_n 0, 1) := by decide +kernel
theorem dX12_next_9 : decode cX12_next 9 = .ok (.aload_n 0, 1) := by decide +kernel
theorem dX12_next_10 : decode cX12_next 10 = .ok (.getfield 89, 3) := by decide +kernel
theorem dX12_next_13 : decode cX12_next 13 = .ok (.invokevirtual 95, 3) := by decide +kernel
theorem dX12_next_16 : decode cX12_next 16 = .ok (.bipush 10, 2) := by decide +kernel
theorem dX12_next_18 : decode cX12_next 18 = .ok (.if_icmp .eq 16, 3) := by decide +kernel
theorem dX12_next_21 : decode cX12_next 21 = .ok (.aload_n 0, 1) := by decide +kernel
theorem dX12_next_22 : decode cX12_next 22 = .ok (.aload_n 0, 1) := by decide +kernel
theorem dX12_next_23 : decode cX12_next 23 = .ok (.getfield 89, 3) := by decide +kernel
theorem dX12_next_26 : decode cX12_next 26 = .ok (.invokevirtual 95, 3) := by decide +kernel
theorem dX12_next_29 : decode cX12_next 29 = .ok (.bipush 32, 2) := by decide +kernel
theorem dX12_next_31 : decode cX12_next 31 = .ok (.if_icmp .ne 16, 3) := by decide +kernel
theorem dX12_next_34 : decode cX12_next 34 = .ok (.aload_n 0, 1) := by decide +kernel
theorem dX12_next_35 : decode cX12_next 35 = .ok (.dup, 1) := by decide +kernel
theorem dX12_next_36 : decode cX12_next 36 = .ok (.getfield 89, 3) := by decide +kernel
theorem dX12_next_39 : decode cX12_next 39 = .ok (.iconst 1, 1) := by decide +kernel
theorem dX12_next_40 : decode cX12_next 40 = .ok (.iadd, 1) := by decide +kernel
theorem dX12_next_41 : decode cX12_next 41 = .ok (.putfield 89, 3) := by decide +kernel
theorem dX12_next_44 : decode cX12_next 44 = .ok (.goto (-36), 3) := by decide +kernel
theorem dX12_next_47 : decode cX12_next 47 = .ok (.aload_n 0, 1) := by decide +kernel
theorem dX12_next_48 : decode cX12_next 48 = .ok (.aload_n 0, 1) := by decide +kernel
theorem dX12_next_49 : decode cX12_next 49 = .ok (.getfield 89, 3) := by decide +kernel
theorem dX12_next_52 : decode cX12_next 52 = .ok (.putfield 92, 3) := by decide +kernel
theorem dX12_next_55 : decode cX12_next 55 = .ok (.aload_n 0, 1) := by decide +kernel
theorem dX12_next_56 : decode cX12_next 56 = .ok (.getfield 89, 3) := by decide +kernel
theorem dX12_next_59 : decode cX12_next 59 = .ok (.aload_n 0, 1) := by decide +kernel
theorem dX12_next_60 : decode cX12_next 60 = .ok (.getfield 74, 3) := by decide +kernel
theorem dX12_next_63 : decode cX12_next 63 = .ok (.if_icmp .lt 12, 3) := by decide +kernel
theorem dX12_next_66 : decode cX12_next 66 = .ok (.aload_n 0, 1) := by decide +kernel
theorem dX12_next_67 : decode cX12_next 67 = .ok (.bipush 24, 2) := by decide +kernel
theorem dX12_next_69 : decode cX12_next 69 = .ok (.putfield 99, 3) := by decide +kernel
theorem dX12_next_72 : decode cX12_next 72 = .ok (.goto 222, 3) := by decide +kernel
theorem dX12_next_75 : decode cX12_next 75 = .ok (.aload_n 0, 1) := by decide +kernel
theorem dX12_next_76 : decode cX12_next 76 = .ok (.aload_n 0, 1) := by decide +kernel
theorem dX12_next_77 : decode cX12_next 77 = .ok (.getfield 89, 3) := by decide +kernel
theorem dX12_next_80 : decode cX12_next 80 = .ok (.invokevirtual 95, 3) := by decide +kernel
theorem dX12_next_83 : decode cX12_next 83 = .ok (.invokestatic 102, 3) := by decide +kernel
theorem dX12_next_86 : decode cX12_next 86 = .ok (.ifCond .eq 41, 3) := by decide +kernel
theorem dX12_next_89 : decode cX12_next 89 = .ok (.aload_n 0, 1) := by decide +kernel
theorem dX12_next_90 : decode cX12_next 90 = .ok (.aload_n 0, 1) := by decide +kernel
theorem dX12_next_91 : decode cX12_next 91 = .ok (.getfield 92, 3) := by decide +kernel
theorem dX12_next_94 : decode cX12_next 94 = .ok (.invokevirtual 95, 3) := by decide +kernel
theorem dX12_next_97 : decode cX12_next 97 = .ok (.invokestatic 102, 3) := by decide +kernel
theorem dX12_next_100 : decode cX12_next 100 = .ok (.ifCond .eq 16, 3) := by decide +kernel
theorem dX12_next_103 : decode cX12_next 103 = .ok (.aload_n 0, 1) := by decide +kernel
theorem dX12_next_104 : decode cX12_next 104 = .ok (.dup, 1) := by decide +kernel
theorem dX12_next_105 : decode cX12_next 105 = .ok (.getfield 92, 3) := by decide +kernel
theorem dX12_next_108 : decode cX12_next 108 = .ok (.iconst 1, 1) := by decide +kernel
theorem dX12_next_109 : decode cX12_next 109 = .ok (.iadd, 1) := by decide +kernel
theorem dX12_next_110 : decode cX12_next 110 = .ok (.putfield 92, 3) := by decide +kernel
theorem dX12_next_113 : decode cX12_next 113 = .ok (.goto (-24), 3) := by decide +kernel
theorem dX12_next_116 : decode cX12_next 116 = .ok (.aload_n 0, 1) := by decide +kernel
theorem dX12_next_117 : decode cX12_next 117 = .ok (.aload_n 0, 1) := by decide +kernel
theorem dX12_next_118 : decode cX12_next 118 = .ok (.invokevirtual 106, 3) := by decide +kernel
theorem dX12_next_121 : decode cX12_next 121 = .ok (.putfield 99, 3) := by decide +kernel
theorem dX12_next_124 : decode cX12_next 124 = .ok (.goto 170, 3) := by decide +kernel
theorem dX12_next_127 : decode cX12_next 127 = .ok (.aload_n 0, 1) := by decide +kernel
theorem dX12_next_128 : decode cX12_next 128 = .ok (.aload_n 0, 1) := by decide +kernel
theorem dX12_next_129 : decode cX12_next 129 = .ok (.getfield 89, 3) := by decide +kernel
theorem dX12_next_132 : decode cX12_next 132 = .ok (.invokevirtual 95, 3) := by decide +kernel
theorem dX12_next_135 : decode cX12_next 135 = .ok (.invokestatic 109, 3) := by decide +kernel
theorem dX12_next_138 : decode cX12_next 138 = .ok (.ifCond .eq 98, 3) := by decide +kernel
theorem dX12_next_141 : decode cX12_next 141 = .ok (.aload_n 0, 1) := by decide +kernel
theorem dX12_next_142 : decode cX12_next 142 = .ok (.iconst 0, 1) := by decide +kernel
theorem dX12_next_143 : decode cX12_next 143 = .ok (.putfield 112, 3) := by decide +kernel
theorem dX12_next_146 : decode cX12_next 146 = .ok (.aload_n 0, 1) := by decide +kernel
theorem dX12_next_147 : decode cX12_next 147 = .ok (.aload_n 0, 1) := by decide +kernel
theorem dX12_next_148 : decode cX12_next 148 = .ok (.getfield 92, 3) := by decide +kernel
theorem dX12_next_151 : decode cX12_next 151 = .ok (.invokevirtual 95, 3) := by decide +kernel
theorem dX12_next_154 : decode cX12_next 154 = .ok (.invokestatic 109, 3) := by decide +kernel
theorem dX12_next_157 : decode cX12_next 157 = .ok (.ifCond .eq 52, 3) := by decide +kernel
theorem dX12_next_160 : decode cX12_next 160 = .ok (.aload_n 0, 1) := by decide +kernel
theorem dX12_next_161 : decode cX12_next 161 = .ok (.getfield 92, 3) := by decide +kernel
theorem dX12_next_164 : decode cX12_next 164 = .ok (.aload_n 0, 1) := by decide +kernel
theorem dX12_next_165 : decode cX12_next 165 = .ok (.getfield 89, 3) := by decide +kernel
theorem dX12_next_168 : decode cX12_next 168 = .ok (.isub, 1) := by decide +kernel
theorem dX12_next_169 : decode cX12_next 169 = .ok (.iconst 3, 1) := by decide +kernel
theorem dX12_next_170 : decode cX12_next 170 = .ok (.if_icmp .ge 26, 3) := by decide +kernel
theorem dX12_next_173 : decode cX12_next 173 = .ok (.aload_n 0, 1) := by decide +kernel
theorem dX12_next_174 : decode cX12_next 174 = .ok (.bipush 10, 2) := by decide +kernel
theorem dX12_next_176 : decode cX12_next 176 = .ok (.aload_n 0, 1) := by decide +kernel
theorem dX12_next_177 : decode cX12_next 177 = .ok (.getfield 112, 3) := by decide +kernel
theorem dX12_next_180 : decode cX12_next 180 = .ok (.imul, 1) := by decide +kernel
theorem dX12_next_181 : decode cX12_next 181 = .ok (.aload_n 0, 1) := by decide +kernel
theorem dX12_next_182 : decode cX12_next 182 = .ok (.aload_n 0, 1) := by decide +kernel
theorem dX12_next_183 : decode cX12_next 183 = .ok (.getfield 92, 3) := by decide +kernel
theorem dX12_next_186 : decode cX12_next 186 = .ok (.invokevirtual 95, 3) := by decide +kernel
theorem dX12_next_189 : decode cX12_next 189 = .ok (.iadd, 1) := by decide +kernel
theorem dX12_next_190 : decode cX12_next 190 = .ok (.bipush 48, 2) := by decide +kernel
theorem dX12_next_192 : decode cX12_next 192 = .ok (.isub, 1) := by decide +kernel
theorem dX12_next_193 : decode cX12_next 193 = .ok (.putfield 112, 3) := by decide +kernel
theorem dX12_next_196 : decode cX12_next 196 = .ok (.aload_n 0, 1) := by decide +kernel
theorem dX12_next_197 : decode cX12_next 197 = .ok (.dup, 1) := by decide +kernel
theorem dX12_next_198 : decode cX12_next 198 = .ok (.getfield 92, 3) := by decide +kernel
theorem dX12_next_201 : decode cX12_next 201 = .ok (.iconst 1, 1) := by decide +kernel
theorem dX12_next_202 : decode cX12_next 202 = .ok (.iadd, 1) := by decide +kernel
theorem dX12_next_203 : decode cX12_next 203 = .ok (.putfield 92, 3) := by decide +kernel
theorem dX12_next_206 : decode cX12_next 206 = .ok (.goto (-60), 3) := by decide +kernel
theorem dX12_next_209 : decode cX12_next 209 = .ok (.aload_n 0, 1) := by decide +kernel
theorem dX12_next_210 : decode cX12_next 210 = .ok (.aload_n 0, 1) := by decide +kernel
theorem dX12_next_211 : decode cX12_next 211 = .ok (.getfield 92, 3) := by decide +kernel
theorem dX12_next_214 : decode cX12_next 214 = .ok (.aload_n 0, 1) := by decide +kernel
theorem dX12_next_215 : decode cX12_next 215 = .ok (.getfield 89, 3) := by decide +kernel
theorem dX12_next_218 : decode cX12_next 218 = .ok (.isub, 1) := by decide +kernel
theorem dX12_next_219 : decode cX12_next 219 = .ok (.iconst 3, 1) := by decide +kernel
theorem dX12_next_220 : decode cX12_next 220 = .ok (.if_icmp .le 8, 3) := by decide +kernel
theorem dX12_next_223 : decode cX12_next 223 = .ok (.bipush 25, 2) := by decide +kernel
theorem dX12_next_225 : decode cX12_next 225 = .ok (.goto 5, 3) := by decide +kernel
theorem dX12_next_228 : decode cX12_next 228 = .ok (.bipush 23, 2) := by decide +kernel
theorem dX12_next_230 : decode cX12_next 230 = .ok (.putfield 99, 3) := by decide +kernel
theorem dX12_next_233 : decode cX12_next 233 = .ok (.goto 61, 3) := by decide +kernel
theorem dX12_next_236 : decode cX12_next 236 = .ok (.aload_n 0, 1) := by decide +kernel
theorem dX12_next_237 : decode cX12_next 237 = .ok (.dup, 1) := by decide +kernel
theorem dX12_next_238 : decode cX12_next 238 = .ok (.getfield 92, 3) := by decide +kernel
theorem dX12_next_241 : decode cX12_next 241 = .ok (.iconst 1, 1) := by decide +kernel
theorem dX12_next_242 : decode cX12_next 242 = .ok (.iadd, 1) := by decide +kernel
theorem dX12_next_243 : decode cX12_next 243 = .ok (.putfield 92, 3) := by decide +kernel
theorem dX12_next_246 : decode cX12_next 246 = .ok (.aload_n 0, 1) := by decide +kernel
theorem dX12_next_247 : decode cX12_next 247 = .ok (.bipush 25, 2) := by decide +kernel
theorem dX12_next_249 : decode cX12_next 249 = .ok (.putfield 99, 3) := by decide +kernel
theorem dX12_next_252 : decode cX12_next 252 = .ok (.iconst 0, 1) := by decide +kernel
theorem dX12_next_253 : decode cX12_next 253 = .ok (.istore_n 1, 1) := by decide +kernel
theorem dX12_next_254 : decode cX12_next 254 = .ok (.iload_n 1, 1) := by decide +kernel
theorem dX12_next_255 : decode cX12_next 255 = .ok (.ldc 115, 2) := by decide +kernel
theorem dX12_next_257 : decode cX12_next 257 = .ok (.invokevirtual 79, 3) := by decide +kernel
theorem dX12_next_260 : decode cX12_next 260 = .ok (.if_icmp .ge 34, 3) := by decide +kernel
theorem dX12_next_263 : decode cX12_next 263 = .ok (.aload_n 0, 1) := by decide +kernel
theorem dX12_next_264 : decode cX12_next 264 = .ok (.aload_n 0, 1) := by decide +kernel
theorem dX12_next_265 : decode cX12_next 265 = .ok (.getfield 89, 3) := by decide +kernel
theorem dX12_next_268 : decode cX12_next 268 = .ok (.invokevirtual 95, 3) := by decide +kernel
theorem dX12_next_271 : decode cX12_next 271 = .ok (.ldc 115, 2) := by decide +kernel
theorem dX12_next_273 : decode cX12_next 273 = .ok (.iload_n 1, 1) := by decide +kernel
theorem dX12_next_274 : decode cX12_next 274 = .ok (.invokevirtual 85, 3) := by decide +kernel
theorem dX12_next_277 : decode cX12_next 277 = .ok (.if_icmp .ne 11, 3) := by decide +kernel
theorem dX12_next_280 : decode cX12_next 280 = .ok (.aload_n 0, 1) := by decide +kernel
theorem dX12_next_281 : decode cX12_next 281 = .ok (.bipush 30, 2) := by decide +kernel
theorem dX12_next_283 : decode cX12_next 283 = .ok (.iload_n 1, 1) := by decide +kernel
theorem dX12_next_284 : decode cX12_next 284 = .ok (.iadd, 1) := by decide +kernel
theorem dX12_next_285 : decode cX12_next 285 = .ok (.putfield 99, 3) := by decide +kernel
theorem dX12_next_288 : decode cX12_next 288 = .ok (.iinc 1 1, 3) := by decide +kernel
theorem dX12_next_291 : decode cX12_next 291 = .ok (.goto (-37), 3) := by decide +kernel
theorem dX12_next_294 : decode cX12_next 294 = .ok (.return_, 1) := by decide +kernel
set_option maxRecDepth 100000 in
set_option maxHeartbeats 4000000 in
theorem v_X12_next_b34 {l : Launch} {p : Program} {e : Env} {s : State} {mt : MethodId} {args : Array Value} {below : List Frame} {meth : Method} {c : Code} {A : Nat → Prop} {ad0 : Nat → Nat} {G : Gt}  (C : Cx G p s mt args meth c RX12 cX12_next 2 none "next" A) (k8 : Mem → Option (Unit × Mem)) (h8 : ∀ (m : Mem), V G SM oV l p e s mt args below meth c 2 6 A ad0 17 17 RM 17 RM 8 [(0, .ref 0)] [] m (k8  m)) (m : Mem) : V G SM oV l p e s mt args below meth c 2 6 A ad0 17 17 RM 17 RM 34 [(0, .ref 0)] [] m (X12_next_b34 k8  m) := by
  rw [X12_next_b34]
  refine V.aload_n (pc := 34) C dX12_next_34 0 rfl ?_
  refine V.dup (pc := 35) C dX12_next_35 rfl ?_
  refine V.geti (pc := 36) C fl_RX12_89 sM0 kM0 rfl dX12_next_36 ?_
  refine V.iconst (pc := 39) C dX12_next_39 (v := 1) (by decide) ?_
  refine V.iadd (pc := 40) C dX12_next_40 ?_
  refine V.puti (pc := 41) C fp_RX12_89 sM0 kM0 rfl dX12_next_41 ?_
  refine V.ltm (fun m_4 => ?_)
  refine V.goto (pc := 44) C dX12_next_44 8 (by decide) ?_
  refine V.wk [0] rfl ?_
  exact h8  m_4
set_option maxRecDepth 100000 in
set_option maxHeartbeats 4000000 in
theorem v_X12_next_b254 {l : Launch} {p : Program} {e : Env} {s : State} {mt : MethodId} {args : Array Value} {below : List Frame} {meth : Method} {c : Code} {A : Nat → Prop} {ad0 : Nat → Nat} {G : Gt}  (C : Cx G p s mt args meth c RX12 cX12_next 2 none "next" A)  : ∀ (n : Nat) (y1 : Int32) (m : Mem), V G SM oV l p e s mt args below meth c 2 6 A ad0 17 17 RM 17 RM 254 [(0, .ref 0), (1, .int y1)] [] m (X12_next_b254  n y1 m) := by
  intro n
  induction n with
  | zero =>
    intro y1 m
    rw [X12_next_b254]
    exact V.nil
  | succ n ih =>
    intro y1 m
    rw [X12_next_b254]
    refine V.iload_n (pc := 254) C dX12_next_254 1 rfl ?_
    refine V.ldcs (pc := 255) (k := 0) C (by decide) (by decide) dX12_next_255 ?_
    refine V.callT (pc := 257) (st := [.int y1]) C (c_J0_length_8abf5 l 0 (by decide) m) obI ck_J0_length_8abf5 ml_RX12_79 rfl (by decide) rfl rfl (Nat.le_of_ble_eq_true rfl) ⟨by decide, by decide⟩ dX12_next_257 (fun r_18 m_19 _ => ?_)
    refine V.icmp_ge (pc := 260) C dX12_next_260 294 (by decide) (fun _ => ?_) (fun _ => ?_)
    · exact V.vret C dX12_next_294
    · refine V.aload_n (pc := 263) C dX12_next_263 0 rfl ?_
      refine V.aload_n (pc := 264) C dX12_next_264 0 rfl ?_
      refine V.geti (pc := 265) C fl_RX12_89 sM0 kM0 rfl dX12_next_265 ?_
      refine V.callV (pc := 268) (st := []) C (c_X12_see l (gi m_19 0 6) m_19) obI ck_X12_see ml_RX12_95 rfl rfl sM0 kM0 rfl rfl (Nat.le_of_ble_eq_true rfl) ⟨by decide, by decide⟩ dX12_next_268 (fun r_20 m_21 _ => ?_)
      refine V.ldcs (pc := 271) (k := 0) C (by decide) (by decide) dX12_next_271 ?_
      refine V.iload_n (pc := 273) C dX12_next_273 1 rfl ?_
      refine V.callT (pc := 274) (st := [.int r_20]) C (c_J0_charAt_5068e l 0 (by decide) y1 m_21) obI ck_J0_charAt_5068e ml_RX12_85 rfl (by decide) rfl rfl (Nat.le_of_ble_eq_true rfl) ⟨by decide, by decide⟩ dX12_next_274 (fun r_22 m_23 _ => ?_)
      refine V.icmp_ne (pc := 277) C dX12_next_277 288 (by decide) (fun _ => ?_) (fun _ => ?_)
      · refine V.iinc (pc := 288) C dX12_next_288 (v := 1) (L2 := [(1, .int (y1 + 1)), (0, .ref 0)]) 1 rfl (by decide) (by decide) rfl ?_
        refine V.goto (pc := 291) C dX12_next_291 254 (by decide) ?_
        refine V.wk [1, 0] rfl ?_
        exact ih (y1 + 1) m_23
      · refine V.aload_n (pc := 280) C dX12_next_280 0 rfl ?_
        refine V.bipush (pc := 281) C dX12_next_281 (v := 30) (by decide) ?_
        refine V.iload_n (pc := 283) C dX12_next_283 1 rfl ?_
        refine V.iadd (pc := 284) C dX12_next_284 ?_
        refine V.puti (pc := 285) C fp_RX12_99 sM0 kM0 rfl dX12_next_285 ?_
        refine V.ltm (fun m_24 => ?_)
        refine V.iinc (pc := 288) C dX12_next_288 (v := 1) (L2 := [(1, .int (y1 + 1)), (0, .ref 0)]) 1 rfl (by decide) (by decide) rfl ?_
        refine V.goto (pc := 291) C dX12_next_291 254 (by decide) ?_
        refine V.wk [1, 0] rfl ?_
        exact ih (y1 + 1) m_24
set_option maxRecDepth 100000 in
set_option maxHeartbeats 4000000 in
theorem v_X12_next_b196 {l : Launch} {p : Program} {e : Env} {s : State} {mt : MethodId} {args : Array Value} {below : List Frame} {meth : Method} {c : Code} {A : Nat → Prop} {ad0 : Nat → Nat} {G : Gt}  (C : Cx G p s mt args meth c RX12 cX12_next 2 none "next" A) (k146 : Mem → Option (Unit × Mem)) (h146 : ∀ (m : Mem), V G SM oV l p e s mt args below meth c 2 6 A ad0 17 17 RM 17 RM 146 [(0, .ref 0)] [] m (k146  m)) (m : Mem) : V G SM oV l p e s mt args below meth c 2 6 A ad0 17 17 RM 17 RM 196 [(0, .ref 0)] [] m (X12_next_b196 k146  m) := by
  rw [X12_next_b196]
  refine V.aload_n (pc := 196) C dX12_next_196 0 rfl ?_
  refine V.dup (pc := 197) C dX12_next_197 rfl ?_
  refine V.geti (pc := 198) C fl_RX12_92 sM0 kM0 rfl dX12_next_198 ?_
  refine V.iconst (pc := 201) C dX12_next_201 (v := 1) (by decide) ?_
  refine V.iadd (pc := 202) C dX12_next_202 ?_
  refine V.puti (pc := 203) C fp_RX12_92 sM0 kM0 rfl dX12_next_203 ?_
  refine V.ltm (fun m_32 => ?_)
  refine V.goto (pc := 206) C dX12_next_206 146 (by decide) ?_
  refine V.wk [0] rfl ?_
  exact h146  m_32
set_option maxRecDepth 100000 in
set_option maxHeartbeats 4000000 in
theorem v_X12_next_b146 {l : Launch} {p : Program} {e : Env} {s : State} {mt : MethodId} {args : Array Value} {below : List Frame} {meth : Method} {c : Code} {A : Nat → Prop} {ad0 : Nat → Nat} {G : Gt}  (C : Cx G p s mt args meth c RX12 cX12_next 2 none "next" A)  : ∀ (n : Nat) (m : Mem), V G SM oV l p e s mt args below meth c 2 6 A ad0 17 17 RM 17 RM 146 [(0, .ref 0)] [] m (X12_next_b146  n  m) := by
  intro n
  induction n with
  | zero =>
    intro  m
    rw [X12_next_b146]
    exact V.nil
  | succ n ih =>
    intro  m
    rw [X12_next_b146]
    refine V.aload_n (pc := 146) C dX12_next_146 0 rfl ?_
    refine V.aload_n (pc := 147) C dX12_next_147 0 rfl ?_
    refine V.geti (pc := 148) C fl_RX12_92 sM0 kM0 rfl dX12_next_148 ?_
    refine V.callV (pc := 151) (st := []) C (c_X12_see l (gi m 0 7) m) obI ck_X12_see ml_RX12_95 rfl rfl sM0 kM0 rfl rfl (Nat.le_of_ble_eq_true rfl) ⟨by decide, by decide⟩ dX12_next_151 (fun r_26 m_27 _ => ?_)
    refine V.callS (pc := 154) (st := []) C (c_X12_isDigit l r_26 m_27) obI ck_X12_isDigit ml_RX12_109 rfl rfl (Nat.le_of_ble_eq_true rfl) ⟨by decide, by decide⟩ dX12_next_154 (fun r_28 m_29 _ => ?_)
    refine V.if_eq (pc := 157) C dX12_next_157 209 (by decide) (fun _ => ?_) (fun _ => ?_)
    · refine V.aload_n (pc := 209) C dX12_next_209 0 rfl ?_
      refine V.aload_n (pc := 210) C dX12_next_210 0 rfl ?_
      refine V.geti (pc := 211) C fl_RX12_92 sM0 kM0 rfl dX12_next_211 ?_
      refine V.aload_n (pc := 214) C dX12_next_214 0 rfl ?_
      refine V.geti (pc := 215) C fl_RX12_89 sM0 kM0 rfl dX12_next_215 ?_
      refine V.isub (pc := 218) C dX12_next_218 ?_
      refine V.iconst (pc := 219) C dX12_next_219 (v := 3) (by decide) ?_
      refine V.icmp_le (pc := 220) C dX12_next_220 228 (by decide) (fun _ => ?_) (fun _ => ?_)
      · refine V.bipush (pc := 228) C dX12_next_228 (v := 23) (by decide) ?_
        refine V.puti (pc := 230) C fp_RX12_99 sM0 kM0 rfl dX12_next_230 ?_
        refine V.ltm (fun m_30 => ?_)
        refine V.goto (pc := 233) C dX12_next_233 294 (by decide) ?_
        exact V.vret C dX12_next_294
      · refine V.bipush (pc := 223) C dX12_next_223 (v := 25) (by decide) ?_
        refine V.goto (pc := 225) C dX12_next_225 230 (by decide) ?_
        refine V.puti (pc := 230) C fp_RX12_99 sM0 kM0 rfl dX12_next_230 ?_
        refine V.ltm (fun m_31 => ?_)
        refine V.goto (pc := 233) C dX12_next_233 294 (by decide) ?_
        exact V.vret C dX12_next_294
    · refine V.aload_n (pc := 160) C dX12_next_160 0 rfl ?_
      refine V.geti (pc := 161) C fl_RX12_92 sM0 kM0 rfl dX12_next_161 ?_
      refine V.aload_n (pc := 164) C dX12_next_164 0 rfl ?_
      refine V.geti (pc := 165) C fl_RX12_89 sM0 kM0 rfl dX12_next_165 ?_
      refine V.isub (pc := 168) C dX12_next_168 ?_
      refine V.iconst (pc := 169) C dX12_next_169 (v := 3) (by decide) ?_
      refine V.icmp_ge (pc := 170) C dX12_next_170 196 (by decide) (fun _ => ?_) (fun _ => ?_)
      · refine V.wk [0] rfl ?_
        exact v_X12_next_b196 C (X12_next_b146 n) ih  m_29
      · refine V.aload_n (pc := 173) C dX12_next_173 0 rfl ?_
        refine V.bipush (pc := 174) C dX12_next_174 (v := 10) (by decide) ?_
        refine V.aload_n (pc := 176) C dX12_next_176 0 rfl ?_
        refine V.geti (pc := 177) C fl_RX12_112 sM0 kM0 rfl dX12_next_177 ?_
        refine V.imul (pc := 180) C dX12_next_180 ?_
        refine V.aload_n (pc := 181) C dX12_next_181 0 rfl ?_
        refine V.aload_n (pc := 182) C dX12_next_182 0 rfl ?_
        refine V.geti (pc := 183) C fl_RX12_92 sM0 kM0 rfl dX12_next_183 ?_
        refine V.callV (pc := 186) (st := [.int (10 * (gi m_29 0 10)), .ref 0]) C (c_X12_see l (gi m_29 0 7) m_29) obI ck_X12_see ml_RX12_95 rfl rfl sM0 kM0 rfl rfl (Nat.le_of_ble_eq_true rfl) ⟨by decide, by decide⟩ dX12_next_186 (fun r_33 m_34 _ => ?_)
        refine V.iadd (pc := 189) C dX12_next_189 ?_
        refine V.bipush (pc := 190) C dX12_next_190 (v := 48) (by decide) ?_
        refine V.isub (pc := 192) C dX12_next_192 ?_
        refine V.puti (pc := 193) C fp_RX12_112 sM0 kM0 rfl dX12_next_193 ?_
        refine V.ltm (fun m_35 => ?_)
        refine V.wk [0] rfl ?_
        exact v_X12_next_b196 C (X12_next_b146 n) ih  m_35
set_option maxRecDepth 100000 in
set_option maxHeartbeats 4000000 in
theorem v_X12_next_b89 {l : Launch} {p : Program} {e : Env} {s : State} {mt : MethodId} {args : Array Value} {below : List Frame} {meth : Method} {c : Code} {A : Nat → Prop} {ad0 : Nat → Nat} {G : Gt}  (C : Cx G p s mt args meth c RX12 cX12_next 2 none "next" A)  : ∀ (n : Nat) (m : Mem), V G SM oV l p e s mt args below meth c 2 6 A ad0 17 17 RM 17 RM 89 [(0, .ref 0)] [] m (X12_next_b89  n  m) := by
  intro n
  induction n with
  | zero =>
    intro  m
    rw [X12_next_b89]
    exact V.nil
  | succ n ih =>
    intro  m
    rw [X12_next_b89]
    refine V.aload_n (pc := 89) C dX12_next_89 0 rfl ?_
    refine V.aload_n (pc := 90) C dX12_next_90 0 rfl ?_
    refine V.geti (pc := 91) C fl_RX12_92 sM0 kM0 rfl dX12_next_91 ?_
    refine V.callV (pc := 94) (st := []) C (c_X12_see l (gi m 0 7) m) obI ck_X12_see ml_RX12_95 rfl rfl sM0 kM0 rfl rfl (Nat.le_of_ble_eq_true rfl) ⟨by decide, by decide⟩ dX12_next_94 (fun r_36 m_37 _ => ?_)
    refine V.callS (pc := 97) (st := []) C (c_X12_isSmall l r_36 m_37) obI ck_X12_isSmall ml_RX12_102 rfl rfl (Nat.le_of_ble_eq_true rfl) ⟨by decide, by decide⟩ dX12_next_97 (fun r_38 m_39 _ => ?_)
    refine V.if_eq (pc := 100) C dX12_next_100 116 (by decide) (fun _ => ?_) (fun _ => ?_)
    · refine V.aload_n (pc := 116) C dX12_next_116 0 rfl ?_
      refine V.aload_n (pc := 117) C dX12_next_117 0 rfl ?_
      refine V.callV (pc := 118) (st := [.ref 0]) C (c_X12_keyAt l  m_39) obI ck_X12_keyAt ml_RX12_106 rfl rfl sM0 kM0 rfl rfl (Nat.le_of_ble_eq_true rfl) ⟨by decide, by decide⟩ dX12_next_118 (fun r_40 m_41 _ => ?_)
      refine V.puti (pc := 121) C fp_RX12_99 sM0 kM0 rfl dX12_next_121 ?_
      refine V.ltm (fun m_42 => ?_)
      refine V.goto (pc := 124) C dX12_next_124 294 (by decide) ?_
      exact V.vret C dX12_next_294
    · refine V.aload_n (pc := 103) C dX12_next_103 0 rfl ?_
      refine V.dup (pc := 104) C dX12_next_104 rfl ?_
      refine V.geti (pc := 105) C fl_RX12_92 sM0 kM0 rfl dX12_next_105 ?_
      refine V.iconst (pc := 108) C dX12_next_108 (v := 1) (by decide) ?_
      refine V.iadd (pc := 109) C dX12_next_109 ?_
      refine V.puti (pc := 110) C fp_RX12_92 sM0 kM0 rfl dX12_next_110 ?_
      refine V.ltm (fun m_43 => ?_)
      refine V.goto (pc := 113) C dX12_next_113 89 (by decide) ?_
      refine V.wk [0] rfl ?_
      exact ih  m_43
set_option maxRecDepth 100000 in
set_option maxHeartbeats 4000000 in
theorem v_X12_next_b8 {l : Launch} {p : Program} {e : Env} {s : State} {mt : MethodId} {args : Array Value} {below : List Frame} {meth : Method} {c : Code} {A : Nat → Prop} {ad0 : Nat → Nat} {G : Gt}  (C : Cx G p s mt args meth c RX12 cX12_next 2 none "next" A)  : ∀ (n : Nat) (m : Mem), V G SM oV l p e s mt args below meth c 2 6 A ad0 17 17 RM 17 RM 8 [(0, .ref 0)] [] m (X12_next_b8  n  m) := by
  intro n
  induction n with
  | zero =>
    intro  m
    rw [X12_next_b8]
    exact V.nil
  | succ n ih =>
    intro  m
    rw [X12_next_b8]
    refine V.aload_n (pc := 8) C dX12_next_8 0 rfl ?_
    refine V.aload_n (pc := 9) C dX12_next_9 0 rfl ?_
    refine V.geti (pc := 10) C fl_RX12_89 sM0 kM0 rfl dX12_next_10 ?_
    refine V.callV (pc := 13) (st := []) C (c_X12_see l (gi m 0 6) m) obI ck_X12_see ml_RX12_95 rfl rfl sM0 kM0 rfl rfl (Nat.le_of_ble_eq_true rfl) ⟨by decide, by decide⟩ dX12_next_13 (fun r_2 m_3 _ => ?_)
    refine V.bipush (pc := 16) C dX12_next_16 (v := 10) (by decide) ?_
    refine V.icmp_eq (pc := 18) C dX12_next_18 34 (by decide) (fun _ => ?_) (fun _ => ?_)
    · refine V.wk [0] rfl ?_
      exact v_X12_next_b34 C (X12_next_b8 n) ih  m_3
    · refine V.aload_n (pc := 21) C dX12_next_21 0 rfl ?_
      refine V.aload_n (pc := 22) C dX12_next_22 0 rfl ?_
      refine V.geti (pc := 23) C fl_RX12_89 sM0 kM0 rfl dX12_next_23 ?_
      refine V.callV (pc := 26) (st := []) C (c_X12_see l (gi m_3 0 6) m_3) obI ck_X12_see ml_RX12_95 rfl rfl sM0 kM0 rfl rfl (Nat.le_of_ble_eq_true rfl) ⟨by decide, by decide⟩ dX12_next_26 (fun r_5 m_6 _ => ?_)
      refine V.bipush (pc := 29) C dX12_next_29 (v := 32) (by decide) ?_
      refine V.icmp_ne (pc := 31) C dX12_next_31 47 (by decide) (fun _ => ?_) (fun _ => ?_)
      · refine V.aload_n (pc := 47) C dX12_next_47 0 rfl ?_
        refine V.aload_n (pc := 48) C dX12_next_48 0 rfl ?_
        refine V.geti (pc := 49) C fl_RX12_89 sM0 kM0 rfl dX12_next_49 ?_
        refine V.puti (pc := 52) C fp_RX12_92 sM0 kM0 rfl dX12_next_52 ?_
        refine V.ltm (fun m_7 => ?_)
        refine V.aload_n (pc := 55) C dX12_next_55 0 rfl ?_
        refine V.geti (pc := 56) C fl_RX12_89 sM0 kM0 rfl dX12_next_56 ?_
        refine V.aload_n (pc := 59) C dX12_next_59 0 rfl ?_
        refine V.geti (pc := 60) C fl_RX12_74 sM0 kM0 rfl dX12_next_60 ?_
        refine V.icmp_lt (pc := 63) C dX12_next_63 75 (by decide) (fun _ => ?_) (fun _ => ?_)
        · refine V.aload_n (pc := 75) C dX12_next_75 0 rfl ?_
          refine V.aload_n (pc := 76) C dX12_next_76 0 rfl ?_
          refine V.geti (pc := 77) C fl_RX12_89 sM0 kM0 rfl dX12_next_77 ?_
          refine V.callV (pc := 80) (st := []) C (c_X12_see l (gi m_7 0 6) m_7) obI ck_X12_see ml_RX12_95 rfl rfl sM0 kM0 rfl rfl (Nat.le_of_ble_eq_true rfl) ⟨by decide, by decide⟩ dX12_next_80 (fun r_8 m_9 _ => ?_)
          refine V.callS (pc := 83) (st := []) C (c_X12_isSmall l r_8 m_9) obI ck_X12_isSmall ml_RX12_102 rfl rfl (Nat.le_of_ble_eq_true rfl) ⟨by decide, by decide⟩ dX12_next_83 (fun r_10 m_11 _ => ?_)
          refine V.if_eq (pc := 86) C dX12_next_86 127 (by decide) (fun _ => ?_) (fun _ => ?_)
          · refine V.aload_n (pc := 127) C dX12_next_127 0 rfl ?_
            refine V.aload_n (pc := 128) C dX12_next_128 0 rfl ?_
            refine V.geti (pc := 129) C fl_RX12_89 sM0 kM0 rfl dX12_next_129 ?_
            refine V.callV (pc := 132) (st := []) C (c_X12_see l (gi m_11 0 6) m_11) obI ck_X12_see ml_RX12_95 rfl rfl sM0 kM0 rfl rfl (Nat.le_of_ble_eq_true rfl) ⟨by decide, by decide⟩ dX12_next_132 (fun r_12 m_13 _ => ?_)
            refine V.callS (pc := 135) (st := []) C (c_X12_isDigit l r_12 m_13) obI ck_X12_isDigit ml_RX12_109 rfl rfl (Nat.le_of_ble_eq_true rfl) ⟨by decide, by decide⟩ dX12_next_135 (fun r_14 m_15 _ => ?_)
            refine V.if_eq (pc := 138) C dX12_next_138 236 (by decide) (fun _ => ?_) (fun _ => ?_)
            · refine V.aload_n (pc := 236) C dX12_next_236 0 rfl ?_
              refine V.dup (pc := 237) C dX12_next_237 rfl ?_
              refine V.geti (pc := 238) C fl_RX12_92 sM0 kM0 rfl dX12_next_238 ?_
              refine V.iconst (pc := 241) C dX12_next_241 (v := 1) (by decide) ?_
              refine V.iadd (pc := 242) C dX12_next_242 ?_
              refine V.puti (pc := 243) C fp_RX12_92 sM0 kM0 rfl dX12_next_243 ?_
              refine V.ltm (fun m_16 => ?_)
              refine V.aload_n (pc := 246) C dX12_next_246 0 rfl ?_
              refine V.bipush (pc := 247) C dX12_next_247 (v := 25) (by decide) ?_
              refine V.puti (pc := 249) C fp_RX12_99 sM0 kM0 rfl dX12_next_249 ?_
              refine V.ltm (fun m_17 => ?_)
              refine V.iconst (pc := 252) C dX12_next_252 (v := 0) (by decide) ?_
              refine V.istore_n (pc := 253) C dX12_next_253 (L2 := [(1, .int 0), (0, .ref 0)]) (by decide) rfl ?_
              refine V.wk [1, 0] rfl ?_
              exact v_X12_next_b254 C  FU 0 m_17
            · refine V.aload_n (pc := 141) C dX12_next_141 0 rfl ?_
              refine V.iconst (pc := 142) C dX12_next_142 (v := 0) (by decide) ?_
              refine V.puti (pc := 143) C fp_RX12_112 sM0 kM0 rfl dX12_next_143 ?_
              refine V.ltm (fun m_25 => ?_)
              refine V.wk [0] rfl ?_
              exact v_X12_next_b146 C  FU  m_25
          · refine V.wk [0] rfl ?_
            exact v_X12_next_b89 C  FU  m_11
        · refine V.aload_n (pc := 66) C dX12_next_66 0 rfl ?_
          refine V.bipush (pc := 67) C dX12_next_67 (v := 24) (by decide) ?_
          refine V.puti (pc := 69) C fp_RX12_99 sM0 kM0 rfl dX12_next_69 ?_
          refine V.ltm (fun m_44 => ?_)
          refine V.goto (pc := 72) C dX12_next_72 294 (by decide) ?_
          exact V.vret C dX12_next_294
      · refine V.wk [0] rfl ?_
        exact v_X12_next_b34 C (X12_next_b8 n) ih  m_6
set_option maxRecDepth 100000 in
set_option maxHeartbeats 4000000 in
theorem v_X12_next {l : Launch} {p : Program} {e : Env} {s : State} {mt : MethodId} {args : Array Value} {below : List Frame} {meth : Method} {c : Code} {A : Nat → Prop} {ad0 : Nat → Nat} {G : Gt}  (C : Cx G p s mt args meth c RX12 cX12_next 2 none "next" A)  (m : Mem) : V G SM oV l p e s mt args below meth c 2 6 A ad0 17 17 RM 17 RM 0 [(0, .ref 0)] [] m (X12_next   m) := by
  rw [X12_next]
  refine V.aload_n (pc := 0) C dX12_next_0 0 rfl ?_
  refine V.aload_n (pc := 1) C dX12_next_1 0 rfl ?_
  refine V.geti (pc := 2) C fl_RX12_92 sM0 kM0 rfl dX12_next_2 ?_
  refine V.puti (pc := 5) C fp_RX12_89 sM0 kM0 rfl dX12_next_5 ?_
  refine V.ltm (fun m_1 => ?_)
  refine V.wk [0] rfl ?_
  exact v_X12_next_b8 C  FU  m_1
theorem c_X12_next (l : Launch)   (m : Mem) : Ct l yX12_next cX12_next 2 none 6 SM oV 17 17 RM RM [.ref 0] m (X12_next   m) :=
  Ct.of (own := RX12) (nm := "next") (by decide) rfl rfl (Nat.le_of_ble_eq_true rfl) (fun _ _ _ _ _ _ _ _ _ _ _ C => v_X12_next C   m)
theorem dX12_is_0 : decode cX12_is 0 = .ok (.aload_n 0, 1) := by decide +kernel
theorem dX12_is_1 : decode cX12_is 1 = .ok (.getfield 117, 3) := by decide +kernel
theorem dX12_is_4 : decode cX12_is 4 = .ok (.ifCond .ne 15, 3) := by decide +kernel
theorem dX12_is_7 : decode cX12_is 7 = .ok (.aload_n 0, 1) := by decide +kernel
theorem dX12_is_8 : decode cX12_is 8 = .ok (.getfield 99, 3) := by decide +kernel
theorem dX12_is_11 : decode cX12_is 11 = .ok (.iload_n 1, 1) := by decide +kernel
theorem dX12_is_12 : decode cX12_is 12 = .ok (.if_icmp .ne 7, 3) := by decide +kernel
theorem dX12_is_15 : decode cX12_is 15 = .ok (.iconst 1, 1) := by decide +kernel
theorem dX12_is_16 : decode cX12_is 16 = .ok (.goto 4, 3) := by decide +kernel
theorem dX12_is_19 : decode cX12_is 19 = .ok (.iconst 0, 1) := by decide +kernel
theorem dX12_is_20 : decode cX12_is 20 = .ok (.ireturn, 1) := by decide +kernel
set_option maxRecDepth 100000 in
set_option maxHeartbeats 4000000 in
theorem v_X12_is {l : Launch} {p : Program} {e : Env} {s : State} {mt : MethodId} {args : Array Value} {below : List Frame} {meth : Method} {c : Code} {A : Nat → Prop} {ad0 : Nat → Nat} {G : Gt}  (C : Cx G p s mt args meth c RX12 cX12_is 2 (some .boolean) "is" A)  (x1 : Int32) (m : Mem) : V G SM oI l p e s mt args below meth c 2 1 A ad0 17 17 RM 17 RM 0 [(0, .ref 0), (1, .int x1)] [] m (X12_is  x1 m) := by
  rw [X12_is]
  refine V.aload_n (pc := 0) C dX12_is_0 0 rfl ?_
  refine V.geti (pc := 1) C fl_RX12_117 sM0 kM0 rfl dX12_is_1 ?_
  refine V.if_ne (pc := 4) C dX12_is_4 19 (by decide) (fun _ => ?_) (fun _ => ?_)
  · refine V.iconst (pc := 19) C dX12_is_19 (v := 0) (by decide) ?_
    exact V.zret rfl C dX12_is_20
  · refine V.aload_n (pc := 7) C dX12_is_7 0 rfl ?_
    refine V.geti (pc := 8) C fl_RX12_99 sM0 kM0 rfl dX12_is_8 ?_
    refine V.iload_n (pc := 11) C dX12_is_11 1 rfl ?_
    refine V.icmp_ne (pc := 12) C dX12_is_12 19 (by decide) (fun _ => ?_) (fun _ => ?_)
    · refine V.iconst (pc := 19) C dX12_is_19 (v := 0) (by decide) ?_
      exact V.zret rfl C dX12_is_20
    · refine V.iconst (pc := 15) C dX12_is_15 (v := 1) (by decide) ?_
      refine V.goto (pc := 16) C dX12_is_16 20 (by decide) ?_
      exact V.zret rfl C dX12_is_20
theorem c_X12_is (l : Launch)   (x1 : Int32) (m : Mem) : Ct l yX12_is cX12_is 2 (some .boolean) 1 SM oI 17 17 RM RM [.ref 0, .int x1] m (X12_is  x1 m) :=
  Ct.of (own := RX12) (nm := "is") (by decide) rfl rfl (Nat.le_of_ble_eq_true rfl) (fun _ _ _ _ _ _ _ _ _ _ _ C => v_X12_is C  x1 m)
theorem dX12_fails_0 : decode cX12_fails 0 = .ok (.aload_n 0, 1) := by decide +kernel
theorem dX12_fails_1 : decode cX12_fails 1 = .ok (.getfield 117, 3) := by decide +kernel
theorem dX12_fails_4 : decode cX12_fails 4 = .ok (.ifCond .eq 4, 3) := by decide +kernel
theorem dX12_fails_7 : decode cX12_fails 7 = .ok (.return_, 1) := by decide +kernel
theorem dX12_fails_8 : decode cX12_fails 8 = .ok (.aload_n 0, 1) := by decide +kernel
theorem dX12_fails_9 : decode cX12_fails 9 = .ok (.aload_n 0, 1) := by decide +kernel
theorem dX12_fails_10 : decode cX12_fails 10 = .ok (.getfield 99, 3) := by decide +kernel
theorem dX12_fails_13 : decode cX12_fails 13 = .ok (.bipush 25, 2) := by decide +kernel
theorem dX12_fails_15 : decode cX12_fails 15 = .ok (.if_icmp .ne 7, 3) := by decide +kernel
theorem dX12_fails_18 : decode cX12_fails 18 = .ok (.iconst 1, 1) := by decide +kernel
theorem dX12_fails_19 : decode cX12_fails 19 = .ok (.goto 4, 3) := by decide +kernel
theorem dX12_fails_22 : decode cX12_fails 22 = .ok (.iload_n 1, 1) := by decide +kernel
theorem dX12_fails_23 : decode cX12_fails 23 = .ok (.putfield 117, 3) := by decide +kernel
theorem dX12_fails_26 : decode cX12_fails 26 = .ok (.aload_n 0, 1) := by decide +kernel
theorem dX12_fails_27 : decode cX12_fails 27 = .ok (.aload_n 0, 1) := by decide +kernel
theorem dX12_fails_28 : decode cX12_fails 28 = .ok (.getfield 89, 3) := by decide +kernel
theorem dX12_fails_31 : decode cX12_fails 31 = .ok (.putfield 120, 3) := by decide +kernel
theorem dX12_fails_34 : decode cX12_fails 34 = .ok (.return_, 1) := by decide +kernel
set_option maxRecDepth 100000 in
set_option maxHeartbeats 4000000 in
theorem v_X12_fails_b23 {l : Launch} {p : Program} {e : Env} {s : State} {mt : MethodId} {args : Array Value} {below : List Frame} {meth : Method} {c : Code} {A : Nat → Prop} {ad0 : Nat → Nat} {G : Gt}  (C : Cx G p s mt args meth c RX12 cX12_fails 2 none "fails" A)  (z0 : Int32) (m : Mem) : V G SM oV l p e s mt args below meth c 2 1 A ad0 17 17 RM 17 RM 23 [(0, .ref 0)] [.int z0, .ref 0] m (X12_fails_b23  z0 m) := by
  rw [X12_fails_b23]
  refine V.puti (pc := 23) C fp_RX12_117 sM0 kM0 rfl dX12_fails_23 ?_
  refine V.ltm (fun m_1 => ?_)
  refine V.aload_n (pc := 26) C dX12_fails_26 0 rfl ?_
  refine V.aload_n (pc := 27) C dX12_fails_27 0 rfl ?_
  refine V.geti (pc := 28) C fl_RX12_89 sM0 kM0 rfl dX12_fails_28 ?_
  refine V.puti (pc := 31) C fp_RX12_120 sM0 kM0 rfl dX12_fails_31 ?_
  refine V.ltm (fun m_2 => ?_)
  exact V.vret C dX12_fails_34
set_option maxRecDepth 100000 in
set_option maxHeartbeats 4000000 in
theorem v_X12_fails {l : Launch} {p : Program} {e : Env} {s : State} {mt : MethodId} {args : Array Value} {below : List Frame} {meth : Method} {c : Code} {A : Nat → Prop} {ad0 : Nat → Nat} {G : Gt}  (C : Cx G p s mt args meth c RX12 cX12_fails 2 none "fails" A)  (x1 : Int32) (m : Mem) : V G SM oV l p e s mt args below meth c 2 1 A ad0 17 17 RM 17 RM 0 [(0, .ref 0), (1, .int x1)] [] m (X12_fails  x1 m) := by
  rw [X12_fails]
  refine V.aload_n (pc := 0) C dX12_fails_0 0 rfl ?_
  refine V.geti (pc := 1) C fl_RX12_117 sM0 kM0 rfl dX12_fails_1 ?_
  refine V.if_eq (pc := 4) C dX12_fails_4 8 (by decide) (fun _ => ?_) (fun _ => ?_)
  · refine V.aload_n (pc := 8) C dX12_fails_8 0 rfl ?_
    refine V.aload_n (pc := 9) C dX12_fails_9 0 rfl ?_
    refine V.geti (pc := 10) C fl_RX12_99 sM0 kM0 rfl dX12_fails_10 ?_
    refine V.bipush (pc := 13) C dX12_fails_13 (v := 25) (by decide) ?_
    refine V.icmp_ne (pc := 15) C dX12_fails_15 22 (by decide) (fun _ => ?_) (fun _ => ?_)
    · refine V.iload_n (pc := 22) C dX12_fails_22 1 rfl ?_
      refine V.wk [0] rfl ?_
      exact v_X12_fails_b23 C  x1 m
    · refine V.iconst (pc := 18) C dX12_fails_18 (v := 1) (by decide) ?_
      refine V.goto (pc := 19) C dX12_fails_19 23 (by decide) ?_
      refine V.wk [0] rfl ?_
      exact v_X12_fails_b23 C  1 m
  · exact V.vret C dX12_fails_7
theorem c_X12_fails (l : Launch)   (x1 : Int32) (m : Mem) : Ct l yX12_fails cX12_fails 2 none 1 SM oV 17 17 RM RM [.ref 0, .int x1] m (X12_fails  x1 m) :=
  Ct.of (own := RX12) (nm := "fails") (by decide) rfl rfl (Nat.le_of_ble_eq_true rfl) (fun _ _ _ _ _ _ _ _ _ _ _ C => v_X12_fails C  x1 m)
theorem dX12_eats_0 : decode cX12_eats 0 = .ok (.aload_n 0, 1) := by decide +kernel
theorem dX12_eats_1 : decode cX12_eats 1 = .ok (.iload_n 1, 1) := by decide +kernel
theorem dX12_eats_2 : decode cX12_eats 2 = .ok (.invokevirtual 123, 3) := by decide +kernel
theorem dX12_eats_5 : decode cX12_eats 5 = .ok (.ifCond .ne 5, 3) := by decide +kernel
theorem dX12_eats_8 : decode cX12_eats 8 = .ok (.iconst 0, 1) := by decide +kernel
theorem dX12_eats_9 : decode cX12_eats 9 = .ok (.ireturn, 1) := by decide +kernel
theorem dX12_eats_10 : decode cX12_eats 10 = .ok (.aload_n 0, 1) := by decide +kernel
theorem dX12_eats_11 : decode cX12_eats 11 = .ok (.invokevirtual 126, 3) := by decide +kernel
theorem dX12_eats_14 : decode cX12_eats 14 = .ok (.iconst 1, 1) := by decide +kernel
theorem dX12_eats_15 : decode cX12_eats 15 = .ok (.ireturn, 1) := by decide +kernel
set_option maxRecDepth 100000 in
set_option maxHeartbeats 4000000 in
theorem v_X12_eats {l : Launch} {p : Program} {e : Env} {s : State} {mt : MethodId} {args : Array Value} {below : List Frame} {meth : Method} {c : Code} {A : Nat → Prop} {ad0 : Nat → Nat} {G : Gt}  (C : Cx G p s mt args meth c RX12 cX12_eats 2 (some .boolean) "eats" A)  (x1 : Int32) (m : Mem) : V G SM oI l p e s mt args below meth c 2 7 A ad0 17 17 RM 17 RM 0 [(0, .ref 0), (1, .int x1)] [] m (X12_eats  x1 m) := by
  rw [X12_eats]
  refine V.aload_n (pc := 0) C dX12_eats_0 0 rfl ?_
  refine V.iload_n (pc := 1) C dX12_eats_1 1 rfl ?_
  refine V.callV (pc := 2) (st := []) C (c_X12_is l x1 m) obI ck_X12_is ml_RX12_123 rfl rfl sM0 kM0 rfl rfl (Nat.le_of_ble_eq_true rfl) ⟨by decide, by decide⟩ dX12_eats_2 (fun r_1 m_2 _ => ?_)
  refine V.if_ne (pc := 5) C dX12_eats_5 10 (by decide) (fun _ => ?_) (fun _ => ?_)
  · refine V.aload_n (pc := 10) C dX12_eats_10 0 rfl ?_
    refine V.callV (pc := 11) (st := []) C (c_X12_next l  m_2) obV ck_X12_next ml_RX12_126 rfl rfl sM0 kM0 rfl rfl (Nat.le_of_ble_eq_true rfl) ⟨by decide, by decide⟩ dX12_eats_11 (fun r_3 m_4 _ => ?_)
    refine V.iconst (pc := 14) C dX12_eats_14 (v := 1) (by decide) ?_
    exact V.zret rfl C dX12_eats_15
  · refine V.iconst (pc := 8) C dX12_eats_8 (v := 0) (by decide) ?_
    exact V.zret rfl C dX12_eats_9
theorem c_X12_eats (l : Launch)   (x1 : Int32) (m : Mem) : Ct l yX12_eats cX12_eats 2 (some .boolean) 7 SM oI 17 17 RM RM [.ref 0, .int x1] m (X12_eats  x1 m) :=
  Ct.of (own := RX12) (nm := "eats") (by decide) rfl rfl (Nat.le_of_ble_eq_true rfl) (fun _ _ _ _ _ _ _ _ _ _ _ C => v_X12_eats C  x1 m)
theorem dX12_takesOne_0 : decode cX12_takesOne 0 = .ok (.aload_n 0, 1) := by decide +kernel
theorem dX12_takesOne_1 : decode cX12_takesOne 1 = .ok (.bipush 23, 2) := by decide +kernel
theorem dX12_takesOne_3 : decode cX12_takesOne 3 = .ok (.invokevirtual 123, 3) := by decide +kernel
theorem dX12_takesOne_6 : decode cX12_takesOne 6 = .ok (.ifCond .ne 11, 3) := by decide +kernel
theorem dX12_takesOne_9 : decode cX12_takesOne 9 = .ok (.aload_n 0, 1) := by decide +kernel
theorem dX12_takesOne_10 : decode cX12_takesOne 10 = .ok (.iconst 2, 1) := by decide +kernel
theorem dX12_takesOne_11 : decode cX12_takesOne 11 = .ok (.invokevirtual 129, 3) := by decide +kernel
theorem dX12_takesOne_14 : decode cX12_takesOne 14 = .ok (.goto 23, 3) := by decide +kernel
theorem dX12_takesOne_17 : decode cX12_takesOne 17 = .ok (.aload_n 0, 1) := by decide +kernel
theorem dX12_takesOne_18 : decode cX12_takesOne 18 = .ok (.getfield 112, 3) := by decide +kernel
theorem dX12_takesOne_21 : decode cX12_takesOne 21 = .ok (.i2l, 1) := by decide +kernel
theorem dX12_takesOne_22 : decode cX12_takesOne 22 = .ok (.iload_n 1, 1) := by decide +kernel
theorem dX12_takesOne_23 : decode cX12_takesOne 23 = .ok (.i2l, 1) := by decide +kernel
theorem dX12_takesOne_24 : decode cX12_takesOne 24 = .ok (.iload_n 2, 1) := by decide +kernel
theorem dX12_takesOne_25 : decode cX12_takesOne 25 = .ok (.i2l, 1) := by decide +kernel
theorem dX12_takesOne_26 : decode cX12_takesOne 26 = .ok (.invokestatic 133, 3) := by decide +kernel
theorem dX12_takesOne_29 : decode cX12_takesOne 29 = .ok (.ifCond .ne 8, 3) := by decide +kernel
theorem dX12_takesOne_32 : decode cX12_takesOne 32 = .ok (.aload_n 0, 1) := by decide +kernel
theorem dX12_takesOne_33 : decode cX12_takesOne 33 = .ok (.iconst 3, 1) := by decide +kernel
theorem dX12_takesOne_34 : decode cX12_takesOne 34 = .ok (.invokevirtual 129, 3) := by decide +kernel
theorem dX12_takesOne_37 : decode cX12_takesOne 37 = .ok (.aload_n 0, 1) := by decide +kernel
theorem dX12_takesOne_38 : decode cX12_takesOne 38 = .ok (.getfield 112, 3) := by decide +kernel
theorem dX12_takesOne_41 : decode cX12_takesOne 41 = .ok (.istore_n 3, 1) := by decide +kernel
theorem dX12_takesOne_42 : decode cX12_takesOne 42 = .ok (.aload_n 0, 1) := by decide +kernel
theorem dX12_takesOne_43 : decode cX12_takesOne 43 = .ok (.getfield 117, 3) := by decide +kernel
theorem dX12_takesOne_46 : decode cX12_takesOne 46 = .ok (.ifCond .ne 7, 3) := by decide +kernel
theorem dX12_takesOne_49 : decode cX12_takesOne 49 = .ok (.aload_n 0, 1) := by decide +kernel
theorem dX12_takesOne_50 : decode cX12_takesOne 50 = .ok (.invokevirtual 126, 3) := by decide +kernel
theorem dX12_takesOne_53 : decode cX12_takesOne 53 = .ok (.iload_n 3, 1) := by decide +kernel
theorem dX12_takesOne_54 : decode cX12_takesOne 54 = .ok (.ireturn, 1) := by decide +kernel
set_option maxRecDepth 100000 in
set_option maxHeartbeats 4000000 in
theorem v_X12_takesOne_b37 {l : Launch} {p : Program} {e : Env} {s : State} {mt : MethodId} {args : Array Value} {below : List Frame} {meth : Method} {c : Code} {A : Nat → Prop} {ad0 : Nat → Nat} {G : Gt}  (C : Cx G p s mt args meth c RX12 cX12_takesOne 4 (some .int) "takesOne" A)  (m : Mem) : V G SM oI l p e s mt args below meth c 4 7 A ad0 17 17 RM 17 RM 37 [(0, .ref 0)] [] m (X12_takesOne_b37   m) := by
  rw [X12_takesOne_b37]
  refine V.aload_n (pc := 37) C dX12_takesOne_37 0 rfl ?_
  refine V.geti (pc := 38) C fl_RX12_112 sM0 kM0 rfl dX12_takesOne_38 ?_
  refine V.lti (fun x_5 _ => ?_)
  refine V.istore_n (pc := 41) C dX12_takesOne_41 (L2 := [(3, .int x_5), (0, .ref 0)]) (by decide) rfl ?_
  refine V.aload_n (pc := 42) C dX12_takesOne_42 1 rfl ?_
  refine V.geti (pc := 43) C fl_RX12_117 sM0 kM0 rfl dX12_takesOne_43 ?_
  refine V.if_ne (pc := 46) C dX12_takesOne_46 53 (by decide) (fun _ => ?_) (fun _ => ?_)
  · refine V.iload_n (pc := 53) C dX12_takesOne_53 0 rfl ?_
    exact V.iret C dX12_takesOne_54
  · refine V.aload_n (pc := 49) C dX12_takesOne_49 1 rfl ?_
    refine V.callV (pc := 50) (st := []) C (c_X12_next l  m) obV ck_X12_next ml_RX12_126 rfl rfl sM0 kM0 rfl rfl (Nat.le_of_ble_eq_true rfl) ⟨by decide, by decide⟩ dX12_takesOne_50 (fun r_6 m_7 _ => ?_)
    refine V.iload_n (pc := 53) C dX12_takesOne_53 0 rfl ?_
    exact V.iret C dX12_takesOne_54
set_option maxRecDepth 100000 in
set_option maxHeartbeats 4000000 in
theorem v_X12_takesOne {l : Launch} {p : Program} {e : Env} {s : State} {mt : MethodId} {args : Array Value} {below : List Frame} {meth : Method} {c : Code} {A : Nat → Prop} {ad0 : Nat → Nat} {G : Gt}  (C : Cx G p s mt args meth c RX12 cX12_takesOne 4 (some .int) "takesOne" A)  (x1 : Int32) (x2 : Int32) (m : Mem) : V G SM oI l p e s mt args below meth c 4 7 A ad0 17 17 RM 17 RM 0 [(0, .ref 0), (1, .int x1), (2, .int x2)] [] m (X12_takesOne  x1 x2 m) := by
  rw [X12_takesOne]
  refine V.aload_n (pc := 0) C dX12_takesOne_0 0 rfl ?_
  refine V.bipush (pc := 1) C dX12_takesOne_1 (v := 23) (by decide) ?_
  refine V.callV (pc := 3) (st := []) C (c_X12_is l 23 m) obI ck_X12_is ml_RX12_123 rfl rfl sM0 kM0 rfl rfl (Nat.le_of_ble_eq_true rfl) ⟨by decide, by decide⟩ dX12_takesOne_3 (fun r_1 m_2 _ => ?_)
  refine V.if_ne (pc := 6) C dX12_takesOne_6 17 (by decide) (fun _ => ?_) (fun _ => ?_)
  · refine V.aload_n (pc := 17) C dX12_takesOne_17 0 rfl ?_
    refine V.geti (pc := 18) C fl_RX12_112 sM0 kM0 rfl dX12_takesOne_18 ?_
    refine V.i2l (pc := 21) C dX12_takesOne_21 ?_
    refine V.iload_n (pc := 22) C dX12_takesOne_22 1 rfl ?_
    refine V.i2l (pc := 23) C dX12_takesOne_23 ?_
    refine V.iload_n (pc := 24) C dX12_takesOne_24 2 rfl ?_
    refine V.i2l (pc := 25) C dX12_takesOne_25 ?_
    refine V.callS (pc := 26) (st := []) C (c_X12_within l (Int32.toInt64 (gi m_2 0 10)) (Int32.toInt64 x1) (Int32.toInt64 x2) m_2) obI ck_X12_within ml_RX12_133 rfl rfl (Nat.le_of_ble_eq_true rfl) ⟨by decide, by decide⟩ dX12_takesOne_26 (fun r_3 m_4 _ => ?_)
    refine V.if_ne (pc := 29) C dX12_takesOne_29 37 (by decide) (fun _ => ?_) (fun _ => ?_)
    · refine V.wk [0] rfl ?_
      exact v_X12_takesOne_b37 C   m_4
    · refine V.aload_n (pc := 32) C dX12_takesOne_32 0 rfl ?_
      refine V.iconst (pc := 33) C dX12_takesOne_33 (v := 3) (by decide) ?_
      refine V.callV (pc := 34) (st := []) C (c_X12_fails l 3 m_4) obV ck_X12_fails ml_RX12_129 rfl rfl sM0 kM0 rfl rfl (Nat.le_of_ble_eq_true rfl) ⟨by decide, by decide⟩ dX12_takesOne_34 (fun r_8 m_9 _ => ?_)
      refine V.wk [0] rfl ?_
      exact v_X12_takesOne_b37 C   m_9
  · refine V.aload_n (pc := 9) C dX12_takesOne_9 0 rfl ?_
    refine V.iconst (pc := 10) C dX12_takesOne_10 (v := 2) (by decide) ?_
    refine V.callV (pc := 11) (st := []) C (c_X12_fails l 2 m_2) obV ck_X12_fails ml_RX12_129 rfl rfl sM0 kM0 rfl rfl (Nat.le_of_ble_eq_true rfl) ⟨by decide, by decide⟩ dX12_takesOne_11 (fun r_10 m_11 _ => ?_)
    refine V.goto (pc := 14) C dX12_takesOne_14 37 (by decide) ?_
    refine V.wk [0] rfl ?_
    exact v_X12_takesOne_b37 C   m_11
theorem c_X12_takesOne (l : Launch)   (x1 : Int32) (x2 : Int32) (m : Mem) : Ct l yX12_takesOne cX12_takesOne 4 (some .int) 7 SM oI 17 17 RM RM [.ref 0, .int x1, .int x2] m (X12_takesOne  x1 x2 m) :=
  Ct.of (own := RX12) (nm := "takesOne") (by decide) rfl rfl (Nat.le_of_ble_eq_true rfl) (fun _ _ _ _ _ _ _ _ _ _ _ C => v_X12_takesOne C  x1 x2 m)
theorem dX12_readThing_0 : decode cX12_readThing 0 = .ok (.aload_n 0, 1) := by decide +kernel
theorem dX12_readThing_1 : decode cX12_readThing 1 = .ok (.getfield 24, 3) := by decide +kernel
theorem dX12_readThing_4 : decode cX12_readThing 4 = .ok (.iconst 1, 1) := by decide +kernel
theorem dX12_readThing_5 : decode cX12_readThing 5 = .ok (.iaload, 1) := by decide +kernel
theorem dX12_readThing_6 : decode cX12_readThing 6 = .ok (.istore_n 1, 1) := by decide +kernel
theorem dX12_readThing_7 : decode cX12_readThing 7 = .ok (.iload_n 1, 1) := by decide +kernel
theorem dX12_readThing_8 : decode cX12_readThing 8 = .ok (.bipush 14, 2) := by decide +kernel
theorem dX12_readThing_10 : decode cX12_readThing 10 = .ok (.if_icmp .ne 8, 3) := by decide +kernel
theorem dX12_readThing_13 : decode cX12_readThing 13 = .ok (.aload_n 0, 1) := by decide +kernel
theorem dX12_readThing_14 : decode cX12_readThing 14 = .ok (.iconst 4, 1) := by decide +kernel
theorem dX12_readThing_15 : decode cX12_readThing 15 = .ok (.invokevirtual 129, 3) := by decide +kernel
theorem dX12_readThing_18 : decode cX12_readThing 18 = .ok (.aload_n 0, 1) := by decide +kernel
theorem dX12_readThing_19 : decode cX12_readThing 19 = .ok (.getfield 117, 3) := by decide +kernel
theorem dX12_readThing_22 : decode cX12_readThing 22 = .ok (.ifCond .eq 4, 3) := by decide +kernel
theorem dX12_readThing_25 : decode cX12_readThing 25 = .ok (.return_, 1) := by decide +kernel
theorem dX12_readThing_26 : decode cX12_readThing 26 = .ok (.aload_n 0, 1) := by decide +kernel
theorem dX12_readThing_27 : decode cX12_readThing 27 = .ok (.invokevirtual 126, 3) := by decide +kernel
theorem dX12_readThing_30 : decode cX12_readThing 30 = .ok (.aload_n 0, 1) := by decide +kernel
theorem dX12_readThing_31 : decode cX12_readThing 31 = .ok (.iconst 1, 1) := by decide +kernel
theorem dX12_readThing_32 : decode cX12_readThing 32 = .ok (.invokevirtual 150, 3) := by decide +kernel
theorem dX12_readThing_35 : decode cX12_readThing 35 = .ok (.ifCond .eq 13, 3) := by decide +kernel
theorem dX12_readThing_38 : decode cX12_readThing 38 = .ok (.aload_n 0, 1) := by decide +kernel
theorem dX12_readThing_39 : decode cX12_readThing 39 = .ok (.iconst 1, 1) := by decide +kernel
theorem dX12_readThing_40 : decode cX12_readThing 40 = .ok (.bipush 99, 2) := by decide +kernel
theorem dX12_readThing_42 : decode cX12_readThing 42 = .ok (.invokevirtual 168, 3) := by decide +kernel
theorem dX12_readThing_45 : decode cX12_readThing 45 = .ok (.goto 4, 3) := by decide +kernel
theorem dX12_readThing_48 : decode cX12_readThing 48 = .ok (.iconst 0, 1) := by decide +kernel
theorem dX12_readThing_49 : decode cX12_readThing 49 = .ok (.istore_n 2, 1) := by decide +kernel
theorem dX12_readThing_50 : decode cX12_readThing 50 = .ok (.aload_n 0, 1) := by decide +kernel
theorem dX12_readThing_51 : decode cX12_readThing 51 = .ok (.getfield 117, 3) := by decide +kernel
theorem dX12_readThing_54 : decode cX12_readThing 54 = .ok (.ifCond .eq 4, 3) := by decide +kernel
theorem dX12_readThing_57 : decode cX12_readThing 57 = .ok (.return_, 1) := by decide +kernel
theorem dX12_readThing_58 : decode cX12_readThing 58 = .ok (.aload_n 0, 1) := by decide +kernel
theorem dX12_readThing_59 : decode cX12_readThing 59 = .ok (.getfield 24, 3) := by decide +kernel
theorem dX12_readThing_62 : decode cX12_readThing 62 = .ok (.bipush 11, 2) := by decide +kernel
theorem dX12_readThing_64 : decode cX12_readThing 64 = .ok (.iload_n 1, 1) := by decide +kernel
theorem dX12_readThing_65 : decode cX12_readThing 65 = .ok (.iadd, 1) := by decide +kernel
theorem dX12_readThing_66 : decode cX12_readThing 66 = .ok (.iload_n 2, 1) := by decide +kernel
theorem dX12_readThing_67 : decode cX12_readThing 67 = .ok (.iastore, 1) := by decide +kernel
theorem dX12_readThing_68 : decode cX12_readThing 68 = .ok (.aload_n 0, 1) := by decide +kernel
theorem dX12_readThing_69 : decode cX12_readThing 69 = .ok (.getfield 24, 3) := by decide +kernel
theorem dX12_readThing_72 : decode cX12_readThing 72 = .ok (.iconst 1, 1) := by decide +kernel
theorem dX12_readThing_73 : decode cX12_readThing 73 = .ok (.dup2, 1) := by decide +kernel
theorem dX12_readThing_74 : decode cX12_readThing 74 = .ok (.iaload, 1) := by decide +kernel
theorem dX12_readThing_75 : decode cX12_readThing 75 = .ok (.iconst 1, 1) := by decide +kernel
theorem dX12_readThing_76 : decode cX12_readThing 76 = .ok (.iadd, 1) := by decide +kernel
theorem dX12_readThing_77 : decode cX12_readThing 77 = .ok (.iastore, 1) := by decide +kernel
theorem dX12_readThing_78 : decode cX12_readThing 78 = .ok (.return_, 1) := by decide +kernel
set_option maxRecDepth 100000 in
set_option maxHeartbeats 4000000 in
theorem v_X12_readThing_b49 {l : Launch} {p : Program} {e : Env} {s : State} {mt : MethodId} {args : Array Value} {below : List Frame} {meth : Method} {c : Code} {A : Nat → Prop} {ad0 : Nat → Nat} {G : Gt}  (C : Cx G p s mt args meth c RX12 cX12_readThing 3 none "readThing" A)  (y1 : Int32) (z0 : Int32) (m : Mem) : V G SM oV l p e s mt args below meth c 3 8 A ad0 17 17 RM 17 RM 49 [(0, .ref 0), (1, .int y1)] [.int z0] m (X12_readThing_b49  y1 z0 m) := by
  rw [X12_readThing_b49]
  refine V.istore_n (pc := 49) C dX12_readThing_49 (L2 := [(2, .int z0), (0, .ref 0), (1, .int y1)]) (by decide) rfl ?_
  refine V.aload_n (pc := 50) C dX12_readThing_50 1 rfl ?_
  refine V.geti (pc := 51) C fl_RX12_117 sM0 kM0 rfl dX12_readThing_51 ?_
  refine V.if_eq (pc := 54) C dX12_readThing_54 58 (by decide) (fun _ => ?_) (fun _ => ?_)
  · refine V.aload_n (pc := 58) C dX12_readThing_58 1 rfl ?_
    refine V.getr (pc := 59) C fl_RX12_24 sM0 kM0 rfl rM0_4 dX12_readThing_59 ?_
    refine V.bipush (pc := 62) C dX12_readThing_62 (v := 11) (by decide) ?_
    refine V.iload_n (pc := 64) C dX12_readThing_64 2 rfl ?_
    refine V.iadd (pc := 65) C dX12_readThing_65 ?_
    refine V.iload_n (pc := 66) C dX12_readThing_66 0 rfl ?_
    refine V.iast (pc := 67) C sM4 kM4 dX12_readThing_67 (fun _ => ?_)
    refine V.ltm (fun m_6 => ?_)
    refine V.aload_n (pc := 68) C dX12_readThing_68 1 rfl ?_
    refine V.getr (pc := 69) C fl_RX12_24 sM0 kM0 rfl rM0_4 dX12_readThing_69 ?_
    refine V.iconst (pc := 72) C dX12_readThing_72 (v := 1) (by decide) ?_
    refine V.dup2 (pc := 73) C dX12_readThing_73 rfl rfl ?_
    refine V.iald (pc := 74) C sM4 kM4 dX12_readThing_74 (fun _ => ?_)
    refine V.iconst (pc := 75) C dX12_readThing_75 (v := 1) (by decide) ?_
    refine V.iadd (pc := 76) C dX12_readThing_76 ?_
    refine V.iast (pc := 77) C sM4 kM4 dX12_readThing_77 (fun _ => ?_)
    refine V.ltm (fun m_7 => ?_)
    exact V.vret C dX12_readThing_78
  · exact V.vret C dX12_readThing_57
set_option maxRecDepth 100000 in
set_option maxHeartbeats 4000000 in
theorem v_X12_readThing_b18 {l : Launch} {p : Program} {e : Env} {s : State} {mt : MethodId} {args : Array Value} {below : List Frame} {meth : Method} {c : Code} {A : Nat → Prop} {ad0 : Nat → Nat} {G : Gt}  (C : Cx G p s mt args meth c RX12 cX12_readThing 3 none "readThing" A)  (y1 : Int32) (m : Mem) : V G SM oV l p e s mt args below meth c 3 8 A ad0 17 17 RM 17 RM 18 [(0, .ref 0), (1, .int y1)] [] m (X12_readThing_b18  y1 m) := by
  rw [X12_readThing_b18]
  refine V.aload_n (pc := 18) C dX12_readThing_18 0 rfl ?_
  refine V.geti (pc := 19) C fl_RX12_117 sM0 kM0 rfl dX12_readThing_19 ?_
  refine V.if_eq (pc := 22) C dX12_readThing_22 26 (by decide) (fun _ => ?_) (fun _ => ?_)
  · refine V.aload_n (pc := 26) C dX12_readThing_26 0 rfl ?_
    refine V.callV (pc := 27) (st := []) C (c_X12_next l  m) obV ck_X12_next ml_RX12_126 rfl rfl sM0 kM0 rfl rfl (Nat.le_of_ble_eq_true rfl) ⟨by decide, by decide⟩ dX12_readThing_27 (fun r_2 m_3 _ => ?_)
    refine V.aload_n (pc := 30) C dX12_readThing_30 0 rfl ?_
    refine V.iconst (pc := 31) C dX12_readThing_31 (v := 1) (by decide) ?_
    refine V.callV (pc := 32) (st := []) C (c_X12_eats l 1 m_3) obI ck_X12_eats ml_RX12_150 rfl rfl sM0 kM0 rfl rfl (Nat.le_of_ble_eq_true rfl) ⟨by decide, by decide⟩ dX12_readThing_32 (fun r_4 m_5 _ => ?_)
    refine V.if_eq (pc := 35) C dX12_readThing_35 48 (by decide) (fun _ => ?_) (fun _ => ?_)
    · refine V.iconst (pc := 48) C dX12_readThing_48 (v := 0) (by decide) ?_
      refine V.wk [0, 1] rfl ?_
      exact v_X12_readThing_b49 C  y1 0 m_5
    · refine V.aload_n (pc := 38) C dX12_readThing_38 0 rfl ?_
      refine V.iconst (pc := 39) C dX12_readThing_39 (v := 1) (by decide) ?_
      refine V.bipush (pc := 40) C dX12_readThing_40 (v := 99) (by decide) ?_
      refine V.callV (pc := 42) (st := []) C (c_X12_takesOne l 1 99 m_5) obI ck_X12_takesOne ml_RX12_168 rfl rfl sM0 kM0 rfl rfl (Nat.le_of_ble_eq_true rfl) ⟨by decide, by decide⟩ dX12_readThing_42 (fun r_8 m_9 _ => ?_)
      refine V.goto (pc := 45) C dX12_readThing_45 49 (by decide) ?_
      refine V.wk [0, 1] rfl ?_
      exact v_X12_readThing_b49 C  y1 r_8 m_9
  · exact V.vret C dX12_readThing_25
set_option maxRecDepth 100000 in
set_option maxHeartbeats 4000000 in
theorem v_X12_readThing {l : Launch} {p : Program} {e : Env} {s : State} {mt : MethodId} {args : Array Value} {below : List Frame} {meth : Method} {c : Code} {A : Nat → Prop} {ad0 : Nat → Nat} {G : Gt}  (C : Cx G p s mt args meth c RX12 cX12_readThing 3 none "readThing" A)  (m : Mem) : V G SM oV l p e s mt args below meth c 3 8 A ad0 17 17 RM 17 RM 0 [(0, .ref 0)] [] m (X12_readThing   m) := by
  rw [X12_readThing]
  refine V.aload_n (pc := 0) C dX12_readThing_0 0 rfl ?_
  refine V.getr (pc := 1) C fl_RX12_24 sM0 kM0 rfl rM0_4 dX12_readThing_1 ?_
  refine V.iconst (pc := 4) C dX12_readThing_4 (v := 1) (by decide) ?_
  refine V.iald (pc := 5) C sM4 kM4 dX12_readThing_5 (fun _ => ?_)
  refine V.lti (fun x_1 _ => ?_)
  refine V.istore_n (pc := 6) C dX12_readThing_6 (L2 := [(1, .int x_1), (0, .ref 0)]) (by decide) rfl ?_
  refine V.iload_n (pc := 7) C dX12_readThing_7 0 rfl ?_
  refine V.bipush (pc := 8) C dX12_readThing_8 (v := 14) (by decide) ?_
  refine V.icmp_ne (pc := 10) C dX12_readThing_10 18 (by decide) (fun _ => ?_) (fun _ => ?_)
  · refine V.wk [1, 0] rfl ?_
    exact v_X12_readThing_b18 C  x_1 m
  · refine V.aload_n (pc := 13) C dX12_readThing_13 1 rfl ?_
    refine V.iconst (pc := 14) C dX12_readThing_14 (v := 4) (by decide) ?_
    refine V.callV (pc := 15) (st := []) C (c_X12_fails l 4 m) obV ck_X12_fails ml_RX12_129 rfl rfl sM0 kM0 rfl rfl (Nat.le_of_ble_eq_true rfl) ⟨by decide, by decide⟩ dX12_readThing_15 (fun r_10 m_11 _ => ?_)
    refine V.wk [1, 0] rfl ?_
    exact v_X12_readThing_b18 C  x_1 m_11
theorem c_X12_readThing (l : Launch)   (m : Mem) : Ct l yX12_readThing cX12_readThing 3 none 8 SM oV 17 17 RM RM [.ref 0] m (X12_readThing   m) :=
  Ct.of (own := RX12) (nm := "readThing") (by decide) rfl rfl (Nat.le_of_ble_eq_true rfl) (fun _ _ _ _ _ _ _ _ _ _ _ C => v_X12_readThing C   m)
theorem dX12_takesThings_0 : decode cX12_takesThings 0 = .ok (.iconst 0, 1) := by decide +kernel
theorem dX12_takesThings_1 : decode cX12_takesThings 1 = .ok (.istore_n 1, 1) := by decide +kernel
theorem dX12_takesThings_2 : decode cX12_takesThings 2 = .ok (.iconst 0, 1) := by decide +kernel
theorem dX12_takesThings_3 : decode cX12_takesThings 3 = .ok (.istore_n 2, 1) := by decide +kernel
theorem dX12_takesThings_4 : decode cX12_takesThings 4 = .ok (.aload_n 0, 1) := by decide +kernel
theorem dX12_takesThings_5 : decode cX12_takesThings 5 = .ok (.getfield 117, 3) := by decide +kernel
theorem dX12_takesThings_8 : decode cX12_takesThings 8 = .ok (.ifCond .ne 48, 3) := by decide +kernel
theorem dX12_takesThings_11 : decode cX12_takesThings 11 = .ok (.iload_n 2, 1) := by decide +kernel
theorem dX12_takesThings_12 : decode cX12_takesThings 12 = .ok (.ifCond .eq 12, 3) := by decide +kernel
theorem dX12_takesThings_15 : decode cX12_takesThings 15 = .ok (.aload_n 0, 1) := by decide +kernel
theorem dX12_takesThings_16 : decode cX12_takesThings 16 = .ok (.bipush 23, 2) := by decide +kernel
theorem dX12_takesThings_18 : decode cX12_takesThings 18 = .ok (.invokevirtual 123, 3) := by decide +kernel
theorem dX12_takesThings_21 : decode cX12_takesThings 21 = .ok (.ifCond .eq 35, 3) := by decide +kernel
theorem dX12_takesThings_24 : decode cX12_takesThings 24 = .ok (.aload_n 0, 1) := by decide +kernel
theorem dX12_takesThings_25 : decode cX12_takesThings 25 = .ok (.iconst 0, 1) := by decide +kernel
theorem dX12_takesThings_26 : decode cX12_takesThings 26 = .ok (.aload_n 0, 1) := by decide +kernel
theorem dX12_takesThings_27 : decode cX12_takesThings 27 = .ok (.getfield 24, 3) := by decide +kernel
theorem dX12_takesThings_30 : decode cX12_takesThings 30 = .ok (.iconst 1, 1) := by decide +kernel
theorem dX12_takesThings_31 : decode cX12_takesThings 31 = .ok (.iaload, 1) := by decide +kernel
theorem dX12_takesThings_32 : decode cX12_takesThings 32 = .ok (.iconst 1, 1) := by decide +kernel
theorem dX12_takesThings_33 : decode cX12_takesThings 33 = .ok (.isub, 1) := by decide +kernel
theorem dX12_takesThings_34 : decode cX12_takesThings 34 = .ok (.invokevirtual 168, 3) := by decide +kernel
theorem dX12_takesThings_37 : decode cX12_takesThings 37 = .ok (.istore_n 3, 1) := by decide +kernel
theorem dX12_takesThings_38 : decode cX12_takesThings 38 = .ok (.aload_n 0, 1) := by decide +kernel
theorem dX12_takesThings_39 : decode cX12_takesThings 39 = .ok (.getfield 117, 3) := by decide +kernel
theorem dX12_takesThings_42 : decode cX12_takesThings 42 = .ok (.ifCond .ne 9, 3) := by decide +kernel
theorem dX12_takesThings_45 : decode cX12_takesThings 45 = .ok (.iload_n 1, 1) := by decide +kernel
theorem dX12_takesThings_46 : decode cX12_takesThings 46 = .ok (.iconst 1, 1) := by decide +kernel
theorem dX12_takesThings_47 : decode cX12_takesThings 47 = .ok (.iload_n 3, 1) := by decide +kernel
theorem dX12_takesThings_48 : decode cX12_takesThings 48 = .ok (.ishl, 1) := by decide +kernel
theorem dX12_takesThings_49 : decode cX12_takesThings 49 = .ok (.ior, 1) := by decide +kernel
theorem dX12_takesThings_50 : decode cX12_takesThings 50 = .ok (.istore_n 1, 1) := by decide +kernel
theorem dX12_takesThings_51 : decode cX12_takesThings 51 = .ok (.iconst 1, 1) := by decide +kernel
theorem dX12_takesThings_52 : decode cX12_takesThings 52 = .ok (.istore_n 2, 1) := by decide +kernel
theorem dX12_takesThings_53 : decode cX12_takesThings 53 = .ok (.goto (-49), 3) := by decide +kernel
theorem dX12_takesThings_56 : decode cX12_takesThings 56 = .ok (.iload_n 1, 1) := by decide +kernel
theorem dX12_takesThings_57 : decode cX12_takesThings 57 = .ok (.ireturn, 1) := by decide +kernel
set_option maxRecDepth 100000 in
set_option maxHeartbeats 4000000 in
theorem v_X12_takesThings_b24 {l : Launch} {p : Program} {e : Env} {s : State} {mt : MethodId} {args : Array Value} {below : List Frame} {meth : Method} {c : Code} {A : Nat → Prop} {ad0 : Nat → Nat} {G : Gt}  (C : Cx G p s mt args meth c RX12 cX12_takesThings 4 (some .int) "takesThings" A) (k4 : Int32 → Int32 → Mem → Option (Int32 × Mem)) (h4 : ∀ (y1 : Int32) (y2 : Int32) (m : Mem), V G SM oI l p e s mt args below meth c 4 8 A ad0 17 17 RM 17 RM 4 [(0, .ref 0), (1, .int y1), (2, .int y2)] [] m (k4 y1 y2 m)) (y1 : Int32) (m : Mem) : V G SM oI l p e s mt args below meth c 4 8 A ad0 17 17 RM 17 RM 24 [(0, .ref 0), (1, .int y1)] [] m (X12_takesThings_b24 k4 y1 m) := by
  rw [X12_takesThings_b24]
  refine V.aload_n (pc := 24) C dX12_takesThings_24 0 rfl ?_
  refine V.iconst (pc := 25) C dX12_takesThings_25 (v := 0) (by decide) ?_
  refine V.aload_n (pc := 26) C dX12_takesThings_26 0 rfl ?_
  refine V.getr (pc := 27) C fl_RX12_24 sM0 kM0 rfl rM0_4 dX12_takesThings_27 ?_
  refine V.iconst (pc := 30) C dX12_takesThings_30 (v := 1) (by decide) ?_
  refine V.iald (pc := 31) C sM4 kM4 dX12_takesThings_31 (fun _ => ?_)
  refine V.iconst (pc := 32) C dX12_takesThings_32 (v := 1) (by decide) ?_
  refine V.isub (pc := 33) C dX12_takesThings_33 ?_
  refine V.callV (pc := 34) (st := []) C (c_X12_takesOne l 0 ((gi m 4 (ix 1)) - 1) m) obI ck_X12_takesOne ml_RX12_168 rfl rfl sM0 kM0 rfl rfl (Nat.le_of_ble_eq_true rfl) ⟨by decide, by decide⟩ dX12_takesThings_34 (fun r_1 m_2 _ => ?_)
  refine V.istore_n (pc := 37) C dX12_takesThings_37 (L2 := [(3, .int r_1), (0, .ref 0), (1, .int y1)]) (by decide) rfl ?_
  refine V.aload_n (pc := 38) C dX12_takesThings_38 1 rfl ?_
  refine V.geti (pc := 39) C fl_RX12_117 sM0 kM0 rfl dX12_takesThings_39 ?_
  refine V.if_ne (pc := 42) C dX12_takesThings_42 51 (by decide) (fun _ => ?_) (fun _ => ?_)
  · refine V.iconst (pc := 51) C dX12_takesThings_51 (v := 1) (by decide) ?_
    refine V.istore_n (pc := 52) C dX12_takesThings_52 (L2 := [(2, .int 1), (3, .int r_1), (0, .ref 0), (1, .int y1)]) (by decide) rfl ?_
    refine V.goto (pc := 53) C dX12_takesThings_53 4 (by decide) ?_
    refine V.wk [2, 3, 0] rfl ?_
    exact h4 y1 1 m_2
  · refine V.iload_n (pc := 45) C dX12_takesThings_45 2 rfl ?_
    refine V.iconst (pc := 46) C dX12_takesThings_46 (v := 1) (by decide) ?_
    refine V.iload_n (pc := 47) C dX12_takesThings_47 0 rfl ?_
    refine V.ishl (pc := 48) C dX12_takesThings_48 ?_
    refine V.ior (pc := 49) C dX12_takesThings_49 ?_
    refine V.lti (fun x_3 _ => ?_)
    refine V.istore_n (pc := 50) C dX12_takesThings_50 (L2 := [(1, .int x_3), (3, .int r_1), (0, .ref 0)]) (by decide) rfl ?_
    refine V.iconst (pc := 51) C dX12_takesThings_51 (v := 1) (by decide) ?_
    refine V.istore_n (pc := 52) C dX12_takesThings_52 (L2 := [(2, .int 1), (1, .int x_3), (3, .int r_1), (0, .ref 0)]) (by decide) rfl ?_
    refine V.goto (pc := 53) C dX12_takesThings_53 4 (by decide) ?_
    refine V.wk [3, 1, 0] rfl ?_
    exact h4 x_3 1 m_2
set_option maxRecDepth 100000 in
set_option maxHeartbeats 4000000 in
theorem v_X12_takesThings_b4 {l : Launch} {p : Program} {e : Env} {s : State} {mt : MethodId} {args : Array Value} {below : List Frame} {meth : Method} {c : Code} {A : Nat → Prop} {ad0 : Nat → Nat} {G : Gt}  (C : Cx G p s mt args meth c RX12 cX12_takesThings 4 (some .int) "takesThings" A)  : ∀ (n : Nat) (y1 : Int32) (y2 : Int32) (m : Mem), V G SM oI l p e s mt args below meth c 4 8 A ad0 17 17 RM 17 RM 4 [(0, .ref 0), (1, .int y1), (2, .int y2)] [] m (X12_takesThings_b4  n y1 y2 m) := by
  intro n
  induction n with
  | zero =>
    intro y1 y2 m
    rw [X12_takesThings_b4]
    exact V.nil
  | succ n ih =>
    intro y1 y2 m
    rw [X12_takesThings_b4]
    refine V.aload_n (pc := 4) C dX12_takesThings_4 0 rfl ?_
    refine V.geti (pc := 5) C fl_RX12_117 sM0 kM0 rfl dX12_takesThings_5 ?_
    refine V.if_ne (pc := 8) C dX12_takesThings_8 56 (by decide) (fun _ => ?_) (fun _ => ?_)
    · refine V.iload_n (pc := 56) C dX12_takesThings_56 1 rfl ?_
      exact V.iret C dX12_takesThings_57
    · refine V.iload_n (pc := 11) C dX12_takesThings_11 2 rfl ?_
      refine V.if_eq (pc := 12) C dX12_takesThings_12 24 (by decide) (fun _ => ?_) (fun _ => ?_)
      · refine V.wk [0, 1] rfl ?_
        exact v_X12_takesThings_b24 C (X12_takesThings_b4 n) ih y1 m
      · refine V.aload_n (pc := 15) C dX12_takesThings_15 0 rfl ?_
        refine V.bipush (pc := 16) C dX12_takesThings_16 (v := 23) (by decide) ?_
        refine V.callV (pc := 18) (st := []) C (c_X12_is l 23 m) obI ck_X12_is ml_RX12_123 rfl rfl sM0 kM0 rfl rfl (Nat.le_of_ble_eq_true rfl) ⟨by decide, by decide⟩ dX12_takesThings_18 (fun r_4 m_5 _ => ?_)
        refine V.if_eq (pc := 21) C dX12_takesThings_21 56 (by decide) (fun _ => ?_) (fun _ => ?_)
        · refine V.iload_n (pc := 56) C dX12_takesThings_56 1 rfl ?_
          exact V.iret C dX12_takesThings_57
        · refine V.wk [0, 1] rfl ?_
          exact v_X12_takesThings_b24 C (X12_takesThings_b4 n) ih y1 m_5
set_option maxRecDepth 100000 in
set_option maxHeartbeats 4000000 in
theorem v_X12_takesThings {l : Launch} {p : Program} {e : Env} {s : State} {mt : MethodId} {args : Array Value} {below : List Frame} {meth : Method} {c : Code} {A : Nat → Prop} {ad0 : Nat → Nat} {G : Gt}  (C : Cx G p s mt args meth c RX12 cX12_takesThings 4 (some .int) "takesThings" A)  (m : Mem) : V G SM oI l p e s mt args below meth c 4 8 A ad0 17 17 RM 17 RM 0 [(0, .ref 0)] [] m (X12_takesThings   m) := by
  rw [X12_takesThings]
  refine V.iconst (pc := 0) C dX12_takesThings_0 (v := 0) (by decide) ?_
  refine V.istore_n (pc := 1) C dX12_takesThings_1 (L2 := [(1, .int 0), (0, .ref 0)]) (by decide) rfl ?_
  refine V.iconst (pc := 2) C dX12_takesThings_2 (v := 0) (by decide) ?_
  refine V.istore_n (pc := 3) C dX12_takesThings_3 (L2 := [(2, .int 0), (1, .int 0), (0, .ref 0)]) (by decide) rfl ?_
  refine V.wk [2, 1, 0] rfl ?_
  exact v_X12_takesThings_b4 C  FU 0 0 m
theorem c_X12_takesThings (l : Launch)   (m : Mem) : Ct l yX12_takesThings cX12_takesThings 4 (some .int) 8 SM oI 17 17 RM RM [.ref 0] m (X12_takesThings   m) :=
  Ct.of (own := RX12) (nm := "takesThings") (by decide) rfl rfl (Nat.le_of_ble_eq_true rfl) (fun _ _ _ _ _ _ _ _ _ _ _ C => v_X12_takesThings C   m)
