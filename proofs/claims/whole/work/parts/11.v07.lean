theorem dX11_byWhen_0 : decode cX11_byWhen 0 = .ok (.aload_n 0, 1) := by decide +kernel
theorem dX11_byWhen_1 : decode cX11_byWhen 1 = .ok (.getfield 38, 3) := by decide +kernel
theorem dX11_byWhen_4 : decode cX11_byWhen 4 = .ok (.iload_n 1, 1) := by decide +kernel
theorem dX11_byWhen_5 : decode cX11_byWhen 5 = .ok (.invokevirtual 123, 3) := by decide +kernel
theorem dX11_byWhen_8 : decode cX11_byWhen 8 = .ok (.ifCond .eq 14, 3) := by decide +kernel
theorem dX11_byWhen_11 : decode cX11_byWhen 11 = .ok (.aload_n 0, 1) := by decide +kernel
theorem dX11_byWhen_12 : decode cX11_byWhen 12 = .ok (.getfield 38, 3) := by decide +kernel
theorem dX11_byWhen_15 : decode cX11_byWhen 15 = .ok (.iload_n 2, 1) := by decide +kernel
theorem dX11_byWhen_16 : decode cX11_byWhen 16 = .ok (.invokevirtual 140, 3) := by decide +kernel
theorem dX11_byWhen_19 : decode cX11_byWhen 19 = .ok (.ifCond .ne 6, 3) := by decide +kernel
theorem dX11_byWhen_22 : decode cX11_byWhen 22 = .ok (.bipush (-2), 2) := by decide +kernel
theorem dX11_byWhen_24 : decode cX11_byWhen 24 = .ok (.ireturn, 1) := by decide +kernel
theorem dX11_byWhen_25 : decode cX11_byWhen 25 = .ok (.aload_n 0, 1) := by decide +kernel
theorem dX11_byWhen_26 : decode cX11_byWhen 26 = .ok (.getfield 42, 3) := by decide +kernel
theorem dX11_byWhen_29 : decode cX11_byWhen 29 = .ok (.getfield 108, 3) := by decide +kernel
theorem dX11_byWhen_32 : decode cX11_byWhen 32 = .ok (.aload_n 0, 1) := by decide +kernel
theorem dX11_byWhen_33 : decode cX11_byWhen 33 = .ok (.getfield 38, 3) := by decide +kernel
theorem dX11_byWhen_36 : decode cX11_byWhen 36 = .ok (.getfield 108, 3) := by decide +kernel
theorem dX11_byWhen_39 : decode cX11_byWhen 39 = .ok (.invokevirtual 111, 3) := by decide +kernel
theorem dX11_byWhen_42 : decode cX11_byWhen 42 = .ok (.iconst 0, 1) := by decide +kernel
theorem dX11_byWhen_43 : decode cX11_byWhen 43 = .ok (.istore_n 3, 1) := by decide +kernel
theorem dX11_byWhen_44 : decode cX11_byWhen 44 = .ok (.iload_n 3, 1) := by decide +kernel
theorem dX11_byWhen_45 : decode cX11_byWhen 45 = .ok (.bipush 60, 2) := by decide +kernel
theorem dX11_byWhen_47 : decode cX11_byWhen 47 = .ok (.if_icmp .gt 34, 3) := by decide +kernel
theorem dX11_byWhen_50 : decode cX11_byWhen 50 = .ok (.aload_n 0, 1) := by decide +kernel
theorem dX11_byWhen_51 : decode cX11_byWhen 51 = .ok (.getfield 42, 3) := by decide +kernel
theorem dX11_byWhen_54 : decode cX11_byWhen 54 = .ok (.getfield 108, 3) := by decide +kernel
theorem dX11_byWhen_57 : decode cX11_byWhen 57 = .ok (.iload_n 1, 1) := by decide +kernel
theorem dX11_byWhen_58 : decode cX11_byWhen 58 = .ok (.iload_n 2, 1) := by decide +kernel
theorem dX11_byWhen_59 : decode cX11_byWhen 59 = .ok (.invokevirtual 143, 3) := by decide +kernel
theorem dX11_byWhen_62 : decode cX11_byWhen 62 = .ok (.ifCond .eq 5, 3) := by decide +kernel
theorem dX11_byWhen_65 : decode cX11_byWhen 65 = .ok (.iload_n 3, 1) := by decide +kernel
theorem dX11_byWhen_66 : decode cX11_byWhen 66 = .ok (.ireturn, 1) := by decide +kernel
theorem dX11_byWhen_67 : decode cX11_byWhen 67 = .ok (.aload_n 0, 1) := by decide +kernel
theorem dX11_byWhen_68 : decode cX11_byWhen 68 = .ok (.getfield 42, 3) := by decide +kernel
theorem dX11_byWhen_71 : decode cX11_byWhen 71 = .ok (.iload_n 1, 1) := by decide +kernel
theorem dX11_byWhen_72 : decode cX11_byWhen 72 = .ok (.invokevirtual 312, 3) := by decide +kernel
theorem dX11_byWhen_75 : decode cX11_byWhen 75 = .ok (.iinc 3 1, 3) := by decide +kernel
theorem dX11_byWhen_78 : decode cX11_byWhen 78 = .ok (.goto (-34), 3) := by decide +kernel
theorem dX11_byWhen_81 : decode cX11_byWhen 81 = .ok (.iconst (-1), 1) := by decide +kernel
theorem dX11_byWhen_82 : decode cX11_byWhen 82 = .ok (.ireturn, 1) := by decide +kernel
set_option maxRecDepth 100000 in
set_option maxHeartbeats 4000000 in
theorem v_X11_byWhen_b44 {l : Launch} {p : Program} {e : Env} {s : State} {mt : MethodId} {args : Array Value} {below : List Frame} {meth : Method} {c : Code} {A : Nat → Prop} {ad0 : Nat → Nat} {G : Gt} {N : Nat} (C : Cx G p s mt args meth c RX11 cX11_byWhen 4 (some .int) "byWhen" A) (hN : 109 ≤ N) : ∀ (n : Nat) (y1 : Int32) (y2 : Int32) (y3 : Int32) (m : Mem), V G SX oI l p e s mt args below meth c 4 7 A ad0 N N RX N RX 44 [(0, .ref 0), (1, .int y1), (2, .int y2), (3, .int y3)] [] m (X11_byWhen_b44  n y1 y2 y3 m) := by
  intro n
  induction n with
  | zero =>
    intro y1 y2 y3 m
    rw [X11_byWhen_b44]
    exact V.nil
  | succ n ih =>
    intro y1 y2 y3 m
    rw [X11_byWhen_b44]
    refine V.iload_n (pc := 44) C dX11_byWhen_44 3 rfl ?_
    refine V.bipush (pc := 45) C dX11_byWhen_45 (v := 60) (by decide) ?_
    refine V.icmp_gt (pc := 47) C dX11_byWhen_47 81 (by decide) (fun _ => ?_) (fun _ => ?_)
    · refine V.iconst (pc := 81) C dX11_byWhen_81 (v := (-1)) (by decide) ?_
      exact V.iret C dX11_byWhen_82
    · refine V.aload_n (pc := 50) C dX11_byWhen_50 0 rfl ?_
      refine V.getr (pc := 51) C fl_RX11_42 sX0 (kX0 hN) rfl rX0_7 dX11_byWhen_51 ?_
      refine V.getr (pc := 54) C fl_RX11_108 sX32 (kX32 hN) rfl rX32_2 dX11_byWhen_54 ?_
      refine V.iload_n (pc := 57) C dX11_byWhen_57 1 rfl ?_
      refine V.iload_n (pc := 58) C dX11_byWhen_58 2 rfl ?_
      refine V.callV (pc := 59) (st := []) C (c_X5_has l hN 33 (iX33 hN) y1 y2 m) obI ck_X5_has ml_RX11_143 rfl rfl sX33 (kX33 hN) rfl rfl (Nat.le_of_ble_eq_true rfl) ⟨by decide, by decide⟩ dX11_byWhen_59 (fun r_7 m_8 _ => ?_)
      refine V.if_eq (pc := 62) C dX11_byWhen_62 67 (by decide) (fun _ => ?_) (fun _ => ?_)
      · refine V.aload_n (pc := 67) C dX11_byWhen_67 0 rfl ?_
        refine V.getr (pc := 68) C fl_RX11_42 sX0 (kX0 hN) rfl rX0_7 dX11_byWhen_68 ?_
        refine V.iload_n (pc := 71) C dX11_byWhen_71 1 rfl ?_
        refine V.callV (pc := 72) (st := []) C (c_X10_passYearAround l hN 32 (iX32 hN) y1 m_8) obV ck_X10_passYearAround ml_RX11_312 rfl rfl sX32 (kX32 hN) rfl rfl (Nat.le_of_ble_eq_true rfl) ⟨by decide, by decide⟩ dX11_byWhen_72 (fun r_9 m_10 _ => ?_)
        refine V.iinc (pc := 75) C dX11_byWhen_75 (v := 1) (L2 := [(3, .int (y3 + 1)), (0, .ref 0), (1, .int y1), (2, .int y2)]) 3 rfl (by decide) (by decide) rfl ?_
        refine V.goto (pc := 78) C dX11_byWhen_78 44 (by decide) ?_
        refine V.wk [1, 2, 3, 0] rfl ?_
        exact ih y1 y2 (y3 + 1) m_10
      · refine V.iload_n (pc := 65) C dX11_byWhen_65 3 rfl ?_
        exact V.iret C dX11_byWhen_66
set_option maxRecDepth 100000 in
set_option maxHeartbeats 4000000 in
theorem v_X11_byWhen {l : Launch} {p : Program} {e : Env} {s : State} {mt : MethodId} {args : Array Value} {below : List Frame} {meth : Method} {c : Code} {A : Nat → Prop} {ad0 : Nat → Nat} {G : Gt} {N : Nat} (C : Cx G p s mt args meth c RX11 cX11_byWhen 4 (some .int) "byWhen" A) (hN : 109 ≤ N) (x1 : Int32) (x2 : Int32) (m : Mem) : V G SX oI l p e s mt args below meth c 4 7 A ad0 N N RX N RX 0 [(0, .ref 0), (1, .int x1), (2, .int x2)] [] m (X11_byWhen  x1 x2 m) := by
  rw [X11_byWhen]
  refine V.aload_n (pc := 0) C dX11_byWhen_0 0 rfl ?_
  refine V.getr (pc := 1) C fl_RX11_38 sX0 (kX0 hN) rfl rX0_6 dX11_byWhen_1 ?_
  refine V.iload_n (pc := 4) C dX11_byWhen_4 1 rfl ?_
  refine V.callV (pc := 5) (st := []) C (c_X10_isPerson l hN 25 (iX25 hN) x1 m) obI ck_X10_isPerson ml_RX11_123 rfl rfl sX25 (kX25 hN) rfl rfl (Nat.le_of_ble_eq_true rfl) ⟨by decide, by decide⟩ dX11_byWhen_5 (fun r_1 m_2 _ => ?_)
  refine V.if_eq (pc := 8) C dX11_byWhen_8 22 (by decide) (fun _ => ?_) (fun _ => ?_)
  · refine V.bipush (pc := 22) C dX11_byWhen_22 (v := (-2)) (by decide) ?_
    exact V.iret C dX11_byWhen_24
  · refine V.aload_n (pc := 11) C dX11_byWhen_11 0 rfl ?_
    refine V.getr (pc := 12) C fl_RX11_38 sX0 (kX0 hN) rfl rX0_6 dX11_byWhen_12 ?_
    refine V.iload_n (pc := 15) C dX11_byWhen_15 2 rfl ?_
    refine V.callV (pc := 16) (st := []) C (c_X10_isThing l hN 25 (iX25 hN) x2 m_2) obI ck_X10_isThing ml_RX11_140 rfl rfl sX25 (kX25 hN) rfl rfl (Nat.le_of_ble_eq_true rfl) ⟨by decide, by decide⟩ dX11_byWhen_16 (fun r_3 m_4 _ => ?_)
    refine V.if_ne (pc := 19) C dX11_byWhen_19 25 (by decide) (fun _ => ?_) (fun _ => ?_)
    · refine V.aload_n (pc := 25) C dX11_byWhen_25 0 rfl ?_
      refine V.getr (pc := 26) C fl_RX11_42 sX0 (kX0 hN) rfl rX0_7 dX11_byWhen_26 ?_
      refine V.getr (pc := 29) C fl_RX11_108 sX32 (kX32 hN) rfl rX32_2 dX11_byWhen_29 ?_
      refine V.aload_n (pc := 32) C dX11_byWhen_32 0 rfl ?_
      refine V.getr (pc := 33) C fl_RX11_38 sX0 (kX0 hN) rfl rX0_6 dX11_byWhen_33 ?_
      refine V.getr (pc := 36) C fl_RX11_108 sX25 (kX25 hN) rfl rX25_2 dX11_byWhen_36 ?_
      refine V.callV (pc := 39) (st := []) C (c_X5_become l hN 33 (iX33 hN) 26 (iX26 hN) m_4) obV ck_X5_become ml_RX11_111 rfl rfl sX33 (kX33 hN) rfl rfl (Nat.le_of_ble_eq_true rfl) ⟨by decide, by decide⟩ dX11_byWhen_39 (fun r_5 m_6 _ => ?_)
      refine V.iconst (pc := 42) C dX11_byWhen_42 (v := 0) (by decide) ?_
      refine V.istore_n (pc := 43) C dX11_byWhen_43 (L2 := [(3, .int 0), (0, .ref 0), (1, .int x1), (2, .int x2)]) (by decide) rfl ?_
      refine V.wk [1, 2, 3, 0] rfl ?_
      exact v_X11_byWhen_b44 C hN FU x1 x2 0 m_6
    · refine V.bipush (pc := 22) C dX11_byWhen_22 (v := (-2)) (by decide) ?_
      exact V.iret C dX11_byWhen_24
theorem c_X11_byWhen (l : Launch) {N : Nat} (hN : 109 ≤ N) (x1 : Int32) (x2 : Int32) (m : Mem) : Ct l yX11_byWhen cX11_byWhen 4 (some .int) 7 SX oI N N RX RX [.ref 0, .int x1, .int x2] m (X11_byWhen  x1 x2 m) :=
  Ct.of (own := RX11) (nm := "byWhen") (by decide) rfl rfl (Nat.le_of_ble_eq_true rfl) (fun _ _ _ _ _ _ _ _ _ _ _ C => v_X11_byWhen C hN x1 x2 m)
theorem dX11_child_0 : decode cX11_child 0 = .ok (.aload_n 0, 1) := by decide +kernel
theorem dX11_child_1 : decode cX11_child 1 = .ok (.getfield 38, 3) := by decide +kernel
theorem dX11_child_4 : decode cX11_child 4 = .ok (.iload_n 1, 1) := by decide +kernel
theorem dX11_child_5 : decode cX11_child 5 = .ok (.iload_n 2, 1) := by decide +kernel
theorem dX11_child_6 : decode cX11_child 6 = .ok (.invokevirtual 163, 3) := by decide +kernel
theorem dX11_child_9 : decode cX11_child 9 = .ok (.ifCond .ne 6, 3) := by decide +kernel
theorem dX11_child_12 : decode cX11_child 12 = .ok (.bipush (-2), 2) := by decide +kernel
theorem dX11_child_14 : decode cX11_child 14 = .ok (.ireturn, 1) := by decide +kernel
theorem dX11_child_15 : decode cX11_child 15 = .ok (.aload_n 0, 1) := by decide +kernel
theorem dX11_child_16 : decode cX11_child 16 = .ok (.getfield 38, 3) := by decide +kernel
theorem dX11_child_19 : decode cX11_child 19 = .ok (.getfield 108, 3) := by decide +kernel
theorem dX11_child_22 : decode cX11_child 22 = .ok (.getfield 134, 3) := by decide +kernel
theorem dX11_child_25 : decode cX11_child 25 = .ok (.iload_n 1, 1) := by decide +kernel
theorem dX11_child_26 : decode cX11_child 26 = .ok (.iaload, 1) := by decide +kernel
theorem dX11_child_27 : decode cX11_child 27 = .ok (.aload_n 0, 1) := by decide +kernel
theorem dX11_child_28 : decode cX11_child 28 = .ok (.getfield 38, 3) := by decide +kernel
theorem dX11_child_31 : decode cX11_child 31 = .ok (.getfield 108, 3) := by decide +kernel
theorem dX11_child_34 : decode cX11_child 34 = .ok (.getfield 134, 3) := by decide +kernel
theorem dX11_child_37 : decode cX11_child 37 = .ok (.iload_n 2, 1) := by decide +kernel
theorem dX11_child_38 : decode cX11_child 38 = .ok (.iaload, 1) := by decide +kernel
theorem dX11_child_39 : decode cX11_child 39 = .ok (.ior, 1) := by decide +kernel
theorem dX11_child_40 : decode cX11_child 40 = .ok (.istore_n 3, 1) := by decide +kernel
theorem dX11_child_41 : decode cX11_child 41 = .ok (.iconst 0, 1) := by decide +kernel
theorem dX11_child_42 : decode cX11_child 42 = .ok (.istore 4, 2) := by decide +kernel
theorem dX11_child_44 : decode cX11_child 44 = .ok (.bipush 9, 2) := by decide +kernel
theorem dX11_child_46 : decode cX11_child 46 = .ok (.istore 5, 2) := by decide +kernel
theorem dX11_child_48 : decode cX11_child 48 = .ok (.iconst 0, 1) := by decide +kernel
theorem dX11_child_49 : decode cX11_child 49 = .ok (.istore 6, 2) := by decide +kernel
theorem dX11_child_51 : decode cX11_child 51 = .ok (.iload 6, 2) := by decide +kernel
theorem dX11_child_53 : decode cX11_child 53 = .ok (.aload_n 0, 1) := by decide +kernel
theorem dX11_child_54 : decode cX11_child 54 = .ok (.getfield 16, 3) := by decide +kernel
theorem dX11_child_57 : decode cX11_child 57 = .ok (.getfield 246, 3) := by decide +kernel
theorem dX11_child_60 : decode cX11_child 60 = .ok (.if_icmp .ge 49, 3) := by decide +kernel
theorem dX11_child_63 : decode cX11_child 63 = .ok (.iload_n 3, 1) := by decide +kernel
theorem dX11_child_64 : decode cX11_child 64 = .ok (.iconst 1, 1) := by decide +kernel
theorem dX11_child_65 : decode cX11_child 65 = .ok (.iload 6, 2) := by decide +kernel
theorem dX11_child_67 : decode cX11_child 67 = .ok (.ishl, 1) := by decide +kernel
theorem dX11_child_68 : decode cX11_child 68 = .ok (.iand, 1) := by decide +kernel
theorem dX11_child_69 : decode cX11_child 69 = .ok (.ifCond .eq 34, 3) := by decide +kernel
theorem dX11_child_72 : decode cX11_child 72 = .ok (.aload_n 0, 1) := by decide +kernel
theorem dX11_child_73 : decode cX11_child 73 = .ok (.getfield 38, 3) := by decide +kernel
theorem dX11_child_76 : decode cX11_child 76 = .ok (.iload 6, 2) := by decide +kernel
theorem dX11_child_78 : decode cX11_child 78 = .ok (.invokevirtual 156, 3) := by decide +kernel
theorem dX11_child_81 : decode cX11_child 81 = .ok (.iload 5, 2) := by decide +kernel
theorem dX11_child_83 : decode cX11_child 83 = .ok (.if_icmp .gt 20, 3) := by decide +kernel
theorem dX11_child_86 : decode cX11_child 86 = .ok (.iconst 1, 1) := by decide +kernel
theorem dX11_child_87 : decode cX11_child 87 = .ok (.iload 6, 2) := by decide +kernel
theorem dX11_child_89 : decode cX11_child 89 = .ok (.ishl, 1) := by decide +kernel
theorem dX11_child_90 : decode cX11_child 90 = .ok (.istore 4, 2) := by decide +kernel
theorem dX11_child_92 : decode cX11_child 92 = .ok (.aload_n 0, 1) := by decide +kernel
theorem dX11_child_93 : decode cX11_child 93 = .ok (.getfield 38, 3) := by decide +kernel
theorem dX11_child_96 : decode cX11_child 96 = .ok (.iload 6, 2) := by decide +kernel
theorem dX11_child_98 : decode cX11_child 98 = .ok (.invokevirtual 156, 3) := by decide +kernel
theorem dX11_child_101 : decode cX11_child 101 = .ok (.istore 5, 2) := by decide +kernel
theorem dX11_child_103 : decode cX11_child 103 = .ok (.iinc 6 1, 3) := by decide +kernel
theorem dX11_child_106 : decode cX11_child 106 = .ok (.goto (-55), 3) := by decide +kernel
theorem dX11_child_109 : decode cX11_child 109 = .ok (.iload_n 3, 1) := by decide +kernel
theorem dX11_child_110 : decode cX11_child 110 = .ok (.iload 4, 2) := by decide +kernel
theorem dX11_child_112 : decode cX11_child 112 = .ok (.iconst (-1), 1) := by decide +kernel
theorem dX11_child_113 : decode cX11_child 113 = .ok (.ixor, 1) := by decide +kernel
theorem dX11_child_114 : decode cX11_child 114 = .ok (.iand, 1) := by decide +kernel
theorem dX11_child_115 : decode cX11_child 115 = .ok (.ireturn, 1) := by decide +kernel
set_option maxRecDepth 100000 in
set_option maxHeartbeats 4000000 in
theorem v_X11_child_b51 {l : Launch} {p : Program} {e : Env} {s : State} {mt : MethodId} {args : Array Value} {below : List Frame} {meth : Method} {c : Code} {A : Nat → Prop} {ad0 : Nat → Nat} {G : Gt} {N : Nat} (C : Cx G p s mt args meth c RX11 cX11_child 7 (some .int) "child" A) (hN : 109 ≤ N) : ∀ (n : Nat) (y3 : Int32) (y4 : Int32) (y5 : Int32) (y6 : Int32) (m : Mem), V G SX oI l p e s mt args below meth c 7 3 A ad0 N N RX N RX 51 [(0, .ref 0), (3, .int y3), (4, .int y4), (5, .int y5), (6, .int y6)] [] m (X11_child_b51  n y3 y4 y5 y6 m) := by
  intro n
  induction n with
  | zero =>
    intro y3 y4 y5 y6 m
    rw [X11_child_b51]
    exact V.nil
  | succ n ih =>
    intro y3 y4 y5 y6 m
    rw [X11_child_b51]
    refine V.iload (pc := 51) C dX11_child_51 4 rfl ?_
    refine V.aload_n (pc := 53) C dX11_child_53 0 rfl ?_
    refine V.getr (pc := 54) C fl_RX11_16 sX0 (kX0 hN) rfl rX0_3 dX11_child_54 ?_
    refine V.geti (pc := 57) C fl_RX11_246 sX2 (kX2 hN) rfl dX11_child_57 ?_
    refine V.icmp_ge (pc := 60) C dX11_child_60 109 (by decide) (fun _ => ?_) (fun _ => ?_)
    · refine V.iload_n (pc := 109) C dX11_child_109 1 rfl ?_
      refine V.iload (pc := 110) C dX11_child_110 2 rfl ?_
      refine V.iconst (pc := 112) C dX11_child_112 (v := (-1)) (by decide) ?_
      refine V.ixor (pc := 113) C dX11_child_113 ?_
      refine V.iand (pc := 114) C dX11_child_114 ?_
      exact V.iret C dX11_child_115
    · refine V.iload_n (pc := 63) C dX11_child_63 1 rfl ?_
      refine V.iconst (pc := 64) C dX11_child_64 (v := 1) (by decide) ?_
      refine V.iload (pc := 65) C dX11_child_65 4 rfl ?_
      refine V.ishl (pc := 67) C dX11_child_67 ?_
      refine V.iand (pc := 68) C dX11_child_68 ?_
      refine V.if_eq (pc := 69) C dX11_child_69 103 (by decide) (fun _ => ?_) (fun _ => ?_)
      · refine V.iinc (pc := 103) C dX11_child_103 (v := 1) (L2 := [(6, .int (y6 + 1)), (0, .ref 0), (3, .int y3), (4, .int y4), (5, .int y5)]) 4 rfl (by decide) (by decide) rfl ?_
        refine V.goto (pc := 106) C dX11_child_106 51 (by decide) ?_
        refine V.wk [1, 2, 3, 4, 0] rfl ?_
        exact ih y3 y4 y5 (y6 + 1) m
      · refine V.aload_n (pc := 72) C dX11_child_72 0 rfl ?_
        refine V.getr (pc := 73) C fl_RX11_38 sX0 (kX0 hN) rfl rX0_6 dX11_child_73 ?_
        refine V.iload (pc := 76) C dX11_child_76 4 rfl ?_
        refine V.callV (pc := 78) (st := []) C (c_X10_rarity l hN 25 (iX25 hN) y6 m) obI ck_X10_rarity ml_RX11_156 rfl rfl sX25 (kX25 hN) rfl rfl (Nat.le_of_ble_eq_true rfl) ⟨by decide, by decide⟩ dX11_child_78 (fun r_4 m_5 _ => ?_)
        refine V.iload (pc := 81) C dX11_child_81 3 rfl ?_
        refine V.icmp_gt (pc := 83) C dX11_child_83 103 (by decide) (fun _ => ?_) (fun _ => ?_)
        · refine V.iinc (pc := 103) C dX11_child_103 (v := 1) (L2 := [(6, .int (y6 + 1)), (0, .ref 0), (3, .int y3), (4, .int y4), (5, .int y5)]) 4 rfl (by decide) (by decide) rfl ?_
          refine V.goto (pc := 106) C dX11_child_106 51 (by decide) ?_
          refine V.wk [1, 2, 3, 4, 0] rfl ?_
          exact ih y3 y4 y5 (y6 + 1) m_5
        · refine V.iconst (pc := 86) C dX11_child_86 (v := 1) (by decide) ?_
          refine V.iload (pc := 87) C dX11_child_87 4 rfl ?_
          refine V.ishl (pc := 89) C dX11_child_89 ?_
          refine V.lti (fun x_6 _ => ?_)
          refine V.istore (pc := 90) C dX11_child_90 (L2 := [(4, .int x_6), (0, .ref 0), (3, .int y3), (5, .int y5), (6, .int y6)]) (by decide) rfl ?_
          refine V.aload_n (pc := 92) C dX11_child_92 1 rfl ?_
          refine V.getr (pc := 93) C fl_RX11_38 sX0 (kX0 hN) rfl rX0_6 dX11_child_93 ?_
          refine V.iload (pc := 96) C dX11_child_96 4 rfl ?_
          refine V.callV (pc := 98) (st := []) C (c_X10_rarity l hN 25 (iX25 hN) y6 m_5) obI ck_X10_rarity ml_RX11_156 rfl rfl sX25 (kX25 hN) rfl rfl (Nat.le_of_ble_eq_true rfl) ⟨by decide, by decide⟩ dX11_child_98 (fun r_7 m_8 _ => ?_)
          refine V.istore (pc := 101) C dX11_child_101 (L2 := [(5, .int r_7), (4, .int x_6), (0, .ref 0), (3, .int y3), (6, .int y6)]) (by decide) rfl ?_
          refine V.iinc (pc := 103) C dX11_child_103 (v := 1) (L2 := [(6, .int (y6 + 1)), (5, .int r_7), (4, .int x_6), (0, .ref 0), (3, .int y3)]) 4 rfl (by decide) (by decide) rfl ?_
          refine V.goto (pc := 106) C dX11_child_106 51 (by decide) ?_
          refine V.wk [3, 4, 2, 1, 0] rfl ?_
          exact ih y3 x_6 r_7 (y6 + 1) m_8
set_option maxRecDepth 100000 in
set_option maxHeartbeats 4000000 in
theorem v_X11_child {l : Launch} {p : Program} {e : Env} {s : State} {mt : MethodId} {args : Array Value} {below : List Frame} {meth : Method} {c : Code} {A : Nat → Prop} {ad0 : Nat → Nat} {G : Gt} {N : Nat} (C : Cx G p s mt args meth c RX11 cX11_child 7 (some .int) "child" A) (hN : 109 ≤ N) (x1 : Int32) (x2 : Int32) (m : Mem) : V G SX oI l p e s mt args below meth c 7 3 A ad0 N N RX N RX 0 [(0, .ref 0), (1, .int x1), (2, .int x2)] [] m (X11_child  x1 x2 m) := by
  rw [X11_child]
  refine V.aload_n (pc := 0) C dX11_child_0 0 rfl ?_
  refine V.getr (pc := 1) C fl_RX11_38 sX0 (kX0 hN) rfl rX0_6 dX11_child_1 ?_
  refine V.iload_n (pc := 4) C dX11_child_4 1 rfl ?_
  refine V.iload_n (pc := 5) C dX11_child_5 2 rfl ?_
  refine V.callV (pc := 6) (st := []) C (c_X10_areTwo l hN 25 (iX25 hN) x1 x2 m) obI ck_X10_areTwo ml_RX11_163 rfl rfl sX25 (kX25 hN) rfl rfl (Nat.le_of_ble_eq_true rfl) ⟨by decide, by decide⟩ dX11_child_6 (fun r_1 m_2 _ => ?_)
  refine V.if_ne (pc := 9) C dX11_child_9 15 (by decide) (fun _ => ?_) (fun _ => ?_)
  · refine V.aload_n (pc := 15) C dX11_child_15 0 rfl ?_
    refine V.getr (pc := 16) C fl_RX11_38 sX0 (kX0 hN) rfl rX0_6 dX11_child_16 ?_
    refine V.getr (pc := 19) C fl_RX11_108 sX25 (kX25 hN) rfl rX25_2 dX11_child_19 ?_
    refine V.getr (pc := 22) C fl_RX11_134 sX26 (kX26 hN) rfl rX26_3 dX11_child_22 ?_
    refine V.iload_n (pc := 25) C dX11_child_25 1 rfl ?_
    refine V.iald (pc := 26) C sX29 (kX29 hN) dX11_child_26 (fun _ => ?_)
    refine V.aload_n (pc := 27) C dX11_child_27 0 rfl ?_
    refine V.getr (pc := 28) C fl_RX11_38 sX0 (kX0 hN) rfl rX0_6 dX11_child_28 ?_
    refine V.getr (pc := 31) C fl_RX11_108 sX25 (kX25 hN) rfl rX25_2 dX11_child_31 ?_
    refine V.getr (pc := 34) C fl_RX11_134 sX26 (kX26 hN) rfl rX26_3 dX11_child_34 ?_
    refine V.iload_n (pc := 37) C dX11_child_37 2 rfl ?_
    refine V.iald (pc := 38) C sX29 (kX29 hN) dX11_child_38 (fun _ => ?_)
    refine V.ior (pc := 39) C dX11_child_39 ?_
    refine V.lti (fun x_3 _ => ?_)
    refine V.istore_n (pc := 40) C dX11_child_40 (L2 := [(3, .int x_3), (0, .ref 0), (1, .int x1), (2, .int x2)]) (by decide) rfl ?_
    refine V.iconst (pc := 41) C dX11_child_41 (v := 0) (by decide) ?_
    refine V.istore (pc := 42) C dX11_child_42 (L2 := [(4, .int 0), (3, .int x_3), (0, .ref 0), (1, .int x1), (2, .int x2)]) (by decide) rfl ?_
    refine V.bipush (pc := 44) C dX11_child_44 (v := 9) (by decide) ?_
    refine V.istore (pc := 46) C dX11_child_46 (L2 := [(5, .int 9), (4, .int 0), (3, .int x_3), (0, .ref 0), (1, .int x1), (2, .int x2)]) (by decide) rfl ?_
    refine V.iconst (pc := 48) C dX11_child_48 (v := 0) (by decide) ?_
    refine V.istore (pc := 49) C dX11_child_49 (L2 := [(6, .int 0), (5, .int 9), (4, .int 0), (3, .int x_3), (0, .ref 0), (1, .int x1), (2, .int x2)]) (by decide) rfl ?_
    refine V.wk [4, 3, 2, 1, 0] rfl ?_
    exact v_X11_child_b51 C hN FU x_3 0 9 0 m_2
  · refine V.bipush (pc := 12) C dX11_child_12 (v := (-2)) (by decide) ?_
    exact V.iret C dX11_child_14
theorem c_X11_child (l : Launch) {N : Nat} (hN : 109 ≤ N) (x1 : Int32) (x2 : Int32) (m : Mem) : Ct l yX11_child cX11_child 7 (some .int) 3 SX oI N N RX RX [.ref 0, .int x1, .int x2] m (X11_child  x1 x2 m) :=
  Ct.of (own := RX11) (nm := "child") (by decide) rfl rfl (Nat.le_of_ble_eq_true rfl) (fun _ _ _ _ _ _ _ _ _ _ _ C => v_X11_child C hN x1 x2 m)
theorem dX11_copies_0 : decode cX11_copies 0 = .ok (.aload_n 0, 1) := by decide +kernel
theorem dX11_copies_1 : decode cX11_copies 1 = .ok (.getfield 38, 3) := by decide +kernel
theorem dX11_copies_4 : decode cX11_copies 4 = .ok (.iload_n 1, 1) := by decide +kernel
theorem dX11_copies_5 : decode cX11_copies 5 = .ok (.iload_n 2, 1) := by decide +kernel
theorem dX11_copies_6 : decode cX11_copies 6 = .ok (.invokevirtual 163, 3) := by decide +kernel
theorem dX11_copies_9 : decode cX11_copies 9 = .ok (.ifCond .ne 6, 3) := by decide +kernel
theorem dX11_copies_12 : decode cX11_copies 12 = .ok (.bipush (-11), 2) := by decide +kernel
theorem dX11_copies_14 : decode cX11_copies 14 = .ok (.ireturn, 1) := by decide +kernel
theorem dX11_copies_15 : decode cX11_copies 15 = .ok (.aload_n 0, 1) := by decide +kernel
theorem dX11_copies_16 : decode cX11_copies 16 = .ok (.getfield 57, 3) := by decide +kernel
theorem dX11_copies_19 : decode cX11_copies 19 = .ok (.aload_n 0, 1) := by decide +kernel
theorem dX11_copies_20 : decode cX11_copies 20 = .ok (.getfield 38, 3) := by decide +kernel
theorem dX11_copies_23 : decode cX11_copies 23 = .ok (.getfield 108, 3) := by decide +kernel
theorem dX11_copies_26 : decode cX11_copies 26 = .ok (.invokevirtual 188, 3) := by decide +kernel
theorem dX11_copies_29 : decode cX11_copies 29 = .ok (.aload_n 0, 1) := by decide +kernel
theorem dX11_copies_30 : decode cX11_copies 30 = .ok (.getfield 38, 3) := by decide +kernel
theorem dX11_copies_33 : decode cX11_copies 33 = .ok (.getfield 108, 3) := by decide +kernel
theorem dX11_copies_36 : decode cX11_copies 36 = .ok (.iload_n 1, 1) := by decide +kernel
theorem dX11_copies_37 : decode cX11_copies 37 = .ok (.iload_n 2, 1) := by decide +kernel
theorem dX11_copies_38 : decode cX11_copies 38 = .ok (.invokevirtual 209, 3) := by decide +kernel
theorem dX11_copies_41 : decode cX11_copies 41 = .ok (.aload_n 0, 1) := by decide +kernel
theorem dX11_copies_42 : decode cX11_copies 42 = .ok (.getfield 38, 3) := by decide +kernel
theorem dX11_copies_45 : decode cX11_copies 45 = .ok (.getfield 108, 3) := by decide +kernel
theorem dX11_copies_48 : decode cX11_copies 48 = .ok (.getfield 134, 3) := by decide +kernel
theorem dX11_copies_51 : decode cX11_copies 51 = .ok (.iload_n 1, 1) := by decide +kernel
theorem dX11_copies_52 : decode cX11_copies 52 = .ok (.iaload, 1) := by decide +kernel
theorem dX11_copies_53 : decode cX11_copies 53 = .ok (.invokestatic 204, 3) := by decide +kernel
theorem dX11_copies_56 : decode cX11_copies 56 = .ok (.ireturn, 1) := by decide +kernel
set_option maxRecDepth 100000 in
set_option maxHeartbeats 4000000 in
theorem v_X11_copies {l : Launch} {p : Program} {e : Env} {s : State} {mt : MethodId} {args : Array Value} {below : List Frame} {meth : Method} {c : Code} {A : Nat → Prop} {ad0 : Nat → Nat} {G : Gt} {N : Nat} (C : Cx G p s mt args meth c RX11 cX11_copies 3 (some .int) "copies" A) (hN : 109 ≤ N) (x1 : Int32) (x2 : Int32) (m : Mem) : V G SX oI l p e s mt args below meth c 3 4 A ad0 N N RX N RX 0 [(0, .ref 0), (1, .int x1), (2, .int x2)] [] m (X11_copies  x1 x2 m) := by
  rw [X11_copies]
  refine V.aload_n (pc := 0) C dX11_copies_0 0 rfl ?_
  refine V.getr (pc := 1) C fl_RX11_38 sX0 (kX0 hN) rfl rX0_6 dX11_copies_1 ?_
  refine V.iload_n (pc := 4) C dX11_copies_4 1 rfl ?_
  refine V.iload_n (pc := 5) C dX11_copies_5 2 rfl ?_
  refine V.callV (pc := 6) (st := []) C (c_X10_areTwo l hN 25 (iX25 hN) x1 x2 m) obI ck_X10_areTwo ml_RX11_163 rfl rfl sX25 (kX25 hN) rfl rfl (Nat.le_of_ble_eq_true rfl) ⟨by decide, by decide⟩ dX11_copies_6 (fun r_1 m_2 _ => ?_)
  refine V.if_ne (pc := 9) C dX11_copies_9 15 (by decide) (fun _ => ?_) (fun _ => ?_)
  · refine V.aload_n (pc := 15) C dX11_copies_15 0 rfl ?_
    refine V.getr (pc := 16) C fl_RX11_57 sX0 (kX0 hN) rfl rX0_9 dX11_copies_16 ?_
    refine V.aload_n (pc := 19) C dX11_copies_19 0 rfl ?_
    refine V.getr (pc := 20) C fl_RX11_38 sX0 (kX0 hN) rfl rX0_6 dX11_copies_20 ?_
    refine V.getr (pc := 23) C fl_RX11_108 sX25 (kX25 hN) rfl rX25_2 dX11_copies_23 ?_
    refine V.callV (pc := 26) (st := []) C (c_X2_keep l hN 26 (iX26 hN) m_2) obV ck_X2_keep ml_RX11_188 rfl rfl sX40 (kX40 hN) rfl rfl (Nat.le_of_ble_eq_true rfl) ⟨by decide, by decide⟩ dX11_copies_26 (fun r_3 m_4 _ => ?_)
    refine V.aload_n (pc := 29) C dX11_copies_29 0 rfl ?_
    refine V.getr (pc := 30) C fl_RX11_38 sX0 (kX0 hN) rfl rX0_6 dX11_copies_30 ?_
    refine V.getr (pc := 33) C fl_RX11_108 sX25 (kX25 hN) rfl rX25_2 dX11_copies_33 ?_
    refine V.iload_n (pc := 36) C dX11_copies_36 1 rfl ?_
    refine V.iload_n (pc := 37) C dX11_copies_37 2 rfl ?_
    refine V.callV (pc := 38) (st := []) C (c_X5_copyList l hN 26 (iX26 hN) x1 x2 m_4) obV ck_X5_copyList ml_RX11_209 rfl rfl sX26 (kX26 hN) rfl rfl (Nat.le_of_ble_eq_true rfl) ⟨by decide, by decide⟩ dX11_copies_38 (fun r_5 m_6 _ => ?_)
    refine V.aload_n (pc := 41) C dX11_copies_41 0 rfl ?_
    refine V.getr (pc := 42) C fl_RX11_38 sX0 (kX0 hN) rfl rX0_6 dX11_copies_42 ?_
    refine V.getr (pc := 45) C fl_RX11_108 sX25 (kX25 hN) rfl rX25_2 dX11_copies_45 ?_
    refine V.getr (pc := 48) C fl_RX11_134 sX26 (kX26 hN) rfl rX26_3 dX11_copies_48 ?_
    refine V.iload_n (pc := 51) C dX11_copies_51 1 rfl ?_
    refine V.iald (pc := 52) C sX29 (kX29 hN) dX11_copies_52 (fun _ => ?_)
    refine V.callS (pc := 53) (st := []) C (c_J6_bitCount_0f7a4 l (gi m_6 29 (ix x1)) m_6) obI ck_J6_bitCount_0f7a4 ml_RX11_204 rfl rfl (Nat.le_of_ble_eq_true rfl) ⟨by decide, by decide⟩ dX11_copies_53 (fun r_7 m_8 _ => ?_)
    exact V.iret C dX11_copies_56
  · refine V.bipush (pc := 12) C dX11_copies_12 (v := (-11)) (by decide) ?_
    exact V.iret C dX11_copies_14
theorem c_X11_copies (l : Launch) {N : Nat} (hN : 109 ≤ N) (x1 : Int32) (x2 : Int32) (m : Mem) : Ct l yX11_copies cX11_copies 3 (some .int) 4 SX oI N N RX RX [.ref 0, .int x1, .int x2] m (X11_copies  x1 x2 m) :=
  Ct.of (own := RX11) (nm := "copies") (by decide) rfl rfl (Nat.le_of_ble_eq_true rfl) (fun _ _ _ _ _ _ _ _ _ _ _ C => v_X11_copies C hN x1 x2 m)
theorem dX11_count_0 : decode cX11_count 0 = .ok (.iload_n 1, 1) := by decide +kernel
theorem dX11_count_1 : decode cX11_count 1 = .ok (.tableswitch 135 0 9 #[55, 63, 71, 82, 90, 98, 106, 114, 119, 127], 55) := by decide +kernel
theorem dX11_count_56 : decode cX11_count 56 = .ok (.aload_n 0, 1) := by decide +kernel
theorem dX11_count_57 : decode cX11_count 57 = .ok (.getfield 16, 3) := by decide +kernel
theorem dX11_count_60 : decode cX11_count 60 = .ok (.getfield 246, 3) := by decide +kernel
theorem dX11_count_63 : decode cX11_count 63 = .ok (.ireturn, 1) := by decide +kernel
theorem dX11_count_64 : decode cX11_count 64 = .ok (.aload_n 0, 1) := by decide +kernel
theorem dX11_count_65 : decode cX11_count 65 = .ok (.getfield 16, 3) := by decide +kernel
theorem dX11_count_68 : decode cX11_count 68 = .ok (.getfield 249, 3) := by decide +kernel
theorem dX11_count_71 : decode cX11_count 71 = .ok (.ireturn, 1) := by decide +kernel
theorem dX11_count_72 : decode cX11_count 72 = .ok (.aload_n 0, 1) := by decide +kernel
theorem dX11_count_73 : decode cX11_count 73 = .ok (.getfield 38, 3) := by decide +kernel
theorem dX11_count_76 : decode cX11_count 76 = .ok (.getfield 108, 3) := by decide +kernel
theorem dX11_count_79 : decode cX11_count 79 = .ok (.getfield 372, 3) := by decide +kernel
theorem dX11_count_82 : decode cX11_count 82 = .ok (.ireturn, 1) := by decide +kernel
theorem dX11_count_83 : decode cX11_count 83 = .ok (.aload_n 0, 1) := by decide +kernel
theorem dX11_count_84 : decode cX11_count 84 = .ok (.getfield 38, 3) := by decide +kernel
theorem dX11_count_87 : decode cX11_count 87 = .ok (.invokevirtual 237, 3) := by decide +kernel
theorem dX11_count_90 : decode cX11_count 90 = .ok (.ireturn, 1) := by decide +kernel
theorem dX11_count_91 : decode cX11_count 91 = .ok (.aload_n 0, 1) := by decide +kernel
theorem dX11_count_92 : decode cX11_count 92 = .ok (.getfield 16, 3) := by decide +kernel
theorem dX11_count_95 : decode cX11_count 95 = .ok (.getfield 375, 3) := by decide +kernel
theorem dX11_count_98 : decode cX11_count 98 = .ok (.ireturn, 1) := by decide +kernel
theorem dX11_count_99 : decode cX11_count 99 = .ok (.aload_n 0, 1) := by decide +kernel
theorem dX11_count_100 : decode cX11_count 100 = .ok (.getfield 16, 3) := by decide +kernel
theorem dX11_count_103 : decode cX11_count 103 = .ok (.getfield 378, 3) := by decide +kernel
theorem dX11_count_106 : decode cX11_count 106 = .ok (.ireturn, 1) := by decide +kernel
theorem dX11_count_107 : decode cX11_count 107 = .ok (.aload_n 0, 1) := by decide +kernel
theorem dX11_count_108 : decode cX11_count 108 = .ok (.getfield 57, 3) := by decide +kernel
theorem dX11_count_111 : decode cX11_count 111 = .ok (.getfield 216, 3) := by decide +kernel
theorem dX11_count_114 : decode cX11_count 114 = .ok (.ireturn, 1) := by decide +kernel
theorem dX11_count_115 : decode cX11_count 115 = .ok (.aload_n 0, 1) := by decide +kernel
theorem dX11_count_116 : decode cX11_count 116 = .ok (.getfield 90, 3) := by decide +kernel
theorem dX11_count_119 : decode cX11_count 119 = .ok (.ireturn, 1) := by decide +kernel
theorem dX11_count_120 : decode cX11_count 120 = .ok (.aload_n 0, 1) := by decide +kernel
theorem dX11_count_121 : decode cX11_count 121 = .ok (.getfield 16, 3) := by decide +kernel
theorem dX11_count_124 : decode cX11_count 124 = .ok (.getfield 117, 3) := by decide +kernel
theorem dX11_count_127 : decode cX11_count 127 = .ok (.ireturn, 1) := by decide +kernel
theorem dX11_count_128 : decode cX11_count 128 = .ok (.aload_n 0, 1) := by decide +kernel
theorem dX11_count_129 : decode cX11_count 129 = .ok (.getfield 38, 3) := by decide +kernel
theorem dX11_count_132 : decode cX11_count 132 = .ok (.invokevirtual 381, 3) := by decide +kernel
theorem dX11_count_135 : decode cX11_count 135 = .ok (.ireturn, 1) := by decide +kernel
theorem dX11_count_136 : decode cX11_count 136 = .ok (.iconst (-1), 1) := by decide +kernel
theorem dX11_count_137 : decode cX11_count 137 = .ok (.ireturn, 1) := by decide +kernel
set_option maxRecDepth 100000 in
set_option maxHeartbeats 4000000 in
theorem v_X11_count {l : Launch} {p : Program} {e : Env} {s : State} {mt : MethodId} {args : Array Value} {below : List Frame} {meth : Method} {c : Code} {A : Nat → Prop} {ad0 : Nat → Nat} {G : Gt} {N : Nat} (C : Cx G p s mt args meth c RX11 cX11_count 2 (some .int) "count" A) (hN : 109 ≤ N) (x1 : Int32) (m : Mem) : V G SX oI l p e s mt args below meth c 2 3 A ad0 N N RX N RX 0 [(0, .ref 0), (1, .int x1)] [] m (X11_count  x1 m) := by
  rw [X11_count]
  refine V.iload_n (pc := 0) C dX11_count_0 1 rfl ?_
  refine V.br (fun h_1 => ?_) (fun h_1 => ?_)
  · refine V.tin (pc := 1) (x := x1) (j := 0) (tgt := 56) C dX11_count_1 h_1 (by decide) (by decide) rfl (by decide) ?_
    refine V.aload_n (pc := 56) C dX11_count_56 0 rfl ?_
    refine V.getr (pc := 57) C fl_RX11_16 sX0 (kX0 hN) rfl rX0_3 dX11_count_57 ?_
    refine V.geti (pc := 60) C fl_RX11_246 sX2 (kX2 hN) rfl dX11_count_60 ?_
    exact V.iret C dX11_count_63
  · refine V.br (fun h_2 => ?_) (fun h_2 => ?_)
    · refine V.tin (pc := 1) (x := x1) (j := 1) (tgt := 64) C dX11_count_1 h_2 (by decide) (by decide) rfl (by decide) ?_
      refine V.aload_n (pc := 64) C dX11_count_64 0 rfl ?_
      refine V.getr (pc := 65) C fl_RX11_16 sX0 (kX0 hN) rfl rX0_3 dX11_count_65 ?_
      refine V.geti (pc := 68) C fl_RX11_249 sX2 (kX2 hN) rfl dX11_count_68 ?_
      exact V.iret C dX11_count_71
    · refine V.br (fun h_3 => ?_) (fun h_3 => ?_)
      · refine V.tin (pc := 1) (x := x1) (j := 2) (tgt := 72) C dX11_count_1 h_3 (by decide) (by decide) rfl (by decide) ?_
        refine V.aload_n (pc := 72) C dX11_count_72 0 rfl ?_
        refine V.getr (pc := 73) C fl_RX11_38 sX0 (kX0 hN) rfl rX0_6 dX11_count_73 ?_
        refine V.getr (pc := 76) C fl_RX11_108 sX25 (kX25 hN) rfl rX25_2 dX11_count_76 ?_
        refine V.geti (pc := 79) C fl_RX11_372 sX26 (kX26 hN) rfl dX11_count_79 ?_
        exact V.iret C dX11_count_82
      · refine V.br (fun h_6 => ?_) (fun h_6 => ?_)
        · refine V.tin (pc := 1) (x := x1) (j := 3) (tgt := 83) C dX11_count_1 h_6 (by decide) (by decide) rfl (by decide) ?_
          refine V.aload_n (pc := 83) C dX11_count_83 0 rfl ?_
          refine V.getr (pc := 84) C fl_RX11_38 sX0 (kX0 hN) rfl rX0_6 dX11_count_84 ?_
          refine V.callV (pc := 87) (st := []) C (c_X10_couples l hN 25 (iX25 hN) m) obI ck_X10_couples ml_RX11_237 rfl rfl sX25 (kX25 hN) rfl rfl (Nat.le_of_ble_eq_true rfl) ⟨by decide, by decide⟩ dX11_count_87 (fun r_4 m_5 _ => ?_)
          exact V.iret C dX11_count_90
        · refine V.br (fun h_7 => ?_) (fun h_7 => ?_)
          · refine V.tin (pc := 1) (x := x1) (j := 4) (tgt := 91) C dX11_count_1 h_7 (by decide) (by decide) rfl (by decide) ?_
            refine V.aload_n (pc := 91) C dX11_count_91 0 rfl ?_
            refine V.getr (pc := 92) C fl_RX11_16 sX0 (kX0 hN) rfl rX0_3 dX11_count_92 ?_
            refine V.geti (pc := 95) C fl_RX11_375 sX2 (kX2 hN) rfl dX11_count_95 ?_
            exact V.iret C dX11_count_98
          · refine V.br (fun h_8 => ?_) (fun h_8 => ?_)
            · refine V.tin (pc := 1) (x := x1) (j := 5) (tgt := 99) C dX11_count_1 h_8 (by decide) (by decide) rfl (by decide) ?_
              refine V.aload_n (pc := 99) C dX11_count_99 0 rfl ?_
              refine V.getr (pc := 100) C fl_RX11_16 sX0 (kX0 hN) rfl rX0_3 dX11_count_100 ?_
              refine V.geti (pc := 103) C fl_RX11_378 sX2 (kX2 hN) rfl dX11_count_103 ?_
              exact V.iret C dX11_count_106
            · refine V.br (fun h_9 => ?_) (fun h_9 => ?_)
              · refine V.tin (pc := 1) (x := x1) (j := 6) (tgt := 107) C dX11_count_1 h_9 (by decide) (by decide) rfl (by decide) ?_
                refine V.aload_n (pc := 107) C dX11_count_107 0 rfl ?_
                refine V.getr (pc := 108) C fl_RX11_57 sX0 (kX0 hN) rfl rX0_9 dX11_count_108 ?_
                refine V.geti (pc := 111) C fl_RX11_216 sX40 (kX40 hN) rfl dX11_count_111 ?_
                exact V.iret C dX11_count_114
              · refine V.br (fun h_10 => ?_) (fun h_10 => ?_)
                · refine V.tin (pc := 1) (x := x1) (j := 7) (tgt := 115) C dX11_count_1 h_10 (by decide) (by decide) rfl (by decide) ?_
                  refine V.aload_n (pc := 115) C dX11_count_115 0 rfl ?_
                  refine V.geti (pc := 116) C fl_RX11_90 sX0 (kX0 hN) rfl dX11_count_116 ?_
                  exact V.iret C dX11_count_119
                · refine V.br (fun h_11 => ?_) (fun h_11 => ?_)
                  · refine V.tin (pc := 1) (x := x1) (j := 8) (tgt := 120) C dX11_count_1 h_11 (by decide) (by decide) rfl (by decide) ?_
                    refine V.aload_n (pc := 120) C dX11_count_120 0 rfl ?_
                    refine V.getr (pc := 121) C fl_RX11_16 sX0 (kX0 hN) rfl rX0_3 dX11_count_121 ?_
                    refine V.geti (pc := 124) C fl_RX11_117 sX2 (kX2 hN) rfl dX11_count_124 ?_
                    exact V.iret C dX11_count_127
                  · refine V.br (fun h_14 => ?_) (fun h_14 => ?_)
                    · refine V.tin (pc := 1) (x := x1) (j := 9) (tgt := 128) C dX11_count_1 h_14 (by decide) (by decide) rfl (by decide) ?_
                      refine V.aload_n (pc := 128) C dX11_count_128 0 rfl ?_
                      refine V.getr (pc := 129) C fl_RX11_38 sX0 (kX0 hN) rfl rX0_6 dX11_count_129 ?_
                      refine V.callV (pc := 132) (st := []) C (c_X10_onAllLists l hN 25 (iX25 hN) m) obI ck_X10_onAllLists ml_RX11_381 rfl rfl sX25 (kX25 hN) rfl rfl (Nat.le_of_ble_eq_true rfl) ⟨by decide, by decide⟩ dX11_count_132 (fun r_12 m_13 _ => ?_)
                      exact V.iret C dX11_count_135
                    · have g0 := lv_neT h_1 (show (0 : Int32).toInt = 0 from by decide)
                      have g1 := lv_neT h_2 (show (1 : Int32).toInt = 1 from by decide)
                      have g2 := lv_neT h_3 (show (2 : Int32).toInt = 2 from by decide)
                      have g3 := lv_neT h_6 (show (3 : Int32).toInt = 3 from by decide)
                      have g4 := lv_neT h_7 (show (4 : Int32).toInt = 4 from by decide)
                      have g5 := lv_neT h_8 (show (5 : Int32).toInt = 5 from by decide)
                      have g6 := lv_neT h_9 (show (6 : Int32).toInt = 6 from by decide)
                      have g7 := lv_neT h_10 (show (7 : Int32).toInt = 7 from by decide)
                      have g8 := lv_neT h_11 (show (8 : Int32).toInt = 8 from by decide)
                      have g9 := lv_neT h_14 (show (9 : Int32).toInt = 9 from by decide)
                      refine V.tout (pc := 1) (x := x1) (tgt := 136) C dX11_count_1 (by omega) (by decide) ?_
                      refine V.iconst (pc := 136) C dX11_count_136 (v := (-1)) (by decide) ?_
                      exact V.iret C dX11_count_137
theorem c_X11_count (l : Launch) {N : Nat} (hN : 109 ≤ N) (x1 : Int32) (m : Mem) : Ct l yX11_count cX11_count 2 (some .int) 3 SX oI N N RX RX [.ref 0, .int x1] m (X11_count  x1 m) :=
  Ct.of (own := RX11) (nm := "count") (by decide) rfl rfl (Nat.le_of_ble_eq_true rfl) (fun _ _ _ _ _ _ _ _ _ _ _ C => v_X11_count C hN x1 m)
theorem dX11_dearest_0 : decode cX11_dearest 0 = .ok (.aload_n 0, 1) := by decide +kernel
theorem dX11_dearest_1 : decode cX11_dearest 1 = .ok (.getfield 38, 3) := by decide +kernel
theorem dX11_dearest_4 : decode cX11_dearest 4 = .ok (.iload_n 1, 1) := by decide +kernel
theorem dX11_dearest_5 : decode cX11_dearest 5 = .ok (.invokevirtual 123, 3) := by decide +kernel
theorem dX11_dearest_8 : decode cX11_dearest 8 = .ok (.ifCond .ne 6, 3) := by decide +kernel
theorem dX11_dearest_11 : decode cX11_dearest 11 = .ok (.bipush (-2), 2) := by decide +kernel
theorem dX11_dearest_13 : decode cX11_dearest 13 = .ok (.ireturn, 1) := by decide +kernel
theorem dX11_dearest_14 : decode cX11_dearest 14 = .ok (.iconst (-1), 1) := by decide +kernel
theorem dX11_dearest_15 : decode cX11_dearest 15 = .ok (.istore_n 2, 1) := by decide +kernel
theorem dX11_dearest_16 : decode cX11_dearest 16 = .ok (.iconst 0, 1) := by decide +kernel
theorem dX11_dearest_17 : decode cX11_dearest 17 = .ok (.istore_n 3, 1) := by decide +kernel
theorem dX11_dearest_18 : decode cX11_dearest 18 = .ok (.iconst 0, 1) := by decide +kernel
theorem dX11_dearest_19 : decode cX11_dearest 19 = .ok (.istore 4, 2) := by decide +kernel
theorem dX11_dearest_21 : decode cX11_dearest 21 = .ok (.iload 4, 2) := by decide +kernel
theorem dX11_dearest_23 : decode cX11_dearest 23 = .ok (.aload_n 0, 1) := by decide +kernel
theorem dX11_dearest_24 : decode cX11_dearest 24 = .ok (.getfield 16, 3) := by decide +kernel
theorem dX11_dearest_27 : decode cX11_dearest 27 = .ok (.getfield 249, 3) := by decide +kernel
theorem dX11_dearest_30 : decode cX11_dearest 30 = .ok (.if_icmp .ge 57, 3) := by decide +kernel
theorem dX11_dearest_33 : decode cX11_dearest 33 = .ok (.iload 4, 2) := by decide +kernel
theorem dX11_dearest_35 : decode cX11_dearest 35 = .ok (.iload_n 1, 1) := by decide +kernel
theorem dX11_dearest_36 : decode cX11_dearest 36 = .ok (.if_icmp .eq 45, 3) := by decide +kernel
theorem dX11_dearest_39 : decode cX11_dearest 39 = .ok (.aload_n 0, 1) := by decide +kernel
theorem dX11_dearest_40 : decode cX11_dearest 40 = .ok (.getfield 38, 3) := by decide +kernel
theorem dX11_dearest_43 : decode cX11_dearest 43 = .ok (.iload_n 1, 1) := by decide +kernel
theorem dX11_dearest_44 : decode cX11_dearest 44 = .ok (.iload 4, 2) := by decide +kernel
theorem dX11_dearest_46 : decode cX11_dearest 46 = .ok (.invokevirtual 182, 3) := by decide +kernel
theorem dX11_dearest_49 : decode cX11_dearest 49 = .ok (.ifCond .eq 32, 3) := by decide +kernel
theorem dX11_dearest_52 : decode cX11_dearest 52 = .ok (.aload_n 0, 1) := by decide +kernel
theorem dX11_dearest_53 : decode cX11_dearest 53 = .ok (.getfield 38, 3) := by decide +kernel
theorem dX11_dearest_56 : decode cX11_dearest 56 = .ok (.iload_n 1, 1) := by decide +kernel
theorem dX11_dearest_57 : decode cX11_dearest 57 = .ok (.iload 4, 2) := by decide +kernel
theorem dX11_dearest_59 : decode cX11_dearest 59 = .ok (.invokevirtual 177, 3) := by decide +kernel
theorem dX11_dearest_62 : decode cX11_dearest 62 = .ok (.istore 5, 2) := by decide +kernel
theorem dX11_dearest_64 : decode cX11_dearest 64 = .ok (.iload_n 2, 1) := by decide +kernel
theorem dX11_dearest_65 : decode cX11_dearest 65 = .ok (.iconst (-1), 1) := by decide +kernel
theorem dX11_dearest_66 : decode cX11_dearest 66 = .ok (.if_icmp .eq 9, 3) := by decide +kernel
theorem dX11_dearest_69 : decode cX11_dearest 69 = .ok (.iload 5, 2) := by decide +kernel
theorem dX11_dearest_71 : decode cX11_dearest 71 = .ok (.iload_n 3, 1) := by decide +kernel
theorem dX11_dearest_72 : decode cX11_dearest 72 = .ok (.if_icmp .le 9, 3) := by decide +kernel
theorem dX11_dearest_75 : decode cX11_dearest 75 = .ok (.iload 4, 2) := by decide +kernel
theorem dX11_dearest_77 : decode cX11_dearest 77 = .ok (.istore_n 2, 1) := by decide +kernel
theorem dX11_dearest_78 : decode cX11_dearest 78 = .ok (.iload 5, 2) := by decide +kernel
theorem dX11_dearest_80 : decode cX11_dearest 80 = .ok (.istore_n 3, 1) := by decide +kernel
theorem dX11_dearest_81 : decode cX11_dearest 81 = .ok (.iinc 4 1, 3) := by decide +kernel
theorem dX11_dearest_84 : decode cX11_dearest 84 = .ok (.goto (-63), 3) := by decide +kernel
theorem dX11_dearest_87 : decode cX11_dearest 87 = .ok (.iload_n 2, 1) := by decide +kernel
theorem dX11_dearest_88 : decode cX11_dearest 88 = .ok (.ireturn, 1) := by decide +kernel
set_option maxRecDepth 100000 in
set_option maxHeartbeats 4000000 in
theorem v_X11_dearest_b75 {l : Launch} {p : Program} {e : Env} {s : State} {mt : MethodId} {args : Array Value} {below : List Frame} {meth : Method} {c : Code} {A : Nat → Prop} {ad0 : Nat → Nat} {G : Gt} {N : Nat} (C : Cx G p s mt args meth c RX11 cX11_dearest 6 (some .int) "dearest" A) (hN : 109 ≤ N) (k21 : Int32 → Int32 → Int32 → Int32 → Mem → Option (Int32 × Mem)) (h21 : ∀ (y1 : Int32) (y2 : Int32) (y3 : Int32) (y4 : Int32) (m : Mem), V G SX oI l p e s mt args below meth c 6 5 A ad0 N N RX N RX 21 [(0, .ref 0), (1, .int y1), (2, .int y2), (3, .int y3), (4, .int y4)] [] m (k21 y1 y2 y3 y4 m)) (y1 : Int32) (y4 : Int32) (y5 : Int32) (m : Mem) : V G SX oI l p e s mt args below meth c 6 5 A ad0 N N RX N RX 75 [(0, .ref 0), (1, .int y1), (4, .int y4), (5, .int y5)] [] m (X11_dearest_b75 k21 y1 y4 y5 m) := by
  rw [X11_dearest_b75]
  refine V.iload (pc := 75) C dX11_dearest_75 2 rfl ?_
  refine V.istore_n (pc := 77) C dX11_dearest_77 (L2 := [(2, .int y4), (0, .ref 0), (1, .int y1), (4, .int y4), (5, .int y5)]) (by decide) rfl ?_
  refine V.iload (pc := 78) C dX11_dearest_78 4 rfl ?_
  refine V.istore_n (pc := 80) C dX11_dearest_80 (L2 := [(3, .int y5), (2, .int y4), (0, .ref 0), (1, .int y1), (4, .int y4), (5, .int y5)]) (by decide) rfl ?_
  refine V.iinc (pc := 81) C dX11_dearest_81 (v := 1) (L2 := [(4, .int (y4 + 1)), (3, .int y5), (2, .int y4), (0, .ref 0), (1, .int y1), (5, .int y5)]) 4 rfl (by decide) (by decide) rfl ?_
  refine V.goto (pc := 84) C dX11_dearest_84 21 (by decide) ?_
  refine V.wk [3, 4, 2, 1, 0] rfl ?_
  exact h21 y1 y4 y5 (y4 + 1) m
set_option maxRecDepth 100000 in
set_option maxHeartbeats 4000000 in
theorem v_X11_dearest_b21 {l : Launch} {p : Program} {e : Env} {s : State} {mt : MethodId} {args : Array Value} {below : List Frame} {meth : Method} {c : Code} {A : Nat → Prop} {ad0 : Nat → Nat} {G : Gt} {N : Nat} (C : Cx G p s mt args meth c RX11 cX11_dearest 6 (some .int) "dearest" A) (hN : 109 ≤ N) : ∀ (n : Nat) (y1 : Int32) (y2 : Int32) (y3 : Int32) (y4 : Int32) (m : Mem), V G SX oI l p e s mt args below meth c 6 5 A ad0 N N RX N RX 21 [(0, .ref 0), (1, .int y1), (2, .int y2), (3, .int y3), (4, .int y4)] [] m (X11_dearest_b21  n y1 y2 y3 y4 m) := by
  intro n
  induction n with
  | zero =>
    intro y1 y2 y3 y4 m
    rw [X11_dearest_b21]
    exact V.nil
  | succ n ih =>
    intro y1 y2 y3 y4 m
    rw [X11_dearest_b21]
    refine V.iload (pc := 21) C dX11_dearest_21 4 rfl ?_
    refine V.aload_n (pc := 23) C dX11_dearest_23 0 rfl ?_
    refine V.getr (pc := 24) C fl_RX11_16 sX0 (kX0 hN) rfl rX0_3 dX11_dearest_24 ?_
    refine V.geti (pc := 27) C fl_RX11_249 sX2 (kX2 hN) rfl dX11_dearest_27 ?_
    refine V.icmp_ge (pc := 30) C dX11_dearest_30 87 (by decide) (fun _ => ?_) (fun _ => ?_)
    · refine V.iload_n (pc := 87) C dX11_dearest_87 2 rfl ?_
      exact V.iret C dX11_dearest_88
    · refine V.iload (pc := 33) C dX11_dearest_33 4 rfl ?_
      refine V.iload_n (pc := 35) C dX11_dearest_35 1 rfl ?_
      refine V.icmp_eq (pc := 36) C dX11_dearest_36 81 (by decide) (fun _ => ?_) (fun _ => ?_)
      · refine V.iinc (pc := 81) C dX11_dearest_81 (v := 1) (L2 := [(4, .int (y4 + 1)), (0, .ref 0), (1, .int y1), (2, .int y2), (3, .int y3)]) 4 rfl (by decide) (by decide) rfl ?_
        refine V.goto (pc := 84) C dX11_dearest_84 21 (by decide) ?_
        refine V.wk [1, 2, 3, 4, 0] rfl ?_
        exact ih y1 y2 y3 (y4 + 1) m
      · refine V.aload_n (pc := 39) C dX11_dearest_39 0 rfl ?_
        refine V.getr (pc := 40) C fl_RX11_38 sX0 (kX0 hN) rfl rX0_6 dX11_dearest_40 ?_
        refine V.iload_n (pc := 43) C dX11_dearest_43 1 rfl ?_
        refine V.iload (pc := 44) C dX11_dearest_44 4 rfl ?_
        refine V.callV (pc := 46) (st := []) C (c_X10_isAllowed l hN 25 (iX25 hN) y1 y4 m) obI ck_X10_isAllowed ml_RX11_182 rfl rfl sX25 (kX25 hN) rfl rfl (Nat.le_of_ble_eq_true rfl) ⟨by decide, by decide⟩ dX11_dearest_46 (fun r_3 m_4 _ => ?_)
        refine V.if_eq (pc := 49) C dX11_dearest_49 81 (by decide) (fun _ => ?_) (fun _ => ?_)
        · refine V.iinc (pc := 81) C dX11_dearest_81 (v := 1) (L2 := [(4, .int (y4 + 1)), (0, .ref 0), (1, .int y1), (2, .int y2), (3, .int y3)]) 4 rfl (by decide) (by decide) rfl ?_
          refine V.goto (pc := 84) C dX11_dearest_84 21 (by decide) ?_
          refine V.wk [1, 2, 3, 4, 0] rfl ?_
          exact ih y1 y2 y3 (y4 + 1) m_4
        · refine V.aload_n (pc := 52) C dX11_dearest_52 0 rfl ?_
          refine V.getr (pc := 53) C fl_RX11_38 sX0 (kX0 hN) rfl rX0_6 dX11_dearest_53 ?_
          refine V.iload_n (pc := 56) C dX11_dearest_56 1 rfl ?_
          refine V.iload (pc := 57) C dX11_dearest_57 4 rfl ?_
          refine V.callV (pc := 59) (st := []) C (c_X10_goodness l hN 25 (iX25 hN) y1 y4 m_4) obI ck_X10_goodness ml_RX11_177 rfl rfl sX25 (kX25 hN) rfl rfl (Nat.le_of_ble_eq_true rfl) ⟨by decide, by decide⟩ dX11_dearest_59 (fun r_5 m_6 _ => ?_)
          refine V.istore (pc := 62) C dX11_dearest_62 (L2 := [(5, .int r_5), (0, .ref 0), (1, .int y1), (2, .int y2), (3, .int y3), (4, .int y4)]) (by decide) rfl ?_
          refine V.iload_n (pc := 64) C dX11_dearest_64 3 rfl ?_
          refine V.iconst (pc := 65) C dX11_dearest_65 (v := (-1)) (by decide) ?_
          refine V.icmp_eq (pc := 66) C dX11_dearest_66 75 (by decide) (fun _ => ?_) (fun _ => ?_)
          · refine V.wk [1, 2, 5, 0] rfl ?_
            exact v_X11_dearest_b75 C hN (X11_dearest_b21 n) ih y1 y4 r_5 m_6
          · refine V.iload (pc := 69) C dX11_dearest_69 0 rfl ?_
            refine V.iload_n (pc := 71) C dX11_dearest_71 4 rfl ?_
            refine V.icmp_le (pc := 72) C dX11_dearest_72 81 (by decide) (fun _ => ?_) (fun _ => ?_)
            · refine V.iinc (pc := 81) C dX11_dearest_81 (v := 1) (L2 := [(4, .int (y4 + 1)), (5, .int r_5), (0, .ref 0), (1, .int y1), (2, .int y2), (3, .int y3)]) 5 rfl (by decide) (by decide) rfl ?_
              refine V.goto (pc := 84) C dX11_dearest_84 21 (by decide) ?_
              refine V.wk [2, 3, 4, 5, 0] rfl ?_
              exact ih y1 y2 y3 (y4 + 1) m_6
            · refine V.wk [1, 2, 5, 0] rfl ?_
              exact v_X11_dearest_b75 C hN (X11_dearest_b21 n) ih y1 y4 r_5 m_6
set_option maxRecDepth 100000 in
set_option maxHeartbeats 4000000 in
theorem v_X11_dearest {l : Launch} {p : Program} {e : Env} {s : State} {mt : MethodId} {args : Array Value} {below : List Frame} {meth : Method} {c : Code} {A : Nat → Prop} {ad0 : Nat → Nat} {G : Gt} {N : Nat} (C : Cx G p s mt args meth c RX11 cX11_dearest 6 (some .int) "dearest" A) (hN : 109 ≤ N) (x1 : Int32) (m : Mem) : V G SX oI l p e s mt args below meth c 6 5 A ad0 N N RX N RX 0 [(0, .ref 0), (1, .int x1)] [] m (X11_dearest  x1 m) := by
  rw [X11_dearest]
  refine V.aload_n (pc := 0) C dX11_dearest_0 0 rfl ?_
  refine V.getr (pc := 1) C fl_RX11_38 sX0 (kX0 hN) rfl rX0_6 dX11_dearest_1 ?_
  refine V.iload_n (pc := 4) C dX11_dearest_4 1 rfl ?_
  refine V.callV (pc := 5) (st := []) C (c_X10_isPerson l hN 25 (iX25 hN) x1 m) obI ck_X10_isPerson ml_RX11_123 rfl rfl sX25 (kX25 hN) rfl rfl (Nat.le_of_ble_eq_true rfl) ⟨by decide, by decide⟩ dX11_dearest_5 (fun r_1 m_2 _ => ?_)
  refine V.if_ne (pc := 8) C dX11_dearest_8 14 (by decide) (fun _ => ?_) (fun _ => ?_)
  · refine V.iconst (pc := 14) C dX11_dearest_14 (v := (-1)) (by decide) ?_
    refine V.istore_n (pc := 15) C dX11_dearest_15 (L2 := [(2, .int (-1)), (0, .ref 0), (1, .int x1)]) (by decide) rfl ?_
    refine V.iconst (pc := 16) C dX11_dearest_16 (v := 0) (by decide) ?_
    refine V.istore_n (pc := 17) C dX11_dearest_17 (L2 := [(3, .int 0), (2, .int (-1)), (0, .ref 0), (1, .int x1)]) (by decide) rfl ?_
    refine V.iconst (pc := 18) C dX11_dearest_18 (v := 0) (by decide) ?_
    refine V.istore (pc := 19) C dX11_dearest_19 (L2 := [(4, .int 0), (3, .int 0), (2, .int (-1)), (0, .ref 0), (1, .int x1)]) (by decide) rfl ?_
    refine V.wk [3, 4, 2, 1, 0] rfl ?_
    exact v_X11_dearest_b21 C hN FU x1 (-1) 0 0 m_2
  · refine V.bipush (pc := 11) C dX11_dearest_11 (v := (-2)) (by decide) ?_
    exact V.iret C dX11_dearest_13
theorem c_X11_dearest (l : Launch) {N : Nat} (hN : 109 ≤ N) (x1 : Int32) (m : Mem) : Ct l yX11_dearest cX11_dearest 6 (some .int) 5 SX oI N N RX RX [.ref 0, .int x1] m (X11_dearest  x1 m) :=
  Ct.of (own := RX11) (nm := "dearest") (by decide) rfl rfl (Nat.le_of_ble_eq_true rfl) (fun _ _ _ _ _ _ _ _ _ _ _ C => v_X11_dearest C hN x1 m)
theorem dX11_draw_0 : decode cX11_draw 0 = .ok (.aload_n 0, 1) := by decide +kernel
theorem dX11_draw_1 : decode cX11_draw 1 = .ok (.ldc_w 390, 3) := by decide +kernel
theorem dX11_draw_4 : decode cX11_draw 4 = .ok (.aload_n 0, 1) := by decide +kernel
theorem dX11_draw_5 : decode cX11_draw 5 = .ok (.getfield 252, 3) := by decide +kernel
theorem dX11_draw_8 : decode cX11_draw 8 = .ok (.imul, 1) := by decide +kernel
theorem dX11_draw_9 : decode cX11_draw 9 = .ok (.sipush 12345, 3) := by decide +kernel
theorem dX11_draw_12 : decode cX11_draw 12 = .ok (.iadd, 1) := by decide +kernel
theorem dX11_draw_13 : decode cX11_draw 13 = .ok (.putfield 252, 3) := by decide +kernel
theorem dX11_draw_16 : decode cX11_draw 16 = .ok (.iload_n 1, 1) := by decide +kernel
theorem dX11_draw_17 : decode cX11_draw 17 = .ok (.ifCond .le 15, 3) := by decide +kernel
theorem dX11_draw_20 : decode cX11_draw 20 = .ok (.aload_n 0, 1) := by decide +kernel
theorem dX11_draw_21 : decode cX11_draw 21 = .ok (.getfield 252, 3) := by decide +kernel
theorem dX11_draw_24 : decode cX11_draw 24 = .ok (.bipush 16, 2) := by decide +kernel
theorem dX11_draw_26 : decode cX11_draw 26 = .ok (.iushr, 1) := by decide +kernel
theorem dX11_draw_27 : decode cX11_draw 27 = .ok (.iload_n 1, 1) := by decide +kernel
theorem dX11_draw_28 : decode cX11_draw 28 = .ok (.irem, 1) := by decide +kernel
theorem dX11_draw_29 : decode cX11_draw 29 = .ok (.goto 4, 3) := by decide +kernel
theorem dX11_draw_32 : decode cX11_draw 32 = .ok (.iconst 0, 1) := by decide +kernel
theorem dX11_draw_33 : decode cX11_draw 33 = .ok (.ireturn, 1) := by decide +kernel
set_option maxRecDepth 100000 in
set_option maxHeartbeats 4000000 in
theorem v_X11_draw {l : Launch} {p : Program} {e : Env} {s : State} {mt : MethodId} {args : Array Value} {below : List Frame} {meth : Method} {c : Code} {A : Nat → Prop} {ad0 : Nat → Nat} {G : Gt} {N : Nat} (C : Cx G p s mt args meth c RX11 cX11_draw 2 (some .int) "draw" A) (hN : 109 ≤ N) (x1 : Int32) (m : Mem) : V G SX oI l p e s mt args below meth c 2 1 A ad0 N N RX N RX 0 [(0, .ref 0), (1, .int x1)] [] m (X11_draw  x1 m) := by
  rw [X11_draw]
  refine V.aload_n (pc := 0) C dX11_draw_0 0 rfl ?_
  refine V.ldcw (pc := 1) C dX11_draw_1 (v := 1103515245) cn_RX11_390 ?_
  refine V.aload_n (pc := 4) C dX11_draw_4 0 rfl ?_
  refine V.geti (pc := 5) C fl_RX11_252 sX0 (kX0 hN) rfl dX11_draw_5 ?_
  refine V.imul (pc := 8) C dX11_draw_8 ?_
  refine V.sipush (pc := 9) C dX11_draw_9 (v := 12345) (by decide) ?_
  refine V.iadd (pc := 12) C dX11_draw_12 ?_
  refine V.puti (pc := 13) C fp_RX11_252 sX0 (kX0 hN) rfl dX11_draw_13 ?_
  refine V.ltm (fun m_1 => ?_)
  refine V.iload_n (pc := 16) C dX11_draw_16 1 rfl ?_
  refine V.if_le (pc := 17) C dX11_draw_17 32 (by decide) (fun _ => ?_) (fun _ => ?_)
  · refine V.iconst (pc := 32) C dX11_draw_32 (v := 0) (by decide) ?_
    exact V.iret C dX11_draw_33
  · refine V.aload_n (pc := 20) C dX11_draw_20 0 rfl ?_
    refine V.geti (pc := 21) C fl_RX11_252 sX0 (kX0 hN) rfl dX11_draw_21 ?_
    refine V.bipush (pc := 24) C dX11_draw_24 (v := 16) (by decide) ?_
    refine V.iushr (pc := 26) C dX11_draw_26 ?_
    refine V.iload_n (pc := 27) C dX11_draw_27 1 rfl ?_
    refine V.ck (fun hz => ?_)
    refine V.irem (pc := 28) C dX11_draw_28 (of_decide_eq_true hz) ?_
    refine V.goto (pc := 29) C dX11_draw_29 33 (by decide) ?_
    exact V.iret C dX11_draw_33
theorem c_X11_draw (l : Launch) {N : Nat} (hN : 109 ≤ N) (x1 : Int32) (m : Mem) : Ct l yX11_draw cX11_draw 2 (some .int) 1 SX oI N N RX RX [.ref 0, .int x1] m (X11_draw  x1 m) :=
  Ct.of (own := RX11) (nm := "draw") (by decide) rfl rfl (Nat.le_of_ble_eq_true rfl) (fun _ _ _ _ _ _ _ _ _ _ _ C => v_X11_draw C hN x1 m)
theorem dX11_drawDeed_0 : decode cX11_drawDeed 0 = .ok (.aload_n 0, 1) := by decide +kernel
theorem dX11_drawDeed_1 : decode cX11_drawDeed 1 = .ok (.iconst 4, 1) := by decide +kernel
theorem dX11_drawDeed_2 : decode cX11_drawDeed 2 = .ok (.invokevirtual 387, 3) := by decide +kernel
theorem dX11_drawDeed_5 : decode cX11_drawDeed 5 = .ok (.istore_n 1, 1) := by decide +kernel
theorem dX11_drawDeed_6 : decode cX11_drawDeed 6 = .ok (.iload_n 1, 1) := by decide +kernel
theorem dX11_drawDeed_7 : decode cX11_drawDeed 7 = .ok (.ifCond .ne 5, 3) := by decide +kernel
theorem dX11_drawDeed_10 : decode cX11_drawDeed 10 = .ok (.iconst (-1), 1) := by decide +kernel
theorem dX11_drawDeed_11 : decode cX11_drawDeed 11 = .ok (.ireturn, 1) := by decide +kernel
theorem dX11_drawDeed_12 : decode cX11_drawDeed 12 = .ok (.aload_n 0, 1) := by decide +kernel
theorem dX11_drawDeed_13 : decode cX11_drawDeed 13 = .ok (.aload_n 0, 1) := by decide +kernel
theorem dX11_drawDeed_14 : decode cX11_drawDeed 14 = .ok (.getfield 16, 3) := by decide +kernel
theorem dX11_drawDeed_17 : decode cX11_drawDeed 17 = .ok (.getfield 249, 3) := by decide +kernel
theorem dX11_drawDeed_20 : decode cX11_drawDeed 20 = .ok (.invokevirtual 387, 3) := by decide +kernel
theorem dX11_drawDeed_23 : decode cX11_drawDeed 23 = .ok (.istore_n 2, 1) := by decide +kernel
theorem dX11_drawDeed_24 : decode cX11_drawDeed 24 = .ok (.aload_n 0, 1) := by decide +kernel
theorem dX11_drawDeed_25 : decode cX11_drawDeed 25 = .ok (.iload_n 1, 1) := by decide +kernel
theorem dX11_drawDeed_26 : decode cX11_drawDeed 26 = .ok (.iconst 2, 1) := by decide +kernel
theorem dX11_drawDeed_27 : decode cX11_drawDeed 27 = .ok (.if_icmp .ne 13, 3) := by decide +kernel
theorem dX11_drawDeed_30 : decode cX11_drawDeed 30 = .ok (.aload_n 0, 1) := by decide +kernel
theorem dX11_drawDeed_31 : decode cX11_drawDeed 31 = .ok (.getfield 16, 3) := by decide +kernel
theorem dX11_drawDeed_34 : decode cX11_drawDeed 34 = .ok (.getfield 246, 3) := by decide +kernel
theorem dX11_drawDeed_37 : decode cX11_drawDeed 37 = .ok (.goto 10, 3) := by decide +kernel
theorem dX11_drawDeed_40 : decode cX11_drawDeed 40 = .ok (.aload_n 0, 1) := by decide +kernel
theorem dX11_drawDeed_41 : decode cX11_drawDeed 41 = .ok (.getfield 16, 3) := by decide +kernel
theorem dX11_drawDeed_44 : decode cX11_drawDeed 44 = .ok (.getfield 249, 3) := by decide +kernel
theorem dX11_drawDeed_47 : decode cX11_drawDeed 47 = .ok (.invokevirtual 387, 3) := by decide +kernel
theorem dX11_drawDeed_50 : decode cX11_drawDeed 50 = .ok (.istore_n 3, 1) := by decide +kernel
theorem dX11_drawDeed_51 : decode cX11_drawDeed 51 = .ok (.sipush 1000, 3) := by decide +kernel
theorem dX11_drawDeed_54 : decode cX11_drawDeed 54 = .ok (.iload_n 1, 1) := by decide +kernel
theorem dX11_drawDeed_55 : decode cX11_drawDeed 55 = .ok (.iconst 1, 1) := by decide +kernel
theorem dX11_drawDeed_56 : decode cX11_drawDeed 56 = .ok (.isub, 1) := by decide +kernel
theorem dX11_drawDeed_57 : decode cX11_drawDeed 57 = .ok (.imul, 1) := by decide +kernel
theorem dX11_drawDeed_58 : decode cX11_drawDeed 58 = .ok (.bipush 100, 2) := by decide +kernel
theorem dX11_drawDeed_60 : decode cX11_drawDeed 60 = .ok (.iload_n 2, 1) := by decide +kernel
theorem dX11_drawDeed_61 : decode cX11_drawDeed 61 = .ok (.imul, 1) := by decide +kernel
theorem dX11_drawDeed_62 : decode cX11_drawDeed 62 = .ok (.iadd, 1) := by decide +kernel
theorem dX11_drawDeed_63 : decode cX11_drawDeed 63 = .ok (.iload_n 3, 1) := by decide +kernel
theorem dX11_drawDeed_64 : decode cX11_drawDeed 64 = .ok (.iadd, 1) := by decide +kernel
theorem dX11_drawDeed_65 : decode cX11_drawDeed 65 = .ok (.ireturn, 1) := by decide +kernel
set_option maxRecDepth 100000 in
set_option maxHeartbeats 4000000 in
theorem v_X11_drawDeed_b47 {l : Launch} {p : Program} {e : Env} {s : State} {mt : MethodId} {args : Array Value} {below : List Frame} {meth : Method} {c : Code} {A : Nat → Prop} {ad0 : Nat → Nat} {G : Gt} {N : Nat} (C : Cx G p s mt args meth c RX11 cX11_drawDeed 4 (some .int) "drawDeed" A) (hN : 109 ≤ N) (y1 : Int32) (y2 : Int32) (z0 : Int32) (m : Mem) : V G SX oI l p e s mt args below meth c 4 2 A ad0 N N RX N RX 47 [(1, .int y1), (2, .int y2)] [.int z0, .ref 0] m (X11_drawDeed_b47  y1 y2 z0 m) := by
  rw [X11_drawDeed_b47]
  refine V.callV (pc := 47) (st := []) C (c_X11_draw l hN z0 m) obI ck_X11_draw ml_RX11_387 rfl rfl sX0 (kX0 hN) rfl rfl (Nat.le_of_ble_eq_true rfl) ⟨by decide, by decide⟩ dX11_drawDeed_47 (fun r_5 m_6 _ => ?_)
  refine V.istore_n (pc := 50) C dX11_drawDeed_50 (L2 := [(3, .int r_5), (1, .int y1), (2, .int y2)]) (by decide) rfl ?_
  refine V.sipush (pc := 51) C dX11_drawDeed_51 (v := 1000) (by decide) ?_
  refine V.iload_n (pc := 54) C dX11_drawDeed_54 1 rfl ?_
  refine V.iconst (pc := 55) C dX11_drawDeed_55 (v := 1) (by decide) ?_
  refine V.isub (pc := 56) C dX11_drawDeed_56 ?_
  refine V.imul (pc := 57) C dX11_drawDeed_57 ?_
  refine V.bipush (pc := 58) C dX11_drawDeed_58 (v := 100) (by decide) ?_
  refine V.iload_n (pc := 60) C dX11_drawDeed_60 2 rfl ?_
  refine V.imul (pc := 61) C dX11_drawDeed_61 ?_
  refine V.iadd (pc := 62) C dX11_drawDeed_62 ?_
  refine V.iload_n (pc := 63) C dX11_drawDeed_63 0 rfl ?_
  refine V.iadd (pc := 64) C dX11_drawDeed_64 ?_
  exact V.iret C dX11_drawDeed_65
set_option maxRecDepth 100000 in
set_option maxHeartbeats 4000000 in
theorem v_X11_drawDeed {l : Launch} {p : Program} {e : Env} {s : State} {mt : MethodId} {args : Array Value} {below : List Frame} {meth : Method} {c : Code} {A : Nat → Prop} {ad0 : Nat → Nat} {G : Gt} {N : Nat} (C : Cx G p s mt args meth c RX11 cX11_drawDeed 4 (some .int) "drawDeed" A) (hN : 109 ≤ N) (m : Mem) : V G SX oI l p e s mt args below meth c 4 2 A ad0 N N RX N RX 0 [(0, .ref 0)] [] m (X11_drawDeed   m) := by
  rw [X11_drawDeed]
  refine V.aload_n (pc := 0) C dX11_drawDeed_0 0 rfl ?_
  refine V.iconst (pc := 1) C dX11_drawDeed_1 (v := 4) (by decide) ?_
  refine V.callV (pc := 2) (st := []) C (c_X11_draw l hN 4 m) obI ck_X11_draw ml_RX11_387 rfl rfl sX0 (kX0 hN) rfl rfl (Nat.le_of_ble_eq_true rfl) ⟨by decide, by decide⟩ dX11_drawDeed_2 (fun r_1 m_2 _ => ?_)
  refine V.istore_n (pc := 5) C dX11_drawDeed_5 (L2 := [(1, .int r_1), (0, .ref 0)]) (by decide) rfl ?_
  refine V.iload_n (pc := 6) C dX11_drawDeed_6 0 rfl ?_
  refine V.if_ne (pc := 7) C dX11_drawDeed_7 12 (by decide) (fun _ => ?_) (fun _ => ?_)
  · refine V.aload_n (pc := 12) C dX11_drawDeed_12 1 rfl ?_
    refine V.aload_n (pc := 13) C dX11_drawDeed_13 1 rfl ?_
    refine V.getr (pc := 14) C fl_RX11_16 sX0 (kX0 hN) rfl rX0_3 dX11_drawDeed_14 ?_
    refine V.geti (pc := 17) C fl_RX11_249 sX2 (kX2 hN) rfl dX11_drawDeed_17 ?_
    refine V.callV (pc := 20) (st := []) C (c_X11_draw l hN (gi m_2 2 1) m_2) obI ck_X11_draw ml_RX11_387 rfl rfl sX0 (kX0 hN) rfl rfl (Nat.le_of_ble_eq_true rfl) ⟨by decide, by decide⟩ dX11_drawDeed_20 (fun r_3 m_4 _ => ?_)
    refine V.istore_n (pc := 23) C dX11_drawDeed_23 (L2 := [(2, .int r_3), (1, .int r_1), (0, .ref 0)]) (by decide) rfl ?_
    refine V.aload_n (pc := 24) C dX11_drawDeed_24 2 rfl ?_
    refine V.iload_n (pc := 25) C dX11_drawDeed_25 1 rfl ?_
    refine V.iconst (pc := 26) C dX11_drawDeed_26 (v := 2) (by decide) ?_
    refine V.icmp_ne (pc := 27) C dX11_drawDeed_27 40 (by decide) (fun _ => ?_) (fun _ => ?_)
    · refine V.aload_n (pc := 40) C dX11_drawDeed_40 2 rfl ?_
      refine V.getr (pc := 41) C fl_RX11_16 sX0 (kX0 hN) rfl rX0_3 dX11_drawDeed_41 ?_
      refine V.geti (pc := 44) C fl_RX11_249 sX2 (kX2 hN) rfl dX11_drawDeed_44 ?_
      refine V.wk [1, 0] rfl ?_
      exact v_X11_drawDeed_b47 C hN r_1 r_3 (gi m_4 2 1) m_4
    · refine V.aload_n (pc := 30) C dX11_drawDeed_30 2 rfl ?_
      refine V.getr (pc := 31) C fl_RX11_16 sX0 (kX0 hN) rfl rX0_3 dX11_drawDeed_31 ?_
      refine V.geti (pc := 34) C fl_RX11_246 sX2 (kX2 hN) rfl dX11_drawDeed_34 ?_
      refine V.goto (pc := 37) C dX11_drawDeed_37 47 (by decide) ?_
      refine V.wk [1, 0] rfl ?_
      exact v_X11_drawDeed_b47 C hN r_1 r_3 (gi m_4 2 0) m_4
  · refine V.iconst (pc := 10) C dX11_drawDeed_10 (v := (-1)) (by decide) ?_
    exact V.iret C dX11_drawDeed_11
theorem c_X11_drawDeed (l : Launch) {N : Nat} (hN : 109 ≤ N) (m : Mem) : Ct l yX11_drawDeed cX11_drawDeed 4 (some .int) 2 SX oI N N RX RX [.ref 0] m (X11_drawDeed   m) :=
  Ct.of (own := RX11) (nm := "drawDeed") (by decide) rfl rfl (Nat.le_of_ble_eq_true rfl) (fun _ _ _ _ _ _ _ _ _ _ _ C => v_X11_drawDeed C hN  m)
theorem dX11_endurance_0 : decode cX11_endurance 0 = .ok (.aload_n 0, 1) := by decide +kernel
theorem dX11_endurance_1 : decode cX11_endurance 1 = .ok (.getfield 42, 3) := by decide +kernel
theorem dX11_endurance_4 : decode cX11_endurance 4 = .ok (.getfield 108, 3) := by decide +kernel
theorem dX11_endurance_7 : decode cX11_endurance 7 = .ok (.aload_n 0, 1) := by decide +kernel
theorem dX11_endurance_8 : decode cX11_endurance 8 = .ok (.getfield 38, 3) := by decide +kernel
theorem dX11_endurance_11 : decode cX11_endurance 11 = .ok (.getfield 108, 3) := by decide +kernel
theorem dX11_endurance_14 : decode cX11_endurance 14 = .ok (.invokevirtual 111, 3) := by decide +kernel
theorem dX11_endurance_17 : decode cX11_endurance 17 = .ok (.iconst 0, 1) := by decide +kernel
theorem dX11_endurance_18 : decode cX11_endurance 18 = .ok (.istore 4, 2) := by decide +kernel
theorem dX11_endurance_20 : decode cX11_endurance 20 = .ok (.iload 4, 2) := by decide +kernel
theorem dX11_endurance_22 : decode cX11_endurance 22 = .ok (.iload_n 3, 1) := by decide +kernel
theorem dX11_endurance_23 : decode cX11_endurance 23 = .ok (.if_icmp .ge 40, 3) := by decide +kernel
theorem dX11_endurance_26 : decode cX11_endurance 26 = .ok (.aload_n 0, 1) := by decide +kernel
theorem dX11_endurance_27 : decode cX11_endurance 27 = .ok (.getfield 42, 3) := by decide +kernel
theorem dX11_endurance_30 : decode cX11_endurance 30 = .ok (.iload_n 1, 1) := by decide +kernel
theorem dX11_endurance_31 : decode cX11_endurance 31 = .ok (.iload_n 2, 1) := by decide +kernel
theorem dX11_endurance_32 : decode cX11_endurance 32 = .ok (.invokevirtual 177, 3) := by decide +kernel
theorem dX11_endurance_35 : decode cX11_endurance 35 = .ok (.aload_n 0, 1) := by decide +kernel
theorem dX11_endurance_36 : decode cX11_endurance 36 = .ok (.getfield 16, 3) := by decide +kernel
theorem dX11_endurance_39 : decode cX11_endurance 39 = .ok (.getfield 375, 3) := by decide +kernel
theorem dX11_endurance_42 : decode cX11_endurance 42 = .ok (.if_icmp .ge 6, 3) := by decide +kernel
theorem dX11_endurance_45 : decode cX11_endurance 45 = .ok (.iload 4, 2) := by decide +kernel
theorem dX11_endurance_47 : decode cX11_endurance 47 = .ok (.ireturn, 1) := by decide +kernel
theorem dX11_endurance_48 : decode cX11_endurance 48 = .ok (.aload_n 0, 1) := by decide +kernel
theorem dX11_endurance_49 : decode cX11_endurance 49 = .ok (.getfield 42, 3) := by decide +kernel
theorem dX11_endurance_52 : decode cX11_endurance 52 = .ok (.iload_n 1, 1) := by decide +kernel
theorem dX11_endurance_53 : decode cX11_endurance 53 = .ok (.iload_n 2, 1) := by decide +kernel
theorem dX11_endurance_54 : decode cX11_endurance 54 = .ok (.invokevirtual 303, 3) := by decide +kernel
theorem dX11_endurance_57 : decode cX11_endurance 57 = .ok (.iinc 4 1, 3) := by decide +kernel
theorem dX11_endurance_60 : decode cX11_endurance 60 = .ok (.goto (-40), 3) := by decide +kernel
theorem dX11_endurance_63 : decode cX11_endurance 63 = .ok (.iload_n 3, 1) := by decide +kernel
theorem dX11_endurance_64 : decode cX11_endurance 64 = .ok (.ireturn, 1) := by decide +kernel
set_option maxRecDepth 100000 in
set_option maxHeartbeats 4000000 in
theorem v_X11_endurance_b20 {l : Launch} {p : Program} {e : Env} {s : State} {mt : MethodId} {args : Array Value} {below : List Frame} {meth : Method} {c : Code} {A : Nat → Prop} {ad0 : Nat → Nat} {G : Gt} {N : Nat} (C : Cx G p s mt args meth c RX11 cX11_endurance 5 (some .int) "endurance" A) (hN : 109 ≤ N) : ∀ (n : Nat) (y1 : Int32) (y2 : Int32) (y3 : Int32) (y4 : Int32) (m : Mem), V G SX oI l p e s mt args below meth c 5 6 A ad0 N N RX N RX 20 [(0, .ref 0), (1, .int y1), (2, .int y2), (3, .int y3), (4, .int y4)] [] m (X11_endurance_b20  n y1 y2 y3 y4 m) := by
  intro n
  induction n with
  | zero =>
    intro y1 y2 y3 y4 m
    rw [X11_endurance_b20]
    exact V.nil
  | succ n ih =>
    intro y1 y2 y3 y4 m
    rw [X11_endurance_b20]
    refine V.iload (pc := 20) C dX11_endurance_20 4 rfl ?_
    refine V.iload_n (pc := 22) C dX11_endurance_22 3 rfl ?_
    refine V.icmp_ge (pc := 23) C dX11_endurance_23 63 (by decide) (fun _ => ?_) (fun _ => ?_)
    · refine V.iload_n (pc := 63) C dX11_endurance_63 3 rfl ?_
      exact V.iret C dX11_endurance_64
    · refine V.aload_n (pc := 26) C dX11_endurance_26 0 rfl ?_
      refine V.getr (pc := 27) C fl_RX11_42 sX0 (kX0 hN) rfl rX0_7 dX11_endurance_27 ?_
      refine V.iload_n (pc := 30) C dX11_endurance_30 1 rfl ?_
      refine V.iload_n (pc := 31) C dX11_endurance_31 2 rfl ?_
      refine V.callV (pc := 32) (st := []) C (c_X10_goodness l hN 32 (iX32 hN) y1 y2 m) obI ck_X10_goodness ml_RX11_177 rfl rfl sX32 (kX32 hN) rfl rfl (Nat.le_of_ble_eq_true rfl) ⟨by decide, by decide⟩ dX11_endurance_32 (fun r_3 m_4 _ => ?_)
      refine V.aload_n (pc := 35) C dX11_endurance_35 0 rfl ?_
      refine V.getr (pc := 36) C fl_RX11_16 sX0 (kX0 hN) rfl rX0_3 dX11_endurance_36 ?_
      refine V.geti (pc := 39) C fl_RX11_375 sX2 (kX2 hN) rfl dX11_endurance_39 ?_
      refine V.icmp_ge (pc := 42) C dX11_endurance_42 48 (by decide) (fun _ => ?_) (fun _ => ?_)
      · refine V.aload_n (pc := 48) C dX11_endurance_48 0 rfl ?_
        refine V.getr (pc := 49) C fl_RX11_42 sX0 (kX0 hN) rfl rX0_7 dX11_endurance_49 ?_
        refine V.iload_n (pc := 52) C dX11_endurance_52 1 rfl ?_
        refine V.iload_n (pc := 53) C dX11_endurance_53 2 rfl ?_
        refine V.callV (pc := 54) (st := []) C (c_X10_passYearOfTwo l hN 32 (iX32 hN) y1 y2 m_4) obV ck_X10_passYearOfTwo ml_RX11_303 rfl rfl sX32 (kX32 hN) rfl rfl (Nat.le_of_ble_eq_true rfl) ⟨by decide, by decide⟩ dX11_endurance_54 (fun r_5 m_6 _ => ?_)
        refine V.iinc (pc := 57) C dX11_endurance_57 (v := 1) (L2 := [(4, .int (y4 + 1)), (0, .ref 0), (1, .int y1), (2, .int y2), (3, .int y3)]) 4 rfl (by decide) (by decide) rfl ?_
        refine V.goto (pc := 60) C dX11_endurance_60 20 (by decide) ?_
        refine V.wk [1, 2, 3, 4, 0] rfl ?_
        exact ih y1 y2 y3 (y4 + 1) m_6
      · refine V.iload (pc := 45) C dX11_endurance_45 4 rfl ?_
        exact V.iret C dX11_endurance_47
set_option maxRecDepth 100000 in
set_option maxHeartbeats 4000000 in
theorem v_X11_endurance {l : Launch} {p : Program} {e : Env} {s : State} {mt : MethodId} {args : Array Value} {below : List Frame} {meth : Method} {c : Code} {A : Nat → Prop} {ad0 : Nat → Nat} {G : Gt} {N : Nat} (C : Cx G p s mt args meth c RX11 cX11_endurance 5 (some .int) "endurance" A) (hN : 109 ≤ N) (x1 : Int32) (x2 : Int32) (x3 : Int32) (m : Mem) : V G SX oI l p e s mt args below meth c 5 6 A ad0 N N RX N RX 0 [(0, .ref 0), (1, .int x1), (2, .int x2), (3, .int x3)] [] m (X11_endurance  x1 x2 x3 m) := by
  rw [X11_endurance]
  refine V.aload_n (pc := 0) C dX11_endurance_0 0 rfl ?_
  refine V.getr (pc := 1) C fl_RX11_42 sX0 (kX0 hN) rfl rX0_7 dX11_endurance_1 ?_
  refine V.getr (pc := 4) C fl_RX11_108 sX32 (kX32 hN) rfl rX32_2 dX11_endurance_4 ?_
  refine V.aload_n (pc := 7) C dX11_endurance_7 0 rfl ?_
  refine V.getr (pc := 8) C fl_RX11_38 sX0 (kX0 hN) rfl rX0_6 dX11_endurance_8 ?_
  refine V.getr (pc := 11) C fl_RX11_108 sX25 (kX25 hN) rfl rX25_2 dX11_endurance_11 ?_
  refine V.callV (pc := 14) (st := []) C (c_X5_become l hN 33 (iX33 hN) 26 (iX26 hN) m) obV ck_X5_become ml_RX11_111 rfl rfl sX33 (kX33 hN) rfl rfl (Nat.le_of_ble_eq_true rfl) ⟨by decide, by decide⟩ dX11_endurance_14 (fun r_1 m_2 _ => ?_)
  refine V.iconst (pc := 17) C dX11_endurance_17 (v := 0) (by decide) ?_
  refine V.istore (pc := 18) C dX11_endurance_18 (L2 := [(4, .int 0), (0, .ref 0), (1, .int x1), (2, .int x2), (3, .int x3)]) (by decide) rfl ?_
  refine V.wk [1, 2, 3, 4, 0] rfl ?_
  exact v_X11_endurance_b20 C hN FU x1 x2 x3 0 m_2
theorem c_X11_endurance (l : Launch) {N : Nat} (hN : 109 ≤ N) (x1 : Int32) (x2 : Int32) (x3 : Int32) (m : Mem) : Ct l yX11_endurance cX11_endurance 5 (some .int) 6 SX oI N N RX RX [.ref 0, .int x1, .int x2, .int x3] m (X11_endurance  x1 x2 x3 m) :=
  Ct.of (own := RX11) (nm := "endurance") (by decide) rfl rfl (Nat.le_of_ble_eq_true rfl) (fun _ _ _ _ _ _ _ _ _ _ _ C => v_X11_endurance C hN x1 x2 x3 m)
theorem dX11_fault_0 : decode cX11_fault 0 = .ok (.iload_n 1, 1) := by decide +kernel
theorem dX11_fault_1 : decode cX11_fault 1 = .ok (.lookupswitch 43 #[(0, 27), (1, 35)], 27) := by decide +kernel
theorem dX11_fault_28 : decode cX11_fault 28 = .ok (.aload_n 0, 1) := by decide +kernel
theorem dX11_fault_29 : decode cX11_fault 29 = .ok (.getfield 50, 3) := by decide +kernel
theorem dX11_fault_32 : decode cX11_fault 32 = .ok (.getfield 101, 3) := by decide +kernel
theorem dX11_fault_35 : decode cX11_fault 35 = .ok (.ireturn, 1) := by decide +kernel
theorem dX11_fault_36 : decode cX11_fault 36 = .ok (.aload_n 0, 1) := by decide +kernel
theorem dX11_fault_37 : decode cX11_fault 37 = .ok (.getfield 50, 3) := by decide +kernel
theorem dX11_fault_40 : decode cX11_fault 40 = .ok (.getfield 120, 3) := by decide +kernel
theorem dX11_fault_43 : decode cX11_fault 43 = .ok (.ireturn, 1) := by decide +kernel
theorem dX11_fault_44 : decode cX11_fault 44 = .ok (.iconst (-1), 1) := by decide +kernel
theorem dX11_fault_45 : decode cX11_fault 45 = .ok (.ireturn, 1) := by decide +kernel
set_option maxRecDepth 100000 in
set_option maxHeartbeats 4000000 in
theorem v_X11_fault {l : Launch} {p : Program} {e : Env} {s : State} {mt : MethodId} {args : Array Value} {below : List Frame} {meth : Method} {c : Code} {A : Nat → Prop} {ad0 : Nat → Nat} {G : Gt} {N : Nat} (C : Cx G p s mt args meth c RX11 cX11_fault 2 (some .int) "fault" A) (hN : 109 ≤ N) (x1 : Int32) (m : Mem) : V G SX oI l p e s mt args below meth c 2 1 A ad0 N N RX N RX 0 [(0, .ref 0), (1, .int x1)] [] m (X11_fault  x1 m) := by
  rw [X11_fault]
  refine V.iload_n (pc := 0) C dX11_fault_0 1 rfl ?_
  refine V.br (fun h_1 => ?_) (fun h_1 => ?_)
  · refine V.lin (pc := 1) (x := x1) (off := 27) (tgt := 28) C dX11_fault_1 (by decide) (by rw [h_1] <;> rfl) (by decide) ?_
    refine V.aload_n (pc := 28) C dX11_fault_28 0 rfl ?_
    refine V.getr (pc := 29) C fl_RX11_50 sX0 (kX0 hN) rfl rX0_8 dX11_fault_29 ?_
    refine V.geti (pc := 32) C fl_RX11_101 sX39 (kX39 hN) rfl dX11_fault_32 ?_
    exact V.iret C dX11_fault_35
  · refine V.br (fun h_2 => ?_) (fun h_2 => ?_)
    · refine V.lin (pc := 1) (x := x1) (off := 35) (tgt := 36) C dX11_fault_1 (by decide) (by rw [h_2] <;> rfl) (by decide) ?_
      refine V.aload_n (pc := 36) C dX11_fault_36 0 rfl ?_
      refine V.getr (pc := 37) C fl_RX11_50 sX0 (kX0 hN) rfl rX0_8 dX11_fault_37 ?_
      refine V.geti (pc := 40) C fl_RX11_120 sX39 (kX39 hN) rfl dX11_fault_40 ?_
      exact V.iret C dX11_fault_43
    · refine V.lin (pc := 1) (x := x1) (off := 43) (tgt := 44) C dX11_fault_1 (by decide) (by rw [lv_osw h_1 (show (0 : Int32).toInt = 0 from by decide), lv_osw h_2 (show (1 : Int32).toInt = 1 from by decide)] <;> rfl) (by decide) ?_
      refine V.iconst (pc := 44) C dX11_fault_44 (v := (-1)) (by decide) ?_
      exact V.iret C dX11_fault_45
theorem c_X11_fault (l : Launch) {N : Nat} (hN : 109 ≤ N) (x1 : Int32) (m : Mem) : Ct l yX11_fault cX11_fault 2 (some .int) 1 SX oI N N RX RX [.ref 0, .int x1] m (X11_fault  x1 m) :=
  Ct.of (own := RX11) (nm := "fault") (by decide) rfl rfl (Nat.le_of_ble_eq_true rfl) (fun _ _ _ _ _ _ _ _ _ _ _ C => v_X11_fault C hN x1 m)
theorem dX11_tapeFour_0 : decode cX11_tapeFour 0 = .ok (.bipush 24, 2) := by decide +kernel
theorem dX11_tapeFour_2 : decode cX11_tapeFour 2 = .ok (.istore_n 2, 1) := by decide +kernel
theorem dX11_tapeFour_3 : decode cX11_tapeFour 3 = .ok (.iload_n 2, 1) := by decide +kernel
theorem dX11_tapeFour_4 : decode cX11_tapeFour 4 = .ok (.ifCond .lt 42, 3) := by decide +kernel
theorem dX11_tapeFour_7 : decode cX11_tapeFour 7 = .ok (.aload_n 0, 1) := by decide +kernel
theorem dX11_tapeFour_8 : decode cX11_tapeFour 8 = .ok (.getfield 90, 3) := by decide +kernel
theorem dX11_tapeFour_11 : decode cX11_tapeFour 11 = .ok (.sipush 900, 3) := by decide +kernel
theorem dX11_tapeFour_14 : decode cX11_tapeFour 14 = .ok (.if_icmp .ge 26, 3) := by decide +kernel
theorem dX11_tapeFour_17 : decode cX11_tapeFour 17 = .ok (.aload_n 0, 1) := by decide +kernel
theorem dX11_tapeFour_18 : decode cX11_tapeFour 18 = .ok (.getfield 9, 3) := by decide +kernel
theorem dX11_tapeFour_21 : decode cX11_tapeFour 21 = .ok (.aload_n 0, 1) := by decide +kernel
theorem dX11_tapeFour_22 : decode cX11_tapeFour 22 = .ok (.getfield 90, 3) := by decide +kernel
theorem dX11_tapeFour_25 : decode cX11_tapeFour 25 = .ok (.iload_n 1, 1) := by decide +kernel
theorem dX11_tapeFour_26 : decode cX11_tapeFour 26 = .ok (.iload_n 2, 1) := by decide +kernel
theorem dX11_tapeFour_27 : decode cX11_tapeFour 27 = .ok (.ishr, 1) := by decide +kernel
theorem dX11_tapeFour_28 : decode cX11_tapeFour 28 = .ok (.i2b, 1) := by decide +kernel
theorem dX11_tapeFour_29 : decode cX11_tapeFour 29 = .ok (.bastore, 1) := by decide +kernel
theorem dX11_tapeFour_30 : decode cX11_tapeFour 30 = .ok (.aload_n 0, 1) := by decide +kernel
theorem dX11_tapeFour_31 : decode cX11_tapeFour 31 = .ok (.dup, 1) := by decide +kernel
theorem dX11_tapeFour_32 : decode cX11_tapeFour 32 = .ok (.getfield 90, 3) := by decide +kernel
theorem dX11_tapeFour_35 : decode cX11_tapeFour 35 = .ok (.iconst 1, 1) := by decide +kernel
theorem dX11_tapeFour_36 : decode cX11_tapeFour 36 = .ok (.iadd, 1) := by decide +kernel
theorem dX11_tapeFour_37 : decode cX11_tapeFour 37 = .ok (.putfield 90, 3) := by decide +kernel
theorem dX11_tapeFour_40 : decode cX11_tapeFour 40 = .ok (.iinc 2 (-8), 3) := by decide +kernel
theorem dX11_tapeFour_43 : decode cX11_tapeFour 43 = .ok (.goto (-40), 3) := by decide +kernel
theorem dX11_tapeFour_46 : decode cX11_tapeFour 46 = .ok (.return_, 1) := by decide +kernel
set_option maxRecDepth 100000 in
set_option maxHeartbeats 4000000 in
theorem v_X11_tapeFour_b3 {l : Launch} {p : Program} {e : Env} {s : State} {mt : MethodId} {args : Array Value} {below : List Frame} {meth : Method} {c : Code} {A : Nat → Prop} {ad0 : Nat → Nat} {G : Gt} {N : Nat} (C : Cx G p s mt args meth c RX11 cX11_tapeFour 3 none "tapeFour" A) (hN : 109 ≤ N) : ∀ (n : Nat) (y1 : Int32) (y2 : Int32) (m : Mem), V G SX oV l p e s mt args below meth c 3 1 A ad0 N N RX N RX 3 [(0, .ref 0), (1, .int y1), (2, .int y2)] [] m (X11_tapeFour_b3  n y1 y2 m) := by
  intro n
  induction n with
  | zero =>
    intro y1 y2 m
    rw [X11_tapeFour_b3]
    exact V.nil
  | succ n ih =>
    intro y1 y2 m
    rw [X11_tapeFour_b3]
    refine V.iload_n (pc := 3) C dX11_tapeFour_3 2 rfl ?_
    refine V.if_lt (pc := 4) C dX11_tapeFour_4 46 (by decide) (fun _ => ?_) (fun _ => ?_)
    · exact V.vret C dX11_tapeFour_46
    · refine V.aload_n (pc := 7) C dX11_tapeFour_7 0 rfl ?_
      refine V.geti (pc := 8) C fl_RX11_90 sX0 (kX0 hN) rfl dX11_tapeFour_8 ?_
      refine V.sipush (pc := 11) C dX11_tapeFour_11 (v := 900) (by decide) ?_
      refine V.icmp_ge (pc := 14) C dX11_tapeFour_14 40 (by decide) (fun _ => ?_) (fun _ => ?_)
      · refine V.iinc (pc := 40) C dX11_tapeFour_40 (v := (-8)) (L2 := [(2, .int (y2 + (-8))), (0, .ref 0), (1, .int y1)]) 2 rfl (by decide) (by decide) rfl ?_
        refine V.goto (pc := 43) C dX11_tapeFour_43 3 (by decide) ?_
        refine V.wk [1, 2, 0] rfl ?_
        exact ih y1 (y2 + (-8)) m
      · refine V.aload_n (pc := 17) C dX11_tapeFour_17 0 rfl ?_
        refine V.getr (pc := 18) C fl_RX11_9 sX0 (kX0 hN) rfl rX0_0 dX11_tapeFour_18 ?_
        refine V.aload_n (pc := 21) C dX11_tapeFour_21 0 rfl ?_
        refine V.geti (pc := 22) C fl_RX11_90 sX0 (kX0 hN) rfl dX11_tapeFour_22 ?_
        refine V.iload_n (pc := 25) C dX11_tapeFour_25 1 rfl ?_
        refine V.iload_n (pc := 26) C dX11_tapeFour_26 2 rfl ?_
        refine V.ishr (pc := 27) C dX11_tapeFour_27 ?_
        refine V.i2b (pc := 28) C dX11_tapeFour_28 ?_
        refine V.bast (pc := 29) C sX1 (kX1 hN) dX11_tapeFour_29 (fun _ => ?_)
        refine V.ltm (fun m_1 => ?_)
        refine V.aload_n (pc := 30) C dX11_tapeFour_30 0 rfl ?_
        refine V.dup (pc := 31) C dX11_tapeFour_31 rfl ?_
        refine V.geti (pc := 32) C fl_RX11_90 sX0 (kX0 hN) rfl dX11_tapeFour_32 ?_
        refine V.iconst (pc := 35) C dX11_tapeFour_35 (v := 1) (by decide) ?_
        refine V.iadd (pc := 36) C dX11_tapeFour_36 ?_
        refine V.puti (pc := 37) C fp_RX11_90 sX0 (kX0 hN) rfl dX11_tapeFour_37 ?_
        refine V.ltm (fun m_2 => ?_)
        refine V.iinc (pc := 40) C dX11_tapeFour_40 (v := (-8)) (L2 := [(2, .int (y2 + (-8))), (0, .ref 0), (1, .int y1)]) 2 rfl (by decide) (by decide) rfl ?_
        refine V.goto (pc := 43) C dX11_tapeFour_43 3 (by decide) ?_
        refine V.wk [1, 2, 0] rfl ?_
        exact ih y1 (y2 + (-8)) m_2
set_option maxRecDepth 100000 in
set_option maxHeartbeats 4000000 in
theorem v_X11_tapeFour {l : Launch} {p : Program} {e : Env} {s : State} {mt : MethodId} {args : Array Value} {below : List Frame} {meth : Method} {c : Code} {A : Nat → Prop} {ad0 : Nat → Nat} {G : Gt} {N : Nat} (C : Cx G p s mt args meth c RX11 cX11_tapeFour 3 none "tapeFour" A) (hN : 109 ≤ N) (x1 : Int32) (m : Mem) : V G SX oV l p e s mt args below meth c 3 1 A ad0 N N RX N RX 0 [(0, .ref 0), (1, .int x1)] [] m (X11_tapeFour  x1 m) := by
  rw [X11_tapeFour]
  refine V.bipush (pc := 0) C dX11_tapeFour_0 (v := 24) (by decide) ?_
  refine V.istore_n (pc := 2) C dX11_tapeFour_2 (L2 := [(2, .int 24), (0, .ref 0), (1, .int x1)]) (by decide) rfl ?_
  refine V.wk [1, 2, 0] rfl ?_
  exact v_X11_tapeFour_b3 C hN FU x1 24 m
theorem c_X11_tapeFour (l : Launch) {N : Nat} (hN : 109 ≤ N) (x1 : Int32) (m : Mem) : Ct l yX11_tapeFour cX11_tapeFour 3 none 1 SX oV N N RX RX [.ref 0, .int x1] m (X11_tapeFour  x1 m) :=
  Ct.of (own := RX11) (nm := "tapeFour") (by decide) rfl rfl (Nat.le_of_ble_eq_true rfl) (fun _ _ _ _ _ _ _ _ _ _ _ C => v_X11_tapeFour C hN x1 m)
theorem dX11_feed_0 : decode cX11_feed 0 = .ok (.aload_n 0, 1) := by decide +kernel
theorem dX11_feed_1 : decode cX11_feed 1 = .ok (.getfield 90, 3) := by decide +kernel
theorem dX11_feed_4 : decode cX11_feed 4 = .ok (.sipush 880, 3) := by decide +kernel
theorem dX11_feed_7 : decode cX11_feed 7 = .ok (.if_icmp .le 6, 3) := by decide +kernel
theorem dX11_feed_10 : decode cX11_feed 10 = .ok (.bipush (-5), 2) := by decide +kernel
theorem dX11_feed_12 : decode cX11_feed 12 = .ok (.ireturn, 1) := by decide +kernel
theorem dX11_feed_13 : decode cX11_feed 13 = .ok (.aload_n 0, 1) := by decide +kernel
theorem dX11_feed_14 : decode cX11_feed 14 = .ok (.iload_n 1, 1) := by decide +kernel
theorem dX11_feed_15 : decode cX11_feed 15 = .ok (.invokevirtual 94, 3) := by decide +kernel
theorem dX11_feed_18 : decode cX11_feed 18 = .ok (.aload_n 0, 1) := by decide +kernel
theorem dX11_feed_19 : decode cX11_feed 19 = .ok (.iload_n 2, 1) := by decide +kernel
theorem dX11_feed_20 : decode cX11_feed 20 = .ok (.invokevirtual 94, 3) := by decide +kernel
theorem dX11_feed_23 : decode cX11_feed 23 = .ok (.aload_n 0, 1) := by decide +kernel
theorem dX11_feed_24 : decode cX11_feed 24 = .ok (.iload_n 3, 1) := by decide +kernel
theorem dX11_feed_25 : decode cX11_feed 25 = .ok (.invokevirtual 94, 3) := by decide +kernel
theorem dX11_feed_28 : decode cX11_feed 28 = .ok (.aload_n 0, 1) := by decide +kernel
theorem dX11_feed_29 : decode cX11_feed 29 = .ok (.iload 4, 2) := by decide +kernel
theorem dX11_feed_31 : decode cX11_feed 31 = .ok (.invokevirtual 94, 3) := by decide +kernel
theorem dX11_feed_34 : decode cX11_feed 34 = .ok (.aload_n 0, 1) := by decide +kernel
theorem dX11_feed_35 : decode cX11_feed 35 = .ok (.iload 5, 2) := by decide +kernel
theorem dX11_feed_37 : decode cX11_feed 37 = .ok (.invokevirtual 94, 3) := by decide +kernel
theorem dX11_feed_40 : decode cX11_feed 40 = .ok (.aload_n 0, 1) := by decide +kernel
theorem dX11_feed_41 : decode cX11_feed 41 = .ok (.getfield 90, 3) := by decide +kernel
theorem dX11_feed_44 : decode cX11_feed 44 = .ok (.ireturn, 1) := by decide +kernel
set_option maxRecDepth 100000 in
set_option maxHeartbeats 4000000 in
theorem v_X11_feed {l : Launch} {p : Program} {e : Env} {s : State} {mt : MethodId} {args : Array Value} {below : List Frame} {meth : Method} {c : Code} {A : Nat → Prop} {ad0 : Nat → Nat} {G : Gt} {N : Nat} (C : Cx G p s mt args meth c RX11 cX11_feed 6 (some .int) "feed" A) (hN : 109 ≤ N) (x1 : Int32) (x2 : Int32) (x3 : Int32) (x4 : Int32) (x5 : Int32) (m : Mem) : V G SX oI l p e s mt args below meth c 6 2 A ad0 N N RX N RX 0 [(0, .ref 0), (1, .int x1), (2, .int x2), (3, .int x3), (4, .int x4), (5, .int x5)] [] m (X11_feed  x1 x2 x3 x4 x5 m) := by
  rw [X11_feed]
  refine V.aload_n (pc := 0) C dX11_feed_0 0 rfl ?_
  refine V.geti (pc := 1) C fl_RX11_90 sX0 (kX0 hN) rfl dX11_feed_1 ?_
  refine V.sipush (pc := 4) C dX11_feed_4 (v := 880) (by decide) ?_
  refine V.icmp_le (pc := 7) C dX11_feed_7 13 (by decide) (fun _ => ?_) (fun _ => ?_)
  · refine V.aload_n (pc := 13) C dX11_feed_13 0 rfl ?_
    refine V.iload_n (pc := 14) C dX11_feed_14 1 rfl ?_
    refine V.callV (pc := 15) (st := []) C (c_X11_tapeFour l hN x1 m) obV ck_X11_tapeFour ml_RX11_94 rfl rfl sX0 (kX0 hN) rfl rfl (Nat.le_of_ble_eq_true rfl) ⟨by decide, by decide⟩ dX11_feed_15 (fun r_1 m_2 _ => ?_)
    refine V.aload_n (pc := 18) C dX11_feed_18 0 rfl ?_
    refine V.iload_n (pc := 19) C dX11_feed_19 2 rfl ?_
    refine V.callV (pc := 20) (st := []) C (c_X11_tapeFour l hN x2 m_2) obV ck_X11_tapeFour ml_RX11_94 rfl rfl sX0 (kX0 hN) rfl rfl (Nat.le_of_ble_eq_true rfl) ⟨by decide, by decide⟩ dX11_feed_20 (fun r_3 m_4 _ => ?_)
    refine V.aload_n (pc := 23) C dX11_feed_23 0 rfl ?_
    refine V.iload_n (pc := 24) C dX11_feed_24 3 rfl ?_
    refine V.callV (pc := 25) (st := []) C (c_X11_tapeFour l hN x3 m_4) obV ck_X11_tapeFour ml_RX11_94 rfl rfl sX0 (kX0 hN) rfl rfl (Nat.le_of_ble_eq_true rfl) ⟨by decide, by decide⟩ dX11_feed_25 (fun r_5 m_6 _ => ?_)
    refine V.aload_n (pc := 28) C dX11_feed_28 0 rfl ?_
    refine V.iload (pc := 29) C dX11_feed_29 4 rfl ?_
    refine V.callV (pc := 31) (st := []) C (c_X11_tapeFour l hN x4 m_6) obV ck_X11_tapeFour ml_RX11_94 rfl rfl sX0 (kX0 hN) rfl rfl (Nat.le_of_ble_eq_true rfl) ⟨by decide, by decide⟩ dX11_feed_31 (fun r_7 m_8 _ => ?_)
    refine V.aload_n (pc := 34) C dX11_feed_34 0 rfl ?_
    refine V.iload (pc := 35) C dX11_feed_35 5 rfl ?_
    refine V.callV (pc := 37) (st := []) C (c_X11_tapeFour l hN x5 m_8) obV ck_X11_tapeFour ml_RX11_94 rfl rfl sX0 (kX0 hN) rfl rfl (Nat.le_of_ble_eq_true rfl) ⟨by decide, by decide⟩ dX11_feed_37 (fun r_9 m_10 _ => ?_)
    refine V.aload_n (pc := 40) C dX11_feed_40 0 rfl ?_
    refine V.geti (pc := 41) C fl_RX11_90 sX0 (kX0 hN) rfl dX11_feed_41 ?_
    exact V.iret C dX11_feed_44
  · refine V.bipush (pc := 10) C dX11_feed_10 (v := (-5)) (by decide) ?_
    exact V.iret C dX11_feed_12
theorem c_X11_feed (l : Launch) {N : Nat} (hN : 109 ≤ N) (x1 : Int32) (x2 : Int32) (x3 : Int32) (x4 : Int32) (x5 : Int32) (m : Mem) : Ct l yX11_feed cX11_feed 6 (some .int) 2 SX oI N N RX RX [.ref 0, .int x1, .int x2, .int x3, .int x4, .int x5] m (X11_feed  x1 x2 x3 x4 x5 m) :=
  Ct.of (own := RX11) (nm := "feed") (by decide) rfl rfl (Nat.le_of_ble_eq_true rfl) (fun _ _ _ _ _ _ _ _ _ _ _ C => v_X11_feed C hN x1 x2 x3 x4 x5 m)
theorem dX1_effect_0 : decode cX1_effect 0 = .ok (.aload_n 0, 1) := by decide +kernel
theorem dX1_effect_1 : decode cX1_effect 1 = .ok (.getfield 18, 3) := by decide +kernel
theorem dX1_effect_4 : decode cX1_effect 4 = .ok (.aload_n 0, 1) := by decide +kernel
theorem dX1_effect_5 : decode cX1_effect 5 = .ok (.getfield 22, 3) := by decide +kernel
theorem dX1_effect_8 : decode cX1_effect 8 = .ok (.aload_n 0, 1) := by decide +kernel
theorem dX1_effect_9 : decode cX1_effect 9 = .ok (.getfield 26, 3) := by decide +kernel
theorem dX1_effect_12 : decode cX1_effect 12 = .ok (.aload_n 0, 1) := by decide +kernel
theorem dX1_effect_13 : decode cX1_effect 13 = .ok (.getfield 18, 3) := by decide +kernel
theorem dX1_effect_16 : decode cX1_effect 16 = .ok (.getfield 40, 3) := by decide +kernel
theorem dX1_effect_19 : decode cX1_effect 19 = .ok (.getfield 44, 3) := by decide +kernel
theorem dX1_effect_22 : decode cX1_effect 22 = .ok (.aload_n 0, 1) := by decide +kernel
theorem dX1_effect_23 : decode cX1_effect 23 = .ok (.getfield 22, 3) := by decide +kernel
theorem dX1_effect_26 : decode cX1_effect 26 = .ok (.iaload, 1) := by decide +kernel
theorem dX1_effect_27 : decode cX1_effect 27 = .ok (.iconst 1, 1) := by decide +kernel
theorem dX1_effect_28 : decode cX1_effect 28 = .ok (.iload_n 1, 1) := by decide +kernel
theorem dX1_effect_29 : decode cX1_effect 29 = .ok (.ishl, 1) := by decide +kernel
theorem dX1_effect_30 : decode cX1_effect 30 = .ok (.ior, 1) := by decide +kernel
theorem dX1_effect_31 : decode cX1_effect 31 = .ok (.aload_n 0, 1) := by decide +kernel
theorem dX1_effect_32 : decode cX1_effect 32 = .ok (.getfield 18, 3) := by decide +kernel
theorem dX1_effect_35 : decode cX1_effect 35 = .ok (.getfield 40, 3) := by decide +kernel
theorem dX1_effect_38 : decode cX1_effect 38 = .ok (.getfield 44, 3) := by decide +kernel
theorem dX1_effect_41 : decode cX1_effect 41 = .ok (.aload_n 0, 1) := by decide +kernel
theorem dX1_effect_42 : decode cX1_effect 42 = .ok (.getfield 26, 3) := by decide +kernel
theorem dX1_effect_45 : decode cX1_effect 45 = .ok (.iaload, 1) := by decide +kernel
theorem dX1_effect_46 : decode cX1_effect 46 = .ok (.invokevirtual 68, 3) := by decide +kernel
theorem dX1_effect_49 : decode cX1_effect 49 = .ok (.aload_n 0, 1) := by decide +kernel
theorem dX1_effect_50 : decode cX1_effect 50 = .ok (.getfield 18, 3) := by decide +kernel
theorem dX1_effect_53 : decode cX1_effect 53 = .ok (.getfield 72, 3) := by decide +kernel
theorem dX1_effect_56 : decode cX1_effect 56 = .ok (.getfield 76, 3) := by decide +kernel
theorem dX1_effect_59 : decode cX1_effect 59 = .ok (.astore_n 2, 1) := by decide +kernel
theorem dX1_effect_60 : decode cX1_effect 60 = .ok (.bipush 64, 2) := by decide +kernel
theorem dX1_effect_62 : decode cX1_effect 62 = .ok (.aload_n 2, 1) := by decide +kernel
theorem dX1_effect_63 : decode cX1_effect 63 = .ok (.iconst 1, 1) := by decide +kernel
theorem dX1_effect_64 : decode cX1_effect 64 = .ok (.iaload, 1) := by decide +kernel
theorem dX1_effect_65 : decode cX1_effect 65 = .ok (.imul, 1) := by decide +kernel
theorem dX1_effect_66 : decode cX1_effect 66 = .ok (.aload_n 2, 1) := by decide +kernel
theorem dX1_effect_67 : decode cX1_effect 67 = .ok (.iconst 2, 1) := by decide +kernel
theorem dX1_effect_68 : decode cX1_effect 68 = .ok (.iaload, 1) := by decide +kernel
theorem dX1_effect_69 : decode cX1_effect 69 = .ok (.iadd, 1) := by decide +kernel
theorem dX1_effect_70 : decode cX1_effect 70 = .ok (.ireturn, 1) := by decide +kernel
set_option maxRecDepth 100000 in
set_option maxHeartbeats 4000000 in
theorem v_X1_effect {l : Launch} {p : Program} {e : Env} {s : State} {mt : MethodId} {args : Array Value} {below : List Frame} {meth : Method} {c : Code} {A : Nat → Prop} {ad0 : Nat → Nat} {G : Gt} {N : Nat} (C : Cx G p s mt args meth c RX1 cX1_effect 3 (some .int) "effect" A) (hN : 109 ≤ N) (x1 : Int32) (m : Mem) : V G SX oI l p e s mt args below meth c 3 3 A ad0 N N RX N RX 0 [(0, .ref 96), (1, .int x1)] [] m (X1_effect  x1 m) := by
  rw [X1_effect]
  refine V.aload_n (pc := 0) C dX1_effect_0 0 rfl ?_
  refine V.getr (pc := 1) C fl_RX1_18 sX96 (kX96 hN) rfl rX96_0 dX1_effect_1 ?_
  refine V.aload_n (pc := 4) C dX1_effect_4 0 rfl ?_
  refine V.geti (pc := 5) C fl_RX1_22 sX96 (kX96 hN) rfl dX1_effect_5 ?_
  refine V.aload_n (pc := 8) C dX1_effect_8 0 rfl ?_
  refine V.geti (pc := 9) C fl_RX1_26 sX96 (kX96 hN) rfl dX1_effect_9 ?_
  refine V.aload_n (pc := 12) C dX1_effect_12 0 rfl ?_
  refine V.getr (pc := 13) C fl_RX1_18 sX96 (kX96 hN) rfl rX96_0 dX1_effect_13 ?_
  refine V.getr (pc := 16) C fl_RX1_40 sX25 (kX25 hN) rfl rX25_2 dX1_effect_16 ?_
  refine V.getr (pc := 19) C fl_RX1_44 sX26 (kX26 hN) rfl rX26_3 dX1_effect_19 ?_
  refine V.aload_n (pc := 22) C dX1_effect_22 0 rfl ?_
  refine V.geti (pc := 23) C fl_RX1_22 sX96 (kX96 hN) rfl dX1_effect_23 ?_
  refine V.iald (pc := 26) C sX29 (kX29 hN) dX1_effect_26 (fun _ => ?_)
  refine V.iconst (pc := 27) C dX1_effect_27 (v := 1) (by decide) ?_
  refine V.iload_n (pc := 28) C dX1_effect_28 1 rfl ?_
  refine V.ishl (pc := 29) C dX1_effect_29 ?_
  refine V.ior (pc := 30) C dX1_effect_30 ?_
  refine V.aload_n (pc := 31) C dX1_effect_31 0 rfl ?_
  refine V.getr (pc := 32) C fl_RX1_18 sX96 (kX96 hN) rfl rX96_0 dX1_effect_32 ?_
  refine V.getr (pc := 35) C fl_RX1_40 sX25 (kX25 hN) rfl rX25_2 dX1_effect_35 ?_
  refine V.getr (pc := 38) C fl_RX1_44 sX26 (kX26 hN) rfl rX26_3 dX1_effect_38 ?_
  refine V.aload_n (pc := 41) C dX1_effect_41 0 rfl ?_
  refine V.geti (pc := 42) C fl_RX1_26 sX96 (kX96 hN) rfl dX1_effect_42 ?_
  refine V.iald (pc := 45) C sX29 (kX29 hN) dX1_effect_45 (fun _ => ?_)
  refine V.callV (pc := 46) (st := []) C (c_X10_measure l hN 25 (iX25 hN) (gi m 96 1) (gi m 96 2) ((gi m 29 (ix (gi m 96 1))) ||| ((1 : Int32) <<< (x1 &&& 31))) (gi m 29 (ix (gi m 96 2))) m) obV ck_X10_measure ml_RX1_68 rfl rfl sX25 (kX25 hN) rfl rfl (Nat.le_of_ble_eq_true rfl) ⟨by decide, by decide⟩ dX1_effect_46 (fun r_1 m_2 _ => ?_)
  refine V.aload_n (pc := 49) C dX1_effect_49 0 rfl ?_
  refine V.getr (pc := 50) C fl_RX1_18 sX96 (kX96 hN) rfl rX96_0 dX1_effect_50 ?_
  refine V.getr (pc := 53) C fl_RX1_72 sX25 (kX25 hN) rfl rX25_1 dX1_effect_53 ?_
  refine V.getr (pc := 56) C fl_RX1_76 sX22 (kX22 hN) rfl rX22_0 dX1_effect_56 ?_
  refine V.astore_n (pc := 59) C dX1_effect_59 (L2 := [(2, .ref 23), (0, .ref 96), (1, .int x1)]) (by decide) rfl ?_
  refine V.bipush (pc := 60) C dX1_effect_60 (v := 64) (by decide) ?_
  refine V.aload_n (pc := 62) C dX1_effect_62 0 rfl ?_
  refine V.iconst (pc := 63) C dX1_effect_63 (v := 1) (by decide) ?_
  refine V.iald (pc := 64) C sX23 (kX23 hN) dX1_effect_64 (fun _ => ?_)
  refine V.imul (pc := 65) C dX1_effect_65 ?_
  refine V.aload_n (pc := 66) C dX1_effect_66 0 rfl ?_
  refine V.iconst (pc := 67) C dX1_effect_67 (v := 2) (by decide) ?_
  refine V.iald (pc := 68) C sX23 (kX23 hN) dX1_effect_68 (fun _ => ?_)
  refine V.iadd (pc := 69) C dX1_effect_69 ?_
  exact V.iret C dX1_effect_70
theorem c_X1_effect (l : Launch) {N : Nat} (hN : 109 ≤ N) (x1 : Int32) (m : Mem) : Ct l yX1_effect cX1_effect 3 (some .int) 3 SX oI N N RX RX [.ref 96, .int x1] m (X1_effect  x1 m) :=
  Ct.of (own := RX1) (nm := "effect") (by decide) rfl rfl (Nat.le_of_ble_eq_true rfl) (fun _ _ _ _ _ _ _ _ _ _ _ C => v_X1_effect C hN x1 m)
