theorem dX11_leftFor_0 : decode cX11_leftFor 0 = .ok (.aload_n 0, 1) := by decide +kernel
theorem dX11_leftFor_1 : decode cX11_leftFor 1 = .ok (.getfield 38, 3) := by decide +kernel
theorem dX11_leftFor_4 : decode cX11_leftFor 4 = .ok (.iload_n 1, 1) := by decide +kernel
theorem dX11_leftFor_5 : decode cX11_leftFor 5 = .ok (.iload_n 2, 1) := by decide +kernel
theorem dX11_leftFor_6 : decode cX11_leftFor 6 = .ok (.invokevirtual 163, 3) := by decide +kernel
theorem dX11_leftFor_9 : decode cX11_leftFor 9 = .ok (.ifCond .eq 10, 3) := by decide +kernel
theorem dX11_leftFor_12 : decode cX11_leftFor 12 = .ok (.iload_n 3, 1) := by decide +kernel
theorem dX11_leftFor_13 : decode cX11_leftFor 13 = .ok (.invokestatic 315, 3) := by decide +kernel
theorem dX11_leftFor_16 : decode cX11_leftFor 16 = .ok (.ifCond .ne 6, 3) := by decide +kernel
theorem dX11_leftFor_19 : decode cX11_leftFor 19 = .ok (.bipush (-2), 2) := by decide +kernel
theorem dX11_leftFor_21 : decode cX11_leftFor 21 = .ok (.ireturn, 1) := by decide +kernel
theorem dX11_leftFor_22 : decode cX11_leftFor 22 = .ok (.aload_n 0, 1) := by decide +kernel
theorem dX11_leftFor_23 : decode cX11_leftFor 23 = .ok (.getfield 64, 3) := by decide +kernel
theorem dX11_leftFor_26 : decode cX11_leftFor 26 = .ok (.aload_n 0, 1) := by decide +kernel
theorem dX11_leftFor_27 : decode cX11_leftFor 27 = .ok (.getfield 38, 3) := by decide +kernel
theorem dX11_leftFor_30 : decode cX11_leftFor 30 = .ok (.invokevirtual 262, 3) := by decide +kernel
theorem dX11_leftFor_33 : decode cX11_leftFor 33 = .ok (.aload_n 0, 1) := by decide +kernel
theorem dX11_leftFor_34 : decode cX11_leftFor 34 = .ok (.getfield 64, 3) := by decide +kernel
theorem dX11_leftFor_37 : decode cX11_leftFor 37 = .ok (.invokevirtual 274, 3) := by decide +kernel
theorem dX11_leftFor_40 : decode cX11_leftFor 40 = .ok (.iconst 1, 1) := by decide +kernel
theorem dX11_leftFor_41 : decode cX11_leftFor 41 = .ok (.iload_n 1, 1) := by decide +kernel
theorem dX11_leftFor_42 : decode cX11_leftFor 42 = .ok (.ishl, 1) := by decide +kernel
theorem dX11_leftFor_43 : decode cX11_leftFor 43 = .ok (.iconst 1, 1) := by decide +kernel
theorem dX11_leftFor_44 : decode cX11_leftFor 44 = .ok (.iload_n 2, 1) := by decide +kernel
theorem dX11_leftFor_45 : decode cX11_leftFor 45 = .ok (.ishl, 1) := by decide +kernel
theorem dX11_leftFor_46 : decode cX11_leftFor 46 = .ok (.ior, 1) := by decide +kernel
theorem dX11_leftFor_47 : decode cX11_leftFor 47 = .ok (.istore 4, 2) := by decide +kernel
theorem dX11_leftFor_49 : decode cX11_leftFor 49 = .ok (.aload_n 0, 1) := by decide +kernel
theorem dX11_leftFor_50 : decode cX11_leftFor 50 = .ok (.getfield 16, 3) := by decide +kernel
theorem dX11_leftFor_53 : decode cX11_leftFor 53 = .ok (.invokevirtual 265, 3) := by decide +kernel
theorem dX11_leftFor_56 : decode cX11_leftFor 56 = .ok (.istore 5, 2) := by decide +kernel
theorem dX11_leftFor_58 : decode cX11_leftFor 58 = .ok (.iconst (-1), 1) := by decide +kernel
theorem dX11_leftFor_59 : decode cX11_leftFor 59 = .ok (.istore 6, 2) := by decide +kernel
theorem dX11_leftFor_61 : decode cX11_leftFor 61 = .ok (.iconst 0, 1) := by decide +kernel
theorem dX11_leftFor_62 : decode cX11_leftFor 62 = .ok (.istore 7, 2) := by decide +kernel
theorem dX11_leftFor_64 : decode cX11_leftFor 64 = .ok (.iconst 0, 1) := by decide +kernel
theorem dX11_leftFor_65 : decode cX11_leftFor 65 = .ok (.istore 8, 2) := by decide +kernel
theorem dX11_leftFor_67 : decode cX11_leftFor 67 = .ok (.iload 8, 2) := by decide +kernel
theorem dX11_leftFor_69 : decode cX11_leftFor 69 = .ok (.iload 5, 2) := by decide +kernel
theorem dX11_leftFor_71 : decode cX11_leftFor 71 = .ok (.if_icmp .gt 75, 3) := by decide +kernel
theorem dX11_leftFor_74 : decode cX11_leftFor 74 = .ok (.iload 6, 2) := by decide +kernel
theorem dX11_leftFor_76 : decode cX11_leftFor 76 = .ok (.iconst (-1), 1) := by decide +kernel
theorem dX11_leftFor_77 : decode cX11_leftFor 77 = .ok (.if_icmp .eq 13, 3) := by decide +kernel
theorem dX11_leftFor_80 : decode cX11_leftFor 80 = .ok (.iload 8, 2) := by decide +kernel
theorem dX11_leftFor_82 : decode cX11_leftFor 82 = .ok (.invokestatic 204, 3) := by decide +kernel
theorem dX11_leftFor_85 : decode cX11_leftFor 85 = .ok (.iload 6, 2) := by decide +kernel
theorem dX11_leftFor_87 : decode cX11_leftFor 87 = .ok (.if_icmp .ge 7, 3) := by decide +kernel
theorem dX11_leftFor_90 : decode cX11_leftFor 90 = .ok (.iconst 1, 1) := by decide +kernel
theorem dX11_leftFor_91 : decode cX11_leftFor 91 = .ok (.goto 4, 3) := by decide +kernel
theorem dX11_leftFor_94 : decode cX11_leftFor 94 = .ok (.iconst 0, 1) := by decide +kernel
theorem dX11_leftFor_95 : decode cX11_leftFor 95 = .ok (.istore 9, 2) := by decide +kernel
theorem dX11_leftFor_97 : decode cX11_leftFor 97 = .ok (.iload 9, 2) := by decide +kernel
theorem dX11_leftFor_99 : decode cX11_leftFor 99 = .ok (.ifCond .eq 41, 3) := by decide +kernel
theorem dX11_leftFor_102 : decode cX11_leftFor 102 = .ok (.iload 8, 2) := by decide +kernel
theorem dX11_leftFor_104 : decode cX11_leftFor 104 = .ok (.iload 4, 2) := by decide +kernel
theorem dX11_leftFor_106 : decode cX11_leftFor 106 = .ok (.iand, 1) := by decide +kernel
theorem dX11_leftFor_107 : decode cX11_leftFor 107 = .ok (.ifCond .ne 33, 3) := by decide +kernel
theorem dX11_leftFor_110 : decode cX11_leftFor 110 = .ok (.aload_n 0, 1) := by decide +kernel
theorem dX11_leftFor_111 : decode cX11_leftFor 111 = .ok (.getfield 64, 3) := by decide +kernel
theorem dX11_leftFor_114 : decode cX11_leftFor 114 = .ok (.iload 5, 2) := by decide +kernel
theorem dX11_leftFor_116 : decode cX11_leftFor 116 = .ok (.iload 8, 2) := by decide +kernel
theorem dX11_leftFor_118 : decode cX11_leftFor 118 = .ok (.iconst (-1), 1) := by decide +kernel
theorem dX11_leftFor_119 : decode cX11_leftFor 119 = .ok (.ixor, 1) := by decide +kernel
theorem dX11_leftFor_120 : decode cX11_leftFor 120 = .ok (.iand, 1) := by decide +kernel
theorem dX11_leftFor_121 : decode cX11_leftFor 121 = .ok (.iload_n 1, 1) := by decide +kernel
theorem dX11_leftFor_122 : decode cX11_leftFor 122 = .ok (.iload_n 2, 1) := by decide +kernel
theorem dX11_leftFor_123 : decode cX11_leftFor 123 = .ok (.invokevirtual 318, 3) := by decide +kernel
theorem dX11_leftFor_126 : decode cX11_leftFor 126 = .ok (.ifCond .eq 14, 3) := by decide +kernel
theorem dX11_leftFor_129 : decode cX11_leftFor 129 = .ok (.iload 8, 2) := by decide +kernel
theorem dX11_leftFor_131 : decode cX11_leftFor 131 = .ok (.invokestatic 204, 3) := by decide +kernel
theorem dX11_leftFor_134 : decode cX11_leftFor 134 = .ok (.istore 6, 2) := by decide +kernel
theorem dX11_leftFor_136 : decode cX11_leftFor 136 = .ok (.iload 8, 2) := by decide +kernel
theorem dX11_leftFor_138 : decode cX11_leftFor 138 = .ok (.istore 7, 2) := by decide +kernel
theorem dX11_leftFor_140 : decode cX11_leftFor 140 = .ok (.iinc 8 1, 3) := by decide +kernel
theorem dX11_leftFor_143 : decode cX11_leftFor 143 = .ok (.goto (-76), 3) := by decide +kernel
theorem dX11_leftFor_146 : decode cX11_leftFor 146 = .ok (.iload 6, 2) := by decide +kernel
theorem dX11_leftFor_148 : decode cX11_leftFor 148 = .ok (.iconst (-1), 1) := by decide +kernel
theorem dX11_leftFor_149 : decode cX11_leftFor 149 = .ok (.if_icmp .eq 7, 3) := by decide +kernel
theorem dX11_leftFor_152 : decode cX11_leftFor 152 = .ok (.iload_n 3, 1) := by decide +kernel
theorem dX11_leftFor_153 : decode cX11_leftFor 153 = .ok (.ifCond .ne 8, 3) := by decide +kernel
theorem dX11_leftFor_156 : decode cX11_leftFor 156 = .ok (.iload 6, 2) := by decide +kernel
theorem dX11_leftFor_158 : decode cX11_leftFor 158 = .ok (.goto 5, 3) := by decide +kernel
theorem dX11_leftFor_161 : decode cX11_leftFor 161 = .ok (.iload 7, 2) := by decide +kernel
theorem dX11_leftFor_163 : decode cX11_leftFor 163 = .ok (.ireturn, 1) := by decide +kernel
set_option maxRecDepth 100000 in
set_option maxHeartbeats 4000000 in
theorem v_X11_leftFor_b95 {l : Launch} {p : Program} {e : Env} {s : State} {mt : MethodId} {args : Array Value} {below : List Frame} {meth : Method} {c : Code} {A : Nat → Prop} {ad0 : Nat → Nat} {G : Gt} {N : Nat} (C : Cx G p s mt args meth c RX11 cX11_leftFor 10 (some .int) "leftFor" A) (hN : 109 ≤ N) (k67 : Int32 → Int32 → Int32 → Int32 → Int32 → Int32 → Int32 → Int32 → Mem → Option (Int32 × Mem)) (h67 : ∀ (y1 : Int32) (y2 : Int32) (y3 : Int32) (y4 : Int32) (y5 : Int32) (y6 : Int32) (y7 : Int32) (y8 : Int32) (m : Mem), V G SX oI l p e s mt args below meth c 10 6 A ad0 N N RX N RX 67 [(0, .ref 0), (1, .int y1), (2, .int y2), (3, .int y3), (4, .int y4), (5, .int y5), (6, .int y6), (7, .int y7), (8, .int y8)] [] m (k67 y1 y2 y3 y4 y5 y6 y7 y8 m)) (y1 : Int32) (y2 : Int32) (y3 : Int32) (y4 : Int32) (y5 : Int32) (y6 : Int32) (y7 : Int32) (y8 : Int32) (z0 : Int32) (m : Mem) : V G SX oI l p e s mt args below meth c 10 6 A ad0 N N RX N RX 95 [(0, .ref 0), (1, .int y1), (2, .int y2), (3, .int y3), (4, .int y4), (5, .int y5), (6, .int y6), (7, .int y7), (8, .int y8)] [.int z0] m (X11_leftFor_b95 k67 y1 y2 y3 y4 y5 y6 y7 y8 z0 m) := by
  rw [X11_leftFor_b95]
  refine V.istore (pc := 95) C dX11_leftFor_95 (L2 := [(9, .int z0), (0, .ref 0), (1, .int y1), (2, .int y2), (3, .int y3), (4, .int y4), (5, .int y5), (6, .int y6), (7, .int y7), (8, .int y8)]) (by decide) rfl ?_
  refine V.iload (pc := 97) C dX11_leftFor_97 0 rfl ?_
  refine V.if_eq (pc := 99) C dX11_leftFor_99 140 (by decide) (fun _ => ?_) (fun _ => ?_)
  · refine V.iinc (pc := 140) C dX11_leftFor_140 (v := 1) (L2 := [(8, .int (y8 + 1)), (9, .int z0), (0, .ref 0), (1, .int y1), (2, .int y2), (3, .int y3), (4, .int y4), (5, .int y5), (6, .int y6), (7, .int y7)]) 9 rfl (by decide) (by decide) rfl ?_
    refine V.goto (pc := 143) C dX11_leftFor_143 67 (by decide) ?_
    refine V.wk [2, 3, 4, 5, 6, 7, 8, 9, 0] rfl ?_
    exact h67 y1 y2 y3 y4 y5 y6 y7 (y8 + 1) m
  · refine V.iload (pc := 102) C dX11_leftFor_102 9 rfl ?_
    refine V.iload (pc := 104) C dX11_leftFor_104 5 rfl ?_
    refine V.iand (pc := 106) C dX11_leftFor_106 ?_
    refine V.if_ne (pc := 107) C dX11_leftFor_107 140 (by decide) (fun _ => ?_) (fun _ => ?_)
    · refine V.iinc (pc := 140) C dX11_leftFor_140 (v := 1) (L2 := [(8, .int (y8 + 1)), (9, .int z0), (0, .ref 0), (1, .int y1), (2, .int y2), (3, .int y3), (4, .int y4), (5, .int y5), (6, .int y6), (7, .int y7)]) 9 rfl (by decide) (by decide) rfl ?_
      refine V.goto (pc := 143) C dX11_leftFor_143 67 (by decide) ?_
      refine V.wk [2, 3, 4, 5, 6, 7, 8, 9, 0] rfl ?_
      exact h67 y1 y2 y3 y4 y5 y6 y7 (y8 + 1) m
    · refine V.aload_n (pc := 110) C dX11_leftFor_110 1 rfl ?_
      refine V.getr (pc := 111) C fl_RX11_64 sX0 (kX0 hN) rfl rX0_10 dX11_leftFor_111 ?_
      refine V.iload (pc := 114) C dX11_leftFor_114 6 rfl ?_
      refine V.iload (pc := 116) C dX11_leftFor_116 9 rfl ?_
      refine V.iconst (pc := 118) C dX11_leftFor_118 (v := (-1)) (by decide) ?_
      refine V.ixor (pc := 119) C dX11_leftFor_119 ?_
      refine V.iand (pc := 120) C dX11_leftFor_120 ?_
      refine V.iload_n (pc := 121) C dX11_leftFor_121 2 rfl ?_
      refine V.iload_n (pc := 122) C dX11_leftFor_122 3 rfl ?_
      refine V.callV (pc := 123) (st := []) C (c_X6_joins l hN (y5 &&& (y8 ^^^ (-1))) y1 y2 m) obI ck_X6_joins ml_RX11_318 rfl rfl sX90 (kX90 hN) rfl rfl (Nat.le_of_ble_eq_true rfl) ⟨by decide, by decide⟩ dX11_leftFor_123 (fun r_12 m_13 _ => ?_)
      refine V.if_eq (pc := 126) C dX11_leftFor_126 140 (by decide) (fun _ => ?_) (fun _ => ?_)
      · refine V.iinc (pc := 140) C dX11_leftFor_140 (v := 1) (L2 := [(8, .int (y8 + 1)), (9, .int z0), (0, .ref 0), (1, .int y1), (2, .int y2), (3, .int y3), (4, .int y4), (5, .int y5), (6, .int y6), (7, .int y7)]) 9 rfl (by decide) (by decide) rfl ?_
        refine V.goto (pc := 143) C dX11_leftFor_143 67 (by decide) ?_
        refine V.wk [2, 3, 4, 5, 6, 7, 8, 9, 0] rfl ?_
        exact h67 y1 y2 y3 y4 y5 y6 y7 (y8 + 1) m_13
      · refine V.iload (pc := 129) C dX11_leftFor_129 9 rfl ?_
        refine V.callS (pc := 131) (st := []) C (c_J6_bitCount_0f7a4 l y8 m_13) obI ck_J6_bitCount_0f7a4 ml_RX11_204 rfl rfl (Nat.le_of_ble_eq_true rfl) ⟨by decide, by decide⟩ dX11_leftFor_131 (fun r_14 m_15 _ => ?_)
        refine V.istore (pc := 134) C dX11_leftFor_134 (L2 := [(6, .int r_14), (9, .int z0), (0, .ref 0), (1, .int y1), (2, .int y2), (3, .int y3), (4, .int y4), (5, .int y5), (7, .int y7), (8, .int y8)]) (by decide) rfl ?_
        refine V.iload (pc := 136) C dX11_leftFor_136 9 rfl ?_
        refine V.istore (pc := 138) C dX11_leftFor_138 (L2 := [(7, .int y8), (6, .int r_14), (9, .int z0), (0, .ref 0), (1, .int y1), (2, .int y2), (3, .int y3), (4, .int y4), (5, .int y5), (8, .int y8)]) (by decide) rfl ?_
        refine V.iinc (pc := 140) C dX11_leftFor_140 (v := 1) (L2 := [(8, .int (y8 + 1)), (7, .int y8), (6, .int r_14), (9, .int z0), (0, .ref 0), (1, .int y1), (2, .int y2), (3, .int y3), (4, .int y4), (5, .int y5)]) 9 rfl (by decide) (by decide) rfl ?_
        refine V.goto (pc := 143) C dX11_leftFor_143 67 (by decide) ?_
        refine V.wk [4, 5, 6, 7, 8, 9, 2, 1, 0] rfl ?_
        exact h67 y1 y2 y3 y4 y5 r_14 y8 (y8 + 1) m_15
set_option maxRecDepth 100000 in
set_option maxHeartbeats 4000000 in
theorem v_X11_leftFor_b67 {l : Launch} {p : Program} {e : Env} {s : State} {mt : MethodId} {args : Array Value} {below : List Frame} {meth : Method} {c : Code} {A : Nat → Prop} {ad0 : Nat → Nat} {G : Gt} {N : Nat} (C : Cx G p s mt args meth c RX11 cX11_leftFor 10 (some .int) "leftFor" A) (hN : 109 ≤ N) : ∀ (n : Nat) (y1 : Int32) (y2 : Int32) (y3 : Int32) (y4 : Int32) (y5 : Int32) (y6 : Int32) (y7 : Int32) (y8 : Int32) (m : Mem), V G SX oI l p e s mt args below meth c 10 6 A ad0 N N RX N RX 67 [(0, .ref 0), (1, .int y1), (2, .int y2), (3, .int y3), (4, .int y4), (5, .int y5), (6, .int y6), (7, .int y7), (8, .int y8)] [] m (X11_leftFor_b67  n y1 y2 y3 y4 y5 y6 y7 y8 m) := by
  intro n
  induction n with
  | zero =>
    intro y1 y2 y3 y4 y5 y6 y7 y8 m
    rw [X11_leftFor_b67]
    exact V.nil
  | succ n ih =>
    intro y1 y2 y3 y4 y5 y6 y7 y8 m
    rw [X11_leftFor_b67]
    refine V.iload (pc := 67) C dX11_leftFor_67 8 rfl ?_
    refine V.iload (pc := 69) C dX11_leftFor_69 5 rfl ?_
    refine V.icmp_gt (pc := 71) C dX11_leftFor_71 146 (by decide) (fun _ => ?_) (fun _ => ?_)
    · refine V.iload (pc := 146) C dX11_leftFor_146 6 rfl ?_
      refine V.iconst (pc := 148) C dX11_leftFor_148 (v := (-1)) (by decide) ?_
      refine V.icmp_eq (pc := 149) C dX11_leftFor_149 156 (by decide) (fun _ => ?_) (fun _ => ?_)
      · refine V.iload (pc := 156) C dX11_leftFor_156 6 rfl ?_
        refine V.goto (pc := 158) C dX11_leftFor_158 163 (by decide) ?_
        exact V.iret C dX11_leftFor_163
      · refine V.iload_n (pc := 152) C dX11_leftFor_152 3 rfl ?_
        refine V.if_ne (pc := 153) C dX11_leftFor_153 161 (by decide) (fun _ => ?_) (fun _ => ?_)
        · refine V.iload (pc := 161) C dX11_leftFor_161 7 rfl ?_
          exact V.iret C dX11_leftFor_163
        · refine V.iload (pc := 156) C dX11_leftFor_156 6 rfl ?_
          refine V.goto (pc := 158) C dX11_leftFor_158 163 (by decide) ?_
          exact V.iret C dX11_leftFor_163
    · refine V.iload (pc := 74) C dX11_leftFor_74 6 rfl ?_
      refine V.iconst (pc := 76) C dX11_leftFor_76 (v := (-1)) (by decide) ?_
      refine V.icmp_eq (pc := 77) C dX11_leftFor_77 90 (by decide) (fun _ => ?_) (fun _ => ?_)
      · refine V.iconst (pc := 90) C dX11_leftFor_90 (v := 1) (by decide) ?_
        refine V.goto (pc := 91) C dX11_leftFor_91 95 (by decide) ?_
        refine V.wk [0, 1, 2, 3, 4, 5, 6, 7, 8] rfl ?_
        exact v_X11_leftFor_b95 C hN (X11_leftFor_b67 n) ih y1 y2 y3 y4 y5 y6 y7 y8 1 m
      · refine V.iload (pc := 80) C dX11_leftFor_80 8 rfl ?_
        refine V.callS (pc := 82) (st := []) C (c_J6_bitCount_0f7a4 l y8 m) obI ck_J6_bitCount_0f7a4 ml_RX11_204 rfl rfl (Nat.le_of_ble_eq_true rfl) ⟨by decide, by decide⟩ dX11_leftFor_82 (fun r_16 m_17 _ => ?_)
        refine V.iload (pc := 85) C dX11_leftFor_85 6 rfl ?_
        refine V.icmp_ge (pc := 87) C dX11_leftFor_87 94 (by decide) (fun _ => ?_) (fun _ => ?_)
        · refine V.iconst (pc := 94) C dX11_leftFor_94 (v := 0) (by decide) ?_
          refine V.wk [0, 1, 2, 3, 4, 5, 6, 7, 8] rfl ?_
          exact v_X11_leftFor_b95 C hN (X11_leftFor_b67 n) ih y1 y2 y3 y4 y5 y6 y7 y8 0 m_17
        · refine V.iconst (pc := 90) C dX11_leftFor_90 (v := 1) (by decide) ?_
          refine V.goto (pc := 91) C dX11_leftFor_91 95 (by decide) ?_
          refine V.wk [0, 1, 2, 3, 4, 5, 6, 7, 8] rfl ?_
          exact v_X11_leftFor_b95 C hN (X11_leftFor_b67 n) ih y1 y2 y3 y4 y5 y6 y7 y8 1 m_17
set_option maxRecDepth 100000 in
set_option maxHeartbeats 4000000 in
theorem v_X11_leftFor {l : Launch} {p : Program} {e : Env} {s : State} {mt : MethodId} {args : Array Value} {below : List Frame} {meth : Method} {c : Code} {A : Nat → Prop} {ad0 : Nat → Nat} {G : Gt} {N : Nat} (C : Cx G p s mt args meth c RX11 cX11_leftFor 10 (some .int) "leftFor" A) (hN : 109 ≤ N) (x1 : Int32) (x2 : Int32) (x3 : Int32) (m : Mem) : V G SX oI l p e s mt args below meth c 10 6 A ad0 N N RX N RX 0 [(0, .ref 0), (1, .int x1), (2, .int x2), (3, .int x3)] [] m (X11_leftFor  x1 x2 x3 m) := by
  rw [X11_leftFor]
  refine V.aload_n (pc := 0) C dX11_leftFor_0 0 rfl ?_
  refine V.getr (pc := 1) C fl_RX11_38 sX0 (kX0 hN) rfl rX0_6 dX11_leftFor_1 ?_
  refine V.iload_n (pc := 4) C dX11_leftFor_4 1 rfl ?_
  refine V.iload_n (pc := 5) C dX11_leftFor_5 2 rfl ?_
  refine V.callV (pc := 6) (st := []) C (c_X10_areTwo l hN 25 (iX25 hN) x1 x2 m) obI ck_X10_areTwo ml_RX11_163 rfl rfl sX25 (kX25 hN) rfl rfl (Nat.le_of_ble_eq_true rfl) ⟨by decide, by decide⟩ dX11_leftFor_6 (fun r_1 m_2 _ => ?_)
  refine V.if_eq (pc := 9) C dX11_leftFor_9 19 (by decide) (fun _ => ?_) (fun _ => ?_)
  · refine V.bipush (pc := 19) C dX11_leftFor_19 (v := (-2)) (by decide) ?_
    exact V.iret C dX11_leftFor_21
  · refine V.iload_n (pc := 12) C dX11_leftFor_12 3 rfl ?_
    refine V.callS (pc := 13) (st := []) C (c_X11_isEither l hN x3 m_2) obI ck_X11_isEither ml_RX11_315 rfl rfl (Nat.le_of_ble_eq_true rfl) ⟨by decide, by decide⟩ dX11_leftFor_13 (fun r_3 m_4 _ => ?_)
    refine V.if_ne (pc := 16) C dX11_leftFor_16 22 (by decide) (fun _ => ?_) (fun _ => ?_)
    · refine V.aload_n (pc := 22) C dX11_leftFor_22 0 rfl ?_
      refine V.getr (pc := 23) C fl_RX11_64 sX0 (kX0 hN) rfl rX0_10 dX11_leftFor_23 ?_
      refine V.aload_n (pc := 26) C dX11_leftFor_26 0 rfl ?_
      refine V.getr (pc := 27) C fl_RX11_38 sX0 (kX0 hN) rfl rX0_6 dX11_leftFor_27 ?_
      refine V.callV (pc := 30) (st := []) C (c_X6_survey l hN 25 (iX25 hN) m_4) obV ck_X6_survey ml_RX11_262 rfl rfl sX90 (kX90 hN) rfl rfl (Nat.le_of_ble_eq_true rfl) ⟨by decide, by decide⟩ dX11_leftFor_30 (fun r_5 m_6 _ => ?_)
      refine V.aload_n (pc := 33) C dX11_leftFor_33 0 rfl ?_
      refine V.getr (pc := 34) C fl_RX11_64 sX0 (kX0 hN) rfl rX0_10 dX11_leftFor_34 ?_
      refine V.callV (pc := 37) (st := []) C (c_X6_solve l hN m_6) obV ck_X6_solve ml_RX11_274 rfl rfl sX90 (kX90 hN) rfl rfl (Nat.le_of_ble_eq_true rfl) ⟨by decide, by decide⟩ dX11_leftFor_37 (fun r_7 m_8 _ => ?_)
      refine V.iconst (pc := 40) C dX11_leftFor_40 (v := 1) (by decide) ?_
      refine V.iload_n (pc := 41) C dX11_leftFor_41 1 rfl ?_
      refine V.ishl (pc := 42) C dX11_leftFor_42 ?_
      refine V.iconst (pc := 43) C dX11_leftFor_43 (v := 1) (by decide) ?_
      refine V.iload_n (pc := 44) C dX11_leftFor_44 2 rfl ?_
      refine V.ishl (pc := 45) C dX11_leftFor_45 ?_
      refine V.ior (pc := 46) C dX11_leftFor_46 ?_
      refine V.lti (fun x_9 _ => ?_)
      refine V.istore (pc := 47) C dX11_leftFor_47 (L2 := [(4, .int x_9), (0, .ref 0), (1, .int x1), (2, .int x2), (3, .int x3)]) (by decide) rfl ?_
      refine V.aload_n (pc := 49) C dX11_leftFor_49 1 rfl ?_
      refine V.getr (pc := 50) C fl_RX11_16 sX0 (kX0 hN) rfl rX0_3 dX11_leftFor_50 ?_
      refine V.callV (pc := 53) (st := []) C (c_X8_everybody l hN 2 (iX2 hN) m_8) obI ck_X8_everybody ml_RX11_265 rfl rfl sX2 (kX2 hN) rfl rfl (Nat.le_of_ble_eq_true rfl) ⟨by decide, by decide⟩ dX11_leftFor_53 (fun r_10 m_11 _ => ?_)
      refine V.istore (pc := 56) C dX11_leftFor_56 (L2 := [(5, .int r_10), (4, .int x_9), (0, .ref 0), (1, .int x1), (2, .int x2), (3, .int x3)]) (by decide) rfl ?_
      refine V.iconst (pc := 58) C dX11_leftFor_58 (v := (-1)) (by decide) ?_
      refine V.istore (pc := 59) C dX11_leftFor_59 (L2 := [(6, .int (-1)), (5, .int r_10), (4, .int x_9), (0, .ref 0), (1, .int x1), (2, .int x2), (3, .int x3)]) (by decide) rfl ?_
      refine V.iconst (pc := 61) C dX11_leftFor_61 (v := 0) (by decide) ?_
      refine V.istore (pc := 62) C dX11_leftFor_62 (L2 := [(7, .int 0), (6, .int (-1)), (5, .int r_10), (4, .int x_9), (0, .ref 0), (1, .int x1), (2, .int x2), (3, .int x3)]) (by decide) rfl ?_
      refine V.iconst (pc := 64) C dX11_leftFor_64 (v := 0) (by decide) ?_
      refine V.istore (pc := 65) C dX11_leftFor_65 (L2 := [(8, .int 0), (7, .int 0), (6, .int (-1)), (5, .int r_10), (4, .int x_9), (0, .ref 0), (1, .int x1), (2, .int x2), (3, .int x3)]) (by decide) rfl ?_
      refine V.wk [5, 6, 7, 8, 4, 3, 2, 1, 0] rfl ?_
      exact v_X11_leftFor_b67 C hN FU x1 x2 x3 x_9 r_10 (-1) 0 0 m_11
    · refine V.bipush (pc := 19) C dX11_leftFor_19 (v := (-2)) (by decide) ?_
      exact V.iret C dX11_leftFor_21
theorem c_X11_leftFor (l : Launch) {N : Nat} (hN : 109 ≤ N) (x1 : Int32) (x2 : Int32) (x3 : Int32) (m : Mem) : Ct l yX11_leftFor cX11_leftFor 10 (some .int) 6 SX oI N N RX RX [.ref 0, .int x1, .int x2, .int x3] m (X11_leftFor  x1 x2 x3 m) :=
  Ct.of (own := RX11) (nm := "leftFor") (by decide) rfl rfl (Nat.le_of_ble_eq_true rfl) (fun _ _ _ _ _ _ _ _ _ _ _ C => v_X11_leftFor C hN x1 x2 x3 m)
theorem dX9_cut_0 : decode cX9_cut 0 = .ok (.aload_n 0, 1) := by decide +kernel
theorem dX9_cut_1 : decode cX9_cut 1 = .ok (.getfield 19, 3) := by decide +kernel
theorem dX9_cut_4 : decode cX9_cut 4 = .ok (.tableswitch 42 0 2 #[28, 33, 38], 28) := by decide +kernel
theorem dX9_cut_32 : decode cX9_cut 32 = .ok (.lload_n 1, 1) := by decide +kernel
theorem dX9_cut_33 : decode cX9_cut 33 = .ok (.l2i, 1) := by decide +kernel
theorem dX9_cut_34 : decode cX9_cut 34 = .ok (.i2b, 1) := by decide +kernel
theorem dX9_cut_35 : decode cX9_cut 35 = .ok (.i2l, 1) := by decide +kernel
theorem dX9_cut_36 : decode cX9_cut 36 = .ok (.lreturn, 1) := by decide +kernel
theorem dX9_cut_37 : decode cX9_cut 37 = .ok (.lload_n 1, 1) := by decide +kernel
theorem dX9_cut_38 : decode cX9_cut 38 = .ok (.l2i, 1) := by decide +kernel
theorem dX9_cut_39 : decode cX9_cut 39 = .ok (.i2s, 1) := by decide +kernel
theorem dX9_cut_40 : decode cX9_cut 40 = .ok (.i2l, 1) := by decide +kernel
theorem dX9_cut_41 : decode cX9_cut 41 = .ok (.lreturn, 1) := by decide +kernel
theorem dX9_cut_42 : decode cX9_cut 42 = .ok (.lload_n 1, 1) := by decide +kernel
theorem dX9_cut_43 : decode cX9_cut 43 = .ok (.l2i, 1) := by decide +kernel
theorem dX9_cut_44 : decode cX9_cut 44 = .ok (.i2l, 1) := by decide +kernel
theorem dX9_cut_45 : decode cX9_cut 45 = .ok (.lreturn, 1) := by decide +kernel
theorem dX9_cut_46 : decode cX9_cut 46 = .ok (.lload_n 1, 1) := by decide +kernel
theorem dX9_cut_47 : decode cX9_cut 47 = .ok (.lreturn, 1) := by decide +kernel
set_option maxRecDepth 100000 in
set_option maxHeartbeats 4000000 in
theorem v_X9_cut {l : Launch} {p : Program} {e : Env} {s : State} {mt : MethodId} {args : Array Value} {below : List Frame} {meth : Method} {c : Code} {A : Nat → Prop} {ad0 : Nat → Nat} {G : Gt} {N : Nat} (C : Cx G p s mt args meth c RX9 cX9_cut 3 (some .long) "cut" A) (hN : 109 ≤ N) (a : Nat) (ha : isTray N a) (x1 : Int64) (m : Mem) : V G SX oL l p e s mt args below meth c 3 1 A ad0 N N RX N RX 0 [(0, .ref a), (1, .long x1)] [] m (X9_cut a x1 m) := by
  rw [X9_cut]
  refine V.aload_n (pc := 0) C dX9_cut_0 0 rfl ?_
  refine V.geti (pc := 1) C fl_RX9_19 ha.s ha.k rfl dX9_cut_1 ?_
  refine V.br (fun h_1 => ?_) (fun h_1 => ?_)
  · refine V.tin (pc := 4) (x := (gi m a 2)) (j := 0) (tgt := 32) C dX9_cut_4 h_1 (by decide) (by decide) rfl (by decide) ?_
    refine V.lload_n (pc := 32) C dX9_cut_32 1 rfl ?_
    refine V.l2i (pc := 33) C dX9_cut_33 ?_
    refine V.i2b (pc := 34) C dX9_cut_34 ?_
    refine V.i2l (pc := 35) C dX9_cut_35 ?_
    exact V.lret C dX9_cut_36
  · refine V.br (fun h_2 => ?_) (fun h_2 => ?_)
    · refine V.tin (pc := 4) (x := (gi m a 2)) (j := 1) (tgt := 37) C dX9_cut_4 h_2 (by decide) (by decide) rfl (by decide) ?_
      refine V.lload_n (pc := 37) C dX9_cut_37 1 rfl ?_
      refine V.l2i (pc := 38) C dX9_cut_38 ?_
      refine V.i2s (pc := 39) C dX9_cut_39 ?_
      refine V.i2l (pc := 40) C dX9_cut_40 ?_
      exact V.lret C dX9_cut_41
    · refine V.br (fun h_3 => ?_) (fun h_3 => ?_)
      · refine V.tin (pc := 4) (x := (gi m a 2)) (j := 2) (tgt := 42) C dX9_cut_4 h_3 (by decide) (by decide) rfl (by decide) ?_
        refine V.lload_n (pc := 42) C dX9_cut_42 1 rfl ?_
        refine V.l2i (pc := 43) C dX9_cut_43 ?_
        refine V.i2l (pc := 44) C dX9_cut_44 ?_
        exact V.lret C dX9_cut_45
      · have g0 := lv_neT h_1 (show (0 : Int32).toInt = 0 from by decide)
        have g1 := lv_neT h_2 (show (1 : Int32).toInt = 1 from by decide)
        have g2 := lv_neT h_3 (show (2 : Int32).toInt = 2 from by decide)
        refine V.tout (pc := 4) (x := (gi m a 2)) (tgt := 46) C dX9_cut_4 (by omega) (by decide) ?_
        refine V.lload_n (pc := 46) C dX9_cut_46 1 rfl ?_
        exact V.lret C dX9_cut_47
theorem c_X9_cut (l : Launch) {N : Nat} (hN : 109 ≤ N) (a : Nat) (ha : isTray N a) (x1 : Int64) (m : Mem) : Ct l yX9_cut cX9_cut 3 (some .long) 1 SX oL N N RX RX [.ref a, .long x1] m (X9_cut a x1 m) :=
  Ct.of (own := RX9) (nm := "cut") (by decide) rfl rfl (Nat.le_of_ble_eq_true rfl) (fun _ _ _ _ _ _ _ _ _ _ _ C => v_X9_cut C hN a ha x1 m)
theorem dX11_lists_0 : decode cX11_lists 0 = .ok (.iload_n 1, 1) := by decide +kernel
theorem dX11_lists_1 : decode cX11_lists 1 = .ok (.invokestatic 223, 3) := by decide +kernel
theorem dX11_lists_4 : decode cX11_lists 4 = .ok (.ifCond .ne 6, 3) := by decide +kernel
theorem dX11_lists_7 : decode cX11_lists 7 = .ok (.bipush (-2), 2) := by decide +kernel
theorem dX11_lists_9 : decode cX11_lists 9 = .ok (.ireturn, 1) := by decide +kernel
theorem dX11_lists_10 : decode cX11_lists 10 = .ok (.aload_n 0, 1) := by decide +kernel
theorem dX11_lists_11 : decode cX11_lists 11 = .ok (.getfield 79, 3) := by decide +kernel
theorem dX11_lists_14 : decode cX11_lists 14 = .ok (.iload_n 1, 1) := by decide +kernel
theorem dX11_lists_15 : decode cX11_lists 15 = .ok (.aaload, 1) := by decide +kernel
theorem dX11_lists_16 : decode cX11_lists 16 = .ok (.astore_n 2, 1) := by decide +kernel
theorem dX11_lists_17 : decode cX11_lists 17 = .ok (.aload_n 2, 1) := by decide +kernel
theorem dX11_lists_18 : decode cX11_lists 18 = .ok (.getfield 226, 3) := by decide +kernel
theorem dX11_lists_21 : decode cX11_lists 21 = .ok (.ifCond .ne 6, 3) := by decide +kernel
theorem dX11_lists_24 : decode cX11_lists 24 = .ok (.bipush (-6), 2) := by decide +kernel
theorem dX11_lists_26 : decode cX11_lists 26 = .ok (.ireturn, 1) := by decide +kernel
theorem dX11_lists_27 : decode cX11_lists 27 = .ok (.aload_n 2, 1) := by decide +kernel
theorem dX11_lists_28 : decode cX11_lists 28 = .ok (.getfield 348, 3) := by decide +kernel
theorem dX11_lists_31 : decode cX11_lists 31 = .ok (.aload_n 0, 1) := by decide +kernel
theorem dX11_lists_32 : decode cX11_lists 32 = .ok (.getfield 16, 3) := by decide +kernel
theorem dX11_lists_35 : decode cX11_lists 35 = .ok (.getfield 249, 3) := by decide +kernel
theorem dX11_lists_38 : decode cX11_lists 38 = .ok (.invokestatic 361, 3) := by decide +kernel
theorem dX11_lists_41 : decode cX11_lists 41 = .ok (.istore_n 3, 1) := by decide +kernel
theorem dX11_lists_42 : decode cX11_lists 42 = .ok (.iconst 0, 1) := by decide +kernel
theorem dX11_lists_43 : decode cX11_lists 43 = .ok (.istore 4, 2) := by decide +kernel
theorem dX11_lists_45 : decode cX11_lists 45 = .ok (.iload 4, 2) := by decide +kernel
theorem dX11_lists_47 : decode cX11_lists 47 = .ok (.iload_n 3, 1) := by decide +kernel
theorem dX11_lists_48 : decode cX11_lists 48 = .ok (.if_icmp .ge 34, 3) := by decide +kernel
theorem dX11_lists_51 : decode cX11_lists 51 = .ok (.aload_n 2, 1) := by decide +kernel
theorem dX11_lists_52 : decode cX11_lists 52 = .ok (.getfield 353, 3) := by decide +kernel
theorem dX11_lists_55 : decode cX11_lists 55 = .ok (.iload 4, 2) := by decide +kernel
theorem dX11_lists_57 : decode cX11_lists 57 = .ok (.aload_n 2, 1) := by decide +kernel
theorem dX11_lists_58 : decode cX11_lists 58 = .ok (.aload_n 0, 1) := by decide +kernel
theorem dX11_lists_59 : decode cX11_lists 59 = .ok (.getfield 38, 3) := by decide +kernel
theorem dX11_lists_62 : decode cX11_lists 62 = .ok (.getfield 108, 3) := by decide +kernel
theorem dX11_lists_65 : decode cX11_lists 65 = .ok (.getfield 134, 3) := by decide +kernel
theorem dX11_lists_68 : decode cX11_lists 68 = .ok (.iload 4, 2) := by decide +kernel
theorem dX11_lists_70 : decode cX11_lists 70 = .ok (.iaload, 1) := by decide +kernel
theorem dX11_lists_71 : decode cX11_lists 71 = .ok (.i2l, 1) := by decide +kernel
theorem dX11_lists_72 : decode cX11_lists 72 = .ok (.invokevirtual 357, 3) := by decide +kernel
theorem dX11_lists_75 : decode cX11_lists 75 = .ok (.lastore, 1) := by decide +kernel
theorem dX11_lists_76 : decode cX11_lists 76 = .ok (.iinc 4 1, 3) := by decide +kernel
theorem dX11_lists_79 : decode cX11_lists 79 = .ok (.goto (-34), 3) := by decide +kernel
theorem dX11_lists_82 : decode cX11_lists 82 = .ok (.iload_n 3, 1) := by decide +kernel
theorem dX11_lists_83 : decode cX11_lists 83 = .ok (.ireturn, 1) := by decide +kernel
set_option maxRecDepth 100000 in
set_option maxHeartbeats 4000000 in
theorem v_X11_lists_b45 {l : Launch} {p : Program} {e : Env} {s : State} {mt : MethodId} {args : Array Value} {below : List Frame} {meth : Method} {c : Code} {A : Nat → Prop} {ad0 : Nat → Nat} {G : Gt} {N : Nat} (C : Cx G p s mt args meth c RX11 cX11_lists 5 (some .int) "lists" A) (hN : 109 ≤ N) (b_3 : Nat) (hb_3 : isTray N b_3) : ∀ (n : Nat) (y3 : Int32) (y4 : Int32) (m : Mem), V G SX oI l p e s mt args below meth c 5 2 A ad0 N N RX N RX 45 [(0, .ref 0), (2, .ref b_3), (3, .int y3), (4, .int y4)] [] m (X11_lists_b45 b_3 n y3 y4 m) := by
  intro n
  induction n with
  | zero =>
    intro y3 y4 m
    rw [X11_lists_b45]
    exact V.nil
  | succ n ih =>
    intro y3 y4 m
    rw [X11_lists_b45]
    refine V.iload (pc := 45) C dX11_lists_45 3 rfl ?_
    refine V.iload_n (pc := 47) C dX11_lists_47 2 rfl ?_
    refine V.icmp_ge (pc := 48) C dX11_lists_48 82 (by decide) (fun _ => ?_) (fun _ => ?_)
    · refine V.iload_n (pc := 82) C dX11_lists_82 2 rfl ?_
      exact V.iret C dX11_lists_83
    · refine V.aload_n (pc := 51) C dX11_lists_51 1 rfl ?_
      refine V.getr (pc := 52) C fl_RX11_353 hb_3.s hb_3.k rfl hb_3.r3 dX11_lists_52 ?_
      refine V.iload (pc := 55) C dX11_lists_55 3 rfl ?_
      refine V.aload_n (pc := 57) C dX11_lists_57 1 rfl ?_
      refine V.aload_n (pc := 58) C dX11_lists_58 0 rfl ?_
      refine V.getr (pc := 59) C fl_RX11_38 sX0 (kX0 hN) rfl rX0_6 dX11_lists_59 ?_
      refine V.getr (pc := 62) C fl_RX11_108 sX25 (kX25 hN) rfl rX25_2 dX11_lists_62 ?_
      refine V.getr (pc := 65) C fl_RX11_134 sX26 (kX26 hN) rfl rX26_3 dX11_lists_65 ?_
      refine V.iload (pc := 68) C dX11_lists_68 3 rfl ?_
      refine V.iald (pc := 70) C sX29 (kX29 hN) dX11_lists_70 (fun _ => ?_)
      refine V.i2l (pc := 71) C dX11_lists_71 ?_
      refine V.callV (pc := 72) (st := [.int y4, .ref (b_3 + 1)]) C (c_X9_cut l hN b_3 hb_3 (Int32.toInt64 (gi m 29 (ix y4))) m) obL ck_X9_cut ml_RX11_357 rfl rfl hb_3.s hb_3.k rfl rfl (Nat.le_of_ble_eq_true rfl) ⟨by decide, by decide⟩ dX11_lists_72 (fun r_6 m_7 _ => ?_)
      refine V.last (pc := 75) C hb_3.s1 hb_3.k1 dX11_lists_75 (fun _ => ?_)
      refine V.ltm (fun m_8 => ?_)
      refine V.iinc (pc := 76) C dX11_lists_76 (v := 1) (L2 := [(4, .int (y4 + 1)), (0, .ref 0), (2, .ref b_3), (3, .int y3)]) 3 rfl (by decide) (by decide) rfl ?_
      refine V.goto (pc := 79) C dX11_lists_79 45 (by decide) ?_
      refine V.wk [1, 2, 3, 0] rfl ?_
      exact ih y3 (y4 + 1) m_8
set_option maxRecDepth 100000 in
set_option maxHeartbeats 4000000 in
theorem v_X11_lists {l : Launch} {p : Program} {e : Env} {s : State} {mt : MethodId} {args : Array Value} {below : List Frame} {meth : Method} {c : Code} {A : Nat → Prop} {ad0 : Nat → Nat} {G : Gt} {N : Nat} (C : Cx G p s mt args meth c RX11 cX11_lists 5 (some .int) "lists" A) (hN : 109 ≤ N) (x1 : Int32) (m : Mem) : V G SX oI l p e s mt args below meth c 5 2 A ad0 N N RX N RX 0 [(0, .ref 0), (1, .int x1)] [] m (X11_lists  x1 m) := by
  rw [X11_lists]
  refine V.iload_n (pc := 0) C dX11_lists_0 1 rfl ?_
  refine V.callS (pc := 1) (st := []) C (c_X11_isTray l hN x1 m) obI ck_X11_isTray ml_RX11_223 rfl rfl (Nat.le_of_ble_eq_true rfl) ⟨by decide, by decide⟩ dX11_lists_1 (fun r_1 m_2 _ => ?_)
  refine V.if_ne (pc := 4) C dX11_lists_4 10 (by decide) (fun _ => ?_) (fun _ => ?_)
  · refine V.aload_n (pc := 10) C dX11_lists_10 0 rfl ?_
    refine V.getr (pc := 11) C fl_RX11_79 sX0 (kX0 hN) rfl rX0_12 dX11_lists_11 ?_
    refine V.iload_n (pc := 14) C dX11_lists_14 1 rfl ?_
    refine V.aald (pc := 15) (f := fun j => 100 + 2 * j) C sX99 (Or.inr rfl) (kX99 hN) rTrays dX11_lists_15 (fun h_4 => ?_)
    refine V.ltr (fun b_3 eb_3 => ?_)
    have hb_3 : isTray N b_3 := by rw [eb_3]; exact trayAt hN h_4
    refine V.astore_n (pc := 16) C dX11_lists_16 (L2 := [(2, .ref b_3), (0, .ref 0), (1, .int x1)]) (by decide) rfl ?_
    refine V.aload_n (pc := 17) C dX11_lists_17 0 rfl ?_
    refine V.geti (pc := 18) C fl_RX11_226 hb_3.s hb_3.k rfl dX11_lists_18 ?_
    refine V.if_ne (pc := 21) C dX11_lists_21 27 (by decide) (fun _ => ?_) (fun _ => ?_)
    · refine V.aload_n (pc := 27) C dX11_lists_27 0 rfl ?_
      refine V.geti (pc := 28) C fl_RX11_348 hb_3.s hb_3.k rfl dX11_lists_28 ?_
      refine V.aload_n (pc := 31) C dX11_lists_31 1 rfl ?_
      refine V.getr (pc := 32) C fl_RX11_16 sX0 (kX0 hN) rfl rX0_3 dX11_lists_32 ?_
      refine V.geti (pc := 35) C fl_RX11_249 sX2 (kX2 hN) rfl dX11_lists_35 ?_
      refine V.mmin (pc := 38) (st := []) C ml_RX11_361 mt_min_s mt_i mt_min_c (by decide) (Nat.le_of_ble_eq_true rfl) dX11_lists_38 ?_
      refine V.lti (fun x_5 _ => ?_)
      refine V.istore_n (pc := 41) C dX11_lists_41 (L2 := [(3, .int x_5), (2, .ref b_3), (0, .ref 0), (1, .int x1)]) (by decide) rfl ?_
      refine V.iconst (pc := 42) C dX11_lists_42 (v := 0) (by decide) ?_
      refine V.istore (pc := 43) C dX11_lists_43 (L2 := [(4, .int 0), (3, .int x_5), (2, .ref b_3), (0, .ref 0), (1, .int x1)]) (by decide) rfl ?_
      refine V.wk [3, 2, 1, 0] rfl ?_
      exact v_X11_lists_b45 C hN b_3 hb_3 FU x_5 0 m_2
    · refine V.bipush (pc := 24) C dX11_lists_24 (v := (-6)) (by decide) ?_
      exact V.iret C dX11_lists_26
  · refine V.bipush (pc := 7) C dX11_lists_7 (v := (-2)) (by decide) ?_
    exact V.iret C dX11_lists_9
theorem c_X11_lists (l : Launch) {N : Nat} (hN : 109 ≤ N) (x1 : Int32) (m : Mem) : Ct l yX11_lists cX11_lists 5 (some .int) 2 SX oI N N RX RX [.ref 0, .int x1] m (X11_lists  x1 m) :=
  Ct.of (own := RX11) (nm := "lists") (by decide) rfl rfl (Nat.le_of_ble_eq_true rfl) (fun _ _ _ _ _ _ _ _ _ _ _ C => v_X11_lists C hN x1 m)
theorem dX11_matchAll_0 : decode cX11_matchAll 0 = .ok (.aload_n 0, 1) := by decide +kernel
theorem dX11_matchAll_1 : decode cX11_matchAll 1 = .ok (.getfield 64, 3) := by decide +kernel
theorem dX11_matchAll_4 : decode cX11_matchAll 4 = .ok (.aload_n 0, 1) := by decide +kernel
theorem dX11_matchAll_5 : decode cX11_matchAll 5 = .ok (.getfield 38, 3) := by decide +kernel
theorem dX11_matchAll_8 : decode cX11_matchAll 8 = .ok (.invokevirtual 262, 3) := by decide +kernel
theorem dX11_matchAll_11 : decode cX11_matchAll 11 = .ok (.aload_n 0, 1) := by decide +kernel
theorem dX11_matchAll_12 : decode cX11_matchAll 12 = .ok (.getfield 64, 3) := by decide +kernel
theorem dX11_matchAll_15 : decode cX11_matchAll 15 = .ok (.invokevirtual 274, 3) := by decide +kernel
theorem dX11_matchAll_18 : decode cX11_matchAll 18 = .ok (.aload_n 0, 1) := by decide +kernel
theorem dX11_matchAll_19 : decode cX11_matchAll 19 = .ok (.getfield 64, 3) := by decide +kernel
theorem dX11_matchAll_22 : decode cX11_matchAll 22 = .ok (.aload_n 0, 1) := by decide +kernel
theorem dX11_matchAll_23 : decode cX11_matchAll 23 = .ok (.getfield 16, 3) := by decide +kernel
theorem dX11_matchAll_26 : decode cX11_matchAll 26 = .ok (.invokevirtual 265, 3) := by decide +kernel
theorem dX11_matchAll_29 : decode cX11_matchAll 29 = .ok (.invokevirtual 277, 3) := by decide +kernel
theorem dX11_matchAll_32 : decode cX11_matchAll 32 = .ok (.aload_n 0, 1) := by decide +kernel
theorem dX11_matchAll_33 : decode cX11_matchAll 33 = .ok (.getfield 57, 3) := by decide +kernel
theorem dX11_matchAll_36 : decode cX11_matchAll 36 = .ok (.aload_n 0, 1) := by decide +kernel
theorem dX11_matchAll_37 : decode cX11_matchAll 37 = .ok (.getfield 38, 3) := by decide +kernel
theorem dX11_matchAll_40 : decode cX11_matchAll 40 = .ok (.getfield 108, 3) := by decide +kernel
theorem dX11_matchAll_43 : decode cX11_matchAll 43 = .ok (.invokevirtual 188, 3) := by decide +kernel
theorem dX11_matchAll_46 : decode cX11_matchAll 46 = .ok (.iconst 0, 1) := by decide +kernel
theorem dX11_matchAll_47 : decode cX11_matchAll 47 = .ok (.istore_n 1, 1) := by decide +kernel
theorem dX11_matchAll_48 : decode cX11_matchAll 48 = .ok (.iload_n 1, 1) := by decide +kernel
theorem dX11_matchAll_49 : decode cX11_matchAll 49 = .ok (.aload_n 0, 1) := by decide +kernel
theorem dX11_matchAll_50 : decode cX11_matchAll 50 = .ok (.getfield 16, 3) := by decide +kernel
theorem dX11_matchAll_53 : decode cX11_matchAll 53 = .ok (.getfield 249, 3) := by decide +kernel
theorem dX11_matchAll_56 : decode cX11_matchAll 56 = .ok (.if_icmp .ge 30, 3) := by decide +kernel
theorem dX11_matchAll_59 : decode cX11_matchAll 59 = .ok (.aload_n 0, 1) := by decide +kernel
theorem dX11_matchAll_60 : decode cX11_matchAll 60 = .ok (.getfield 38, 3) := by decide +kernel
theorem dX11_matchAll_63 : decode cX11_matchAll 63 = .ok (.getfield 108, 3) := by decide +kernel
theorem dX11_matchAll_66 : decode cX11_matchAll 66 = .ok (.getfield 137, 3) := by decide +kernel
theorem dX11_matchAll_69 : decode cX11_matchAll 69 = .ok (.iload_n 1, 1) := by decide +kernel
theorem dX11_matchAll_70 : decode cX11_matchAll 70 = .ok (.aload_n 0, 1) := by decide +kernel
theorem dX11_matchAll_71 : decode cX11_matchAll 71 = .ok (.getfield 64, 3) := by decide +kernel
theorem dX11_matchAll_74 : decode cX11_matchAll 74 = .ok (.getfield 296, 3) := by decide +kernel
theorem dX11_matchAll_77 : decode cX11_matchAll 77 = .ok (.iload_n 1, 1) := by decide +kernel
theorem dX11_matchAll_78 : decode cX11_matchAll 78 = .ok (.iaload, 1) := by decide +kernel
theorem dX11_matchAll_79 : decode cX11_matchAll 79 = .ok (.iastore, 1) := by decide +kernel
theorem dX11_matchAll_80 : decode cX11_matchAll 80 = .ok (.iinc 1 1, 3) := by decide +kernel
theorem dX11_matchAll_83 : decode cX11_matchAll 83 = .ok (.goto (-35), 3) := by decide +kernel
theorem dX11_matchAll_86 : decode cX11_matchAll 86 = .ok (.aload_n 0, 1) := by decide +kernel
theorem dX11_matchAll_87 : decode cX11_matchAll 87 = .ok (.getfield 38, 3) := by decide +kernel
theorem dX11_matchAll_90 : decode cX11_matchAll 90 = .ok (.invokevirtual 237, 3) := by decide +kernel
theorem dX11_matchAll_93 : decode cX11_matchAll 93 = .ok (.ireturn, 1) := by decide +kernel
set_option maxRecDepth 100000 in
set_option maxHeartbeats 4000000 in
theorem v_X11_matchAll_b48 {l : Launch} {p : Program} {e : Env} {s : State} {mt : MethodId} {args : Array Value} {below : List Frame} {meth : Method} {c : Code} {A : Nat → Prop} {ad0 : Nat → Nat} {G : Gt} {N : Nat} (C : Cx G p s mt args meth c RX11 cX11_matchAll 2 (some .int) "matchAll" A) (hN : 109 ≤ N) : ∀ (n : Nat) (y1 : Int32) (m : Mem), V G SX oI l p e s mt args below meth c 2 6 A ad0 N N RX N RX 48 [(0, .ref 0), (1, .int y1)] [] m (X11_matchAll_b48  n y1 m) := by
  intro n
  induction n with
  | zero =>
    intro y1 m
    rw [X11_matchAll_b48]
    exact V.nil
  | succ n ih =>
    intro y1 m
    rw [X11_matchAll_b48]
    refine V.iload_n (pc := 48) C dX11_matchAll_48 1 rfl ?_
    refine V.aload_n (pc := 49) C dX11_matchAll_49 0 rfl ?_
    refine V.getr (pc := 50) C fl_RX11_16 sX0 (kX0 hN) rfl rX0_3 dX11_matchAll_50 ?_
    refine V.geti (pc := 53) C fl_RX11_249 sX2 (kX2 hN) rfl dX11_matchAll_53 ?_
    refine V.icmp_ge (pc := 56) C dX11_matchAll_56 86 (by decide) (fun _ => ?_) (fun _ => ?_)
    · refine V.aload_n (pc := 86) C dX11_matchAll_86 0 rfl ?_
      refine V.getr (pc := 87) C fl_RX11_38 sX0 (kX0 hN) rfl rX0_6 dX11_matchAll_87 ?_
      refine V.callV (pc := 90) (st := []) C (c_X10_couples l hN 25 (iX25 hN) m) obI ck_X10_couples ml_RX11_237 rfl rfl sX25 (kX25 hN) rfl rfl (Nat.le_of_ble_eq_true rfl) ⟨by decide, by decide⟩ dX11_matchAll_90 (fun r_11 m_12 _ => ?_)
      exact V.iret C dX11_matchAll_93
    · refine V.aload_n (pc := 59) C dX11_matchAll_59 0 rfl ?_
      refine V.getr (pc := 60) C fl_RX11_38 sX0 (kX0 hN) rfl rX0_6 dX11_matchAll_60 ?_
      refine V.getr (pc := 63) C fl_RX11_108 sX25 (kX25 hN) rfl rX25_2 dX11_matchAll_63 ?_
      refine V.getr (pc := 66) C fl_RX11_137 sX26 (kX26 hN) rfl rX26_2 dX11_matchAll_66 ?_
      refine V.iload_n (pc := 69) C dX11_matchAll_69 1 rfl ?_
      refine V.aload_n (pc := 70) C dX11_matchAll_70 0 rfl ?_
      refine V.getr (pc := 71) C fl_RX11_64 sX0 (kX0 hN) rfl rX0_10 dX11_matchAll_71 ?_
      refine V.getr (pc := 74) C fl_RX11_296 sX90 (kX90 hN) rfl rX90_5 dX11_matchAll_74 ?_
      refine V.iload_n (pc := 77) C dX11_matchAll_77 1 rfl ?_
      refine V.iald (pc := 78) C sX95 (kX95 hN) dX11_matchAll_78 (fun _ => ?_)
      refine V.iast (pc := 79) C sX28 (kX28 hN) dX11_matchAll_79 (fun _ => ?_)
      refine V.ltm (fun m_13 => ?_)
      refine V.iinc (pc := 80) C dX11_matchAll_80 (v := 1) (L2 := [(1, .int (y1 + 1)), (0, .ref 0)]) 1 rfl (by decide) (by decide) rfl ?_
      refine V.goto (pc := 83) C dX11_matchAll_83 48 (by decide) ?_
      refine V.wk [1, 0] rfl ?_
      exact ih (y1 + 1) m_13
set_option maxRecDepth 100000 in
set_option maxHeartbeats 4000000 in
theorem v_X11_matchAll {l : Launch} {p : Program} {e : Env} {s : State} {mt : MethodId} {args : Array Value} {below : List Frame} {meth : Method} {c : Code} {A : Nat → Prop} {ad0 : Nat → Nat} {G : Gt} {N : Nat} (C : Cx G p s mt args meth c RX11 cX11_matchAll 2 (some .int) "matchAll" A) (hN : 109 ≤ N) (m : Mem) : V G SX oI l p e s mt args below meth c 2 6 A ad0 N N RX N RX 0 [(0, .ref 0)] [] m (X11_matchAll   m) := by
  rw [X11_matchAll]
  refine V.aload_n (pc := 0) C dX11_matchAll_0 0 rfl ?_
  refine V.getr (pc := 1) C fl_RX11_64 sX0 (kX0 hN) rfl rX0_10 dX11_matchAll_1 ?_
  refine V.aload_n (pc := 4) C dX11_matchAll_4 0 rfl ?_
  refine V.getr (pc := 5) C fl_RX11_38 sX0 (kX0 hN) rfl rX0_6 dX11_matchAll_5 ?_
  refine V.callV (pc := 8) (st := []) C (c_X6_survey l hN 25 (iX25 hN) m) obV ck_X6_survey ml_RX11_262 rfl rfl sX90 (kX90 hN) rfl rfl (Nat.le_of_ble_eq_true rfl) ⟨by decide, by decide⟩ dX11_matchAll_8 (fun r_1 m_2 _ => ?_)
  refine V.aload_n (pc := 11) C dX11_matchAll_11 0 rfl ?_
  refine V.getr (pc := 12) C fl_RX11_64 sX0 (kX0 hN) rfl rX0_10 dX11_matchAll_12 ?_
  refine V.callV (pc := 15) (st := []) C (c_X6_solve l hN m_2) obV ck_X6_solve ml_RX11_274 rfl rfl sX90 (kX90 hN) rfl rfl (Nat.le_of_ble_eq_true rfl) ⟨by decide, by decide⟩ dX11_matchAll_15 (fun r_3 m_4 _ => ?_)
  refine V.aload_n (pc := 18) C dX11_matchAll_18 0 rfl ?_
  refine V.getr (pc := 19) C fl_RX11_64 sX0 (kX0 hN) rfl rX0_10 dX11_matchAll_19 ?_
  refine V.aload_n (pc := 22) C dX11_matchAll_22 0 rfl ?_
  refine V.getr (pc := 23) C fl_RX11_16 sX0 (kX0 hN) rfl rX0_3 dX11_matchAll_23 ?_
  refine V.callV (pc := 26) (st := [.ref 90]) C (c_X8_everybody l hN 2 (iX2 hN) m_4) obI ck_X8_everybody ml_RX11_265 rfl rfl sX2 (kX2 hN) rfl rfl (Nat.le_of_ble_eq_true rfl) ⟨by decide, by decide⟩ dX11_matchAll_26 (fun r_5 m_6 _ => ?_)
  refine V.callV (pc := 29) (st := []) C (c_X6_follow l hN r_5 m_6) obV ck_X6_follow ml_RX11_277 rfl rfl sX90 (kX90 hN) rfl rfl (Nat.le_of_ble_eq_true rfl) ⟨by decide, by decide⟩ dX11_matchAll_29 (fun r_7 m_8 _ => ?_)
  refine V.aload_n (pc := 32) C dX11_matchAll_32 0 rfl ?_
  refine V.getr (pc := 33) C fl_RX11_57 sX0 (kX0 hN) rfl rX0_9 dX11_matchAll_33 ?_
  refine V.aload_n (pc := 36) C dX11_matchAll_36 0 rfl ?_
  refine V.getr (pc := 37) C fl_RX11_38 sX0 (kX0 hN) rfl rX0_6 dX11_matchAll_37 ?_
  refine V.getr (pc := 40) C fl_RX11_108 sX25 (kX25 hN) rfl rX25_2 dX11_matchAll_40 ?_
  refine V.callV (pc := 43) (st := []) C (c_X2_keep l hN 26 (iX26 hN) m_8) obV ck_X2_keep ml_RX11_188 rfl rfl sX40 (kX40 hN) rfl rfl (Nat.le_of_ble_eq_true rfl) ⟨by decide, by decide⟩ dX11_matchAll_43 (fun r_9 m_10 _ => ?_)
  refine V.iconst (pc := 46) C dX11_matchAll_46 (v := 0) (by decide) ?_
  refine V.istore_n (pc := 47) C dX11_matchAll_47 (L2 := [(1, .int 0), (0, .ref 0)]) (by decide) rfl ?_
  refine V.wk [1, 0] rfl ?_
  exact v_X11_matchAll_b48 C hN FU 0 m_10
theorem c_X11_matchAll (l : Launch) {N : Nat} (hN : 109 ≤ N) (m : Mem) : Ct l yX11_matchAll cX11_matchAll 2 (some .int) 6 SX oI N N RX RX [.ref 0] m (X11_matchAll   m) :=
  Ct.of (own := RX11) (nm := "matchAll") (by decide) rfl rfl (Nat.le_of_ble_eq_true rfl) (fun _ _ _ _ _ _ _ _ _ _ _ C => v_X11_matchAll C hN  m)
theorem dX6_tally_0 : decode cX6_tally 0 = .ok (.iload_n 2, 1) := by decide +kernel
theorem dX6_tally_1 : decode cX6_tally 1 = .ok (.ifCond .ne 5, 3) := by decide +kernel
theorem dX6_tally_4 : decode cX6_tally 4 = .ok (.iconst 1, 1) := by decide +kernel
theorem dX6_tally_5 : decode cX6_tally 5 = .ok (.ireturn, 1) := by decide +kernel
theorem dX6_tally_6 : decode cX6_tally 6 = .ok (.iload_n 1, 1) := by decide +kernel
theorem dX6_tally_7 : decode cX6_tally 7 = .ok (.ifCond .ne 5, 3) := by decide +kernel
theorem dX6_tally_10 : decode cX6_tally 10 = .ok (.iconst 0, 1) := by decide +kernel
theorem dX6_tally_11 : decode cX6_tally 11 = .ok (.ireturn, 1) := by decide +kernel
theorem dX6_tally_12 : decode cX6_tally 12 = .ok (.iload_n 1, 1) := by decide +kernel
theorem dX6_tally_13 : decode cX6_tally 13 = .ok (.invokestatic 53, 3) := by decide +kernel
theorem dX6_tally_16 : decode cX6_tally 16 = .ok (.istore_n 3, 1) := by decide +kernel
theorem dX6_tally_17 : decode cX6_tally 17 = .ok (.iload_n 1, 1) := by decide +kernel
theorem dX6_tally_18 : decode cX6_tally 18 = .ok (.iconst 1, 1) := by decide +kernel
theorem dX6_tally_19 : decode cX6_tally 19 = .ok (.iload_n 3, 1) := by decide +kernel
theorem dX6_tally_20 : decode cX6_tally 20 = .ok (.ishl, 1) := by decide +kernel
theorem dX6_tally_21 : decode cX6_tally 21 = .ok (.iconst (-1), 1) := by decide +kernel
theorem dX6_tally_22 : decode cX6_tally 22 = .ok (.ixor, 1) := by decide +kernel
theorem dX6_tally_23 : decode cX6_tally 23 = .ok (.iand, 1) := by decide +kernel
theorem dX6_tally_24 : decode cX6_tally 24 = .ok (.istore 4, 2) := by decide +kernel
theorem dX6_tally_26 : decode cX6_tally 26 = .ok (.aload_n 0, 1) := by decide +kernel
theorem dX6_tally_27 : decode cX6_tally 27 = .ok (.iload 4, 2) := by decide +kernel
theorem dX6_tally_29 : decode cX6_tally 29 = .ok (.iload_n 2, 1) := by decide +kernel
theorem dX6_tally_30 : decode cX6_tally 30 = .ok (.invokevirtual 70, 3) := by decide +kernel
theorem dX6_tally_33 : decode cX6_tally 33 = .ok (.istore 5, 2) := by decide +kernel
theorem dX6_tally_35 : decode cX6_tally 35 = .ok (.iload_n 3, 1) := by decide +kernel
theorem dX6_tally_36 : decode cX6_tally 36 = .ok (.iconst 1, 1) := by decide +kernel
theorem dX6_tally_37 : decode cX6_tally 37 = .ok (.iadd, 1) := by decide +kernel
theorem dX6_tally_38 : decode cX6_tally 38 = .ok (.istore 6, 2) := by decide +kernel
theorem dX6_tally_40 : decode cX6_tally 40 = .ok (.iload 6, 2) := by decide +kernel
theorem dX6_tally_42 : decode cX6_tally 42 = .ok (.aload_n 0, 1) := by decide +kernel
theorem dX6_tally_43 : decode cX6_tally 43 = .ok (.getfield 40, 3) := by decide +kernel
theorem dX6_tally_46 : decode cX6_tally 46 = .ok (.if_icmp .ge 50, 3) := by decide +kernel
theorem dX6_tally_49 : decode cX6_tally 49 = .ok (.iload 4, 2) := by decide +kernel
theorem dX6_tally_51 : decode cX6_tally 51 = .ok (.iconst 1, 1) := by decide +kernel
theorem dX6_tally_52 : decode cX6_tally 52 = .ok (.iload 6, 2) := by decide +kernel
theorem dX6_tally_54 : decode cX6_tally 54 = .ok (.ishl, 1) := by decide +kernel
theorem dX6_tally_55 : decode cX6_tally 55 = .ok (.iand, 1) := by decide +kernel
theorem dX6_tally_56 : decode cX6_tally 56 = .ok (.ifCond .eq 34, 3) := by decide +kernel
theorem dX6_tally_59 : decode cX6_tally 59 = .ok (.aload_n 0, 1) := by decide +kernel
theorem dX6_tally_60 : decode cX6_tally 60 = .ok (.iload_n 3, 1) := by decide +kernel
theorem dX6_tally_61 : decode cX6_tally 61 = .ok (.iload 6, 2) := by decide +kernel
theorem dX6_tally_63 : decode cX6_tally 63 = .ok (.invokevirtual 60, 3) := by decide +kernel
theorem dX6_tally_66 : decode cX6_tally 66 = .ok (.ifCond .eq 24, 3) := by decide +kernel
theorem dX6_tally_69 : decode cX6_tally 69 = .ok (.iload 5, 2) := by decide +kernel
theorem dX6_tally_71 : decode cX6_tally 71 = .ok (.aload_n 0, 1) := by decide +kernel
theorem dX6_tally_72 : decode cX6_tally 72 = .ok (.iload 4, 2) := by decide +kernel
theorem dX6_tally_74 : decode cX6_tally 74 = .ok (.iconst 1, 1) := by decide +kernel
theorem dX6_tally_75 : decode cX6_tally 75 = .ok (.iload 6, 2) := by decide +kernel
theorem dX6_tally_77 : decode cX6_tally 77 = .ok (.ishl, 1) := by decide +kernel
theorem dX6_tally_78 : decode cX6_tally 78 = .ok (.iconst (-1), 1) := by decide +kernel
theorem dX6_tally_79 : decode cX6_tally 79 = .ok (.ixor, 1) := by decide +kernel
theorem dX6_tally_80 : decode cX6_tally 80 = .ok (.iand, 1) := by decide +kernel
theorem dX6_tally_81 : decode cX6_tally 81 = .ok (.iload_n 2, 1) := by decide +kernel
theorem dX6_tally_82 : decode cX6_tally 82 = .ok (.iconst 1, 1) := by decide +kernel
theorem dX6_tally_83 : decode cX6_tally 83 = .ok (.isub, 1) := by decide +kernel
theorem dX6_tally_84 : decode cX6_tally 84 = .ok (.invokevirtual 70, 3) := by decide +kernel
theorem dX6_tally_87 : decode cX6_tally 87 = .ok (.iadd, 1) := by decide +kernel
theorem dX6_tally_88 : decode cX6_tally 88 = .ok (.istore 5, 2) := by decide +kernel
theorem dX6_tally_90 : decode cX6_tally 90 = .ok (.iinc 6 1, 3) := by decide +kernel
theorem dX6_tally_93 : decode cX6_tally 93 = .ok (.goto (-53), 3) := by decide +kernel
theorem dX6_tally_96 : decode cX6_tally 96 = .ok (.iload 5, 2) := by decide +kernel
theorem dX6_tally_98 : decode cX6_tally 98 = .ok (.ireturn, 1) := by decide +kernel
set_option maxRecDepth 100000 in
set_option maxHeartbeats 4000000 in
theorem v_X6_tally_b40 {l : Launch} {p : Program} {e : Env} {s : State} {mt : MethodId} {args : Array Value} {below : List Frame} {meth : Method} {c : Code} {A : Nat → Prop} {ad0 : Nat → Nat} {G : Gt} {N : Nat} {fr fr1 : Nat} (hfr : fr1 + 1 ≤ fr ∧ 2 ≤ fr) (C : Cx G p s mt args meth c RX6 cX6_tally 7 (some .int) "tally" A) (hN : 109 ≤ N) (f_X6_tally : Int32 → Int32 → Mem → Option (Int32 × Mem)) (h_X6_tally : ∀ (x1 : Int32) (x2 : Int32) (m : Mem), Ct l yX6_tally cX6_tally 7 (some .int) fr1 SX oI N N RX RX [.ref 90, .int x1, .int x2] m (f_X6_tally x1 x2 m)) : ∀ (n : Nat) (y2 : Int32) (y3 : Int32) (y4 : Int32) (y5 : Int32) (y6 : Int32) (m : Mem), V G SX oI l p e s mt args below meth c 7 fr A ad0 N N RX N RX 40 [(0, .ref 90), (2, .int y2), (3, .int y3), (4, .int y4), (5, .int y5), (6, .int y6)] [] m (X6_tally_b40 f_X6_tally n y2 y3 y4 y5 y6 m) := by
  intro n
  induction n with
  | zero =>
    intro y2 y3 y4 y5 y6 m
    rw [X6_tally_b40]
    exact V.nil
  | succ n ih =>
    intro y2 y3 y4 y5 y6 m
    rw [X6_tally_b40]
    refine V.iload (pc := 40) C dX6_tally_40 5 rfl ?_
    refine V.aload_n (pc := 42) C dX6_tally_42 0 rfl ?_
    refine V.geti (pc := 43) C fl_RX6_40 sX90 (kX90 hN) rfl dX6_tally_43 ?_
    refine V.icmp_ge (pc := 46) C dX6_tally_46 96 (by decide) (fun _ => ?_) (fun _ => ?_)
    · refine V.iload (pc := 96) C dX6_tally_96 4 rfl ?_
      exact V.iret C dX6_tally_98
    · refine V.iload (pc := 49) C dX6_tally_49 3 rfl ?_
      refine V.iconst (pc := 51) C dX6_tally_51 (v := 1) (by decide) ?_
      refine V.iload (pc := 52) C dX6_tally_52 5 rfl ?_
      refine V.ishl (pc := 54) C dX6_tally_54 ?_
      refine V.iand (pc := 55) C dX6_tally_55 ?_
      refine V.if_eq (pc := 56) C dX6_tally_56 90 (by decide) (fun _ => ?_) (fun _ => ?_)
      · refine V.iinc (pc := 90) C dX6_tally_90 (v := 1) (L2 := [(6, .int (y6 + 1)), (0, .ref 90), (2, .int y2), (3, .int y3), (4, .int y4), (5, .int y5)]) 5 rfl (by decide) (by decide) rfl ?_
        refine V.goto (pc := 93) C dX6_tally_93 40 (by decide) ?_
        refine V.wk [1, 2, 3, 4, 5, 0] rfl ?_
        exact ih y2 y3 y4 y5 (y6 + 1) m
      · refine V.aload_n (pc := 59) C dX6_tally_59 0 rfl ?_
        refine V.iload_n (pc := 60) C dX6_tally_60 2 rfl ?_
        refine V.iload (pc := 61) C dX6_tally_61 5 rfl ?_
        refine V.callV (pc := 63) (st := []) C (c_X6_isOpen l hN y3 y6 m) obI ck_X6_isOpen ml_RX6_60 rfl rfl sX90 (kX90 hN) rfl rfl (Nat.le_of_ble_eq_true rfl) ⟨by omega, by decide⟩ dX6_tally_63 (fun r_7 m_8 _ => ?_)
        refine V.if_eq (pc := 66) C dX6_tally_66 90 (by decide) (fun _ => ?_) (fun _ => ?_)
        · refine V.iinc (pc := 90) C dX6_tally_90 (v := 1) (L2 := [(6, .int (y6 + 1)), (0, .ref 90), (2, .int y2), (3, .int y3), (4, .int y4), (5, .int y5)]) 5 rfl (by decide) (by decide) rfl ?_
          refine V.goto (pc := 93) C dX6_tally_93 40 (by decide) ?_
          refine V.wk [1, 2, 3, 4, 5, 0] rfl ?_
          exact ih y2 y3 y4 y5 (y6 + 1) m_8
        · refine V.iload (pc := 69) C dX6_tally_69 4 rfl ?_
          refine V.aload_n (pc := 71) C dX6_tally_71 0 rfl ?_
          refine V.iload (pc := 72) C dX6_tally_72 3 rfl ?_
          refine V.iconst (pc := 74) C dX6_tally_74 (v := 1) (by decide) ?_
          refine V.iload (pc := 75) C dX6_tally_75 5 rfl ?_
          refine V.ishl (pc := 77) C dX6_tally_77 ?_
          refine V.iconst (pc := 78) C dX6_tally_78 (v := (-1)) (by decide) ?_
          refine V.ixor (pc := 79) C dX6_tally_79 ?_
          refine V.iand (pc := 80) C dX6_tally_80 ?_
          refine V.iload_n (pc := 81) C dX6_tally_81 1 rfl ?_
          refine V.iconst (pc := 82) C dX6_tally_82 (v := 1) (by decide) ?_
          refine V.isub (pc := 83) C dX6_tally_83 ?_
          refine V.callV (pc := 84) (st := [.int y5]) C (h_X6_tally (y4 &&& (((1 : Int32) <<< (y6 &&& 31)) ^^^ (-1))) (y2 - 1) m_8) obI ck_X6_tally ml_RX6_70 rfl rfl sX90 (kX90 hN) rfl rfl (Nat.le_of_ble_eq_true rfl) ⟨by omega, by decide⟩ dX6_tally_84 (fun r_9 m_10 _ => ?_)
          refine V.iadd (pc := 87) C dX6_tally_87 ?_
          refine V.lti (fun x_11 _ => ?_)
          refine V.istore (pc := 88) C dX6_tally_88 (L2 := [(5, .int x_11), (0, .ref 90), (2, .int y2), (3, .int y3), (4, .int y4), (6, .int y6)]) (by decide) rfl ?_
          refine V.iinc (pc := 90) C dX6_tally_90 (v := 1) (L2 := [(6, .int (y6 + 1)), (5, .int x_11), (0, .ref 90), (2, .int y2), (3, .int y3), (4, .int y4)]) 5 rfl (by decide) (by decide) rfl ?_
          refine V.goto (pc := 93) C dX6_tally_93 40 (by decide) ?_
          refine V.wk [2, 3, 4, 5, 1, 0] rfl ?_
          exact ih y2 y3 y4 x_11 (y6 + 1) m_10
set_option maxRecDepth 100000 in
set_option maxHeartbeats 4000000 in
theorem v_X6_tally {l : Launch} {p : Program} {e : Env} {s : State} {mt : MethodId} {args : Array Value} {below : List Frame} {meth : Method} {c : Code} {A : Nat → Prop} {ad0 : Nat → Nat} {G : Gt} {N : Nat} {fr fr1 : Nat} (hfr : fr1 + 1 ≤ fr ∧ 2 ≤ fr) (C : Cx G p s mt args meth c RX6 cX6_tally 7 (some .int) "tally" A) (hN : 109 ≤ N) (f_X6_tally : Int32 → Int32 → Mem → Option (Int32 × Mem)) (h_X6_tally : ∀ (x1 : Int32) (x2 : Int32) (m : Mem), Ct l yX6_tally cX6_tally 7 (some .int) fr1 SX oI N N RX RX [.ref 90, .int x1, .int x2] m (f_X6_tally x1 x2 m)) (x1 : Int32) (x2 : Int32) (m : Mem) : V G SX oI l p e s mt args below meth c 7 fr A ad0 N N RX N RX 0 [(0, .ref 90), (1, .int x1), (2, .int x2)] [] m (X6_tally f_X6_tally x1 x2 m) := by
  rw [X6_tally]
  refine V.iload_n (pc := 0) C dX6_tally_0 2 rfl ?_
  refine V.if_ne (pc := 1) C dX6_tally_1 6 (by decide) (fun _ => ?_) (fun _ => ?_)
  · refine V.iload_n (pc := 6) C dX6_tally_6 1 rfl ?_
    refine V.if_ne (pc := 7) C dX6_tally_7 12 (by decide) (fun _ => ?_) (fun _ => ?_)
    · refine V.iload_n (pc := 12) C dX6_tally_12 1 rfl ?_
      refine V.callS (pc := 13) (st := []) C (c_J6_numberOfTrailingZeros_0f7a4 l x1 m) obI ck_J6_numberOfTrailingZeros_0f7a4 ml_RX6_53 rfl rfl (Nat.le_of_ble_eq_true rfl) ⟨by omega, by decide⟩ dX6_tally_13 (fun r_1 m_2 _ => ?_)
      refine V.istore_n (pc := 16) C dX6_tally_16 (L2 := [(3, .int r_1), (0, .ref 90), (1, .int x1), (2, .int x2)]) (by decide) rfl ?_
      refine V.iload_n (pc := 17) C dX6_tally_17 2 rfl ?_
      refine V.iconst (pc := 18) C dX6_tally_18 (v := 1) (by decide) ?_
      refine V.iload_n (pc := 19) C dX6_tally_19 0 rfl ?_
      refine V.ishl (pc := 20) C dX6_tally_20 ?_
      refine V.iconst (pc := 21) C dX6_tally_21 (v := (-1)) (by decide) ?_
      refine V.ixor (pc := 22) C dX6_tally_22 ?_
      refine V.iand (pc := 23) C dX6_tally_23 ?_
      refine V.lti (fun x_3 _ => ?_)
      refine V.istore (pc := 24) C dX6_tally_24 (L2 := [(4, .int x_3), (3, .int r_1), (0, .ref 90), (1, .int x1), (2, .int x2)]) (by decide) rfl ?_
      refine V.aload_n (pc := 26) C dX6_tally_26 2 rfl ?_
      refine V.iload (pc := 27) C dX6_tally_27 0 rfl ?_
      refine V.iload_n (pc := 29) C dX6_tally_29 4 rfl ?_
      refine V.callV (pc := 30) (st := []) C (h_X6_tally x_3 x2 m_2) obI ck_X6_tally ml_RX6_70 rfl rfl sX90 (kX90 hN) rfl rfl (Nat.le_of_ble_eq_true rfl) ⟨by omega, by decide⟩ dX6_tally_30 (fun r_4 m_5 _ => ?_)
      refine V.istore (pc := 33) C dX6_tally_33 (L2 := [(5, .int r_4), (4, .int x_3), (3, .int r_1), (0, .ref 90), (1, .int x1), (2, .int x2)]) (by decide) rfl ?_
      refine V.iload_n (pc := 35) C dX6_tally_35 2 rfl ?_
      refine V.iconst (pc := 36) C dX6_tally_36 (v := 1) (by decide) ?_
      refine V.iadd (pc := 37) C dX6_tally_37 ?_
      refine V.lti (fun x_6 _ => ?_)
      refine V.istore (pc := 38) C dX6_tally_38 (L2 := [(6, .int x_6), (5, .int r_4), (4, .int x_3), (3, .int r_1), (0, .ref 90), (1, .int x1), (2, .int x2)]) (by decide) rfl ?_
      refine V.wk [4, 6, 3, 2, 1, 0] rfl ?_
      exact v_X6_tally_b40 hfr C hN f_X6_tally h_X6_tally FU x2 r_1 x_3 r_4 x_6 m_5
    · refine V.iconst (pc := 10) C dX6_tally_10 (v := 0) (by decide) ?_
      exact V.iret C dX6_tally_11
  · refine V.iconst (pc := 4) C dX6_tally_4 (v := 1) (by decide) ?_
    exact V.iret C dX6_tally_5
theorem c_X6_tally (l : Launch) {N : Nat} {fr fr1 : Nat} (hfr : fr1 + 1 ≤ fr ∧ 2 ≤ fr) (hN : 109 ≤ N) (f_X6_tally : Int32 → Int32 → Mem → Option (Int32 × Mem)) (h_X6_tally : ∀ (x1 : Int32) (x2 : Int32) (m : Mem), Ct l yX6_tally cX6_tally 7 (some .int) fr1 SX oI N N RX RX [.ref 90, .int x1, .int x2] m (f_X6_tally x1 x2 m)) (x1 : Int32) (x2 : Int32) (m : Mem) : Ct l yX6_tally cX6_tally 7 (some .int) fr SX oI N N RX RX [.ref 90, .int x1, .int x2] m (X6_tally f_X6_tally x1 x2 m) :=
  Ct.of (own := RX6) (nm := "tally") (by decide) rfl rfl (Nat.le_of_ble_eq_true rfl) (fun _ _ _ _ _ _ _ _ _ _ _ C => v_X6_tally hfr C hN f_X6_tally h_X6_tally x1 x2 m)
theorem cg_X6_tally (l : Launch) {N : Nat} (hN : 109 ≤ N) : ∀ d : Nat, (∀ (x1 : Int32) (x2 : Int32) (m : Mem), Ct l yX6_tally cX6_tally 7 (some .int) (d + 2) SX oI N N RX RX [.ref 90, .int x1, .int x2] m (g_X6_tally d x1 x2 m))
  | 0 => fun _ _ _ => ct_none
  | d + 1 => by
    have ih := cg_X6_tally l hN d
    exact fun x1 x2 m => c_X6_tally l (fr := d + 1 + 2) (fr1 := d + 2) ⟨by omega, by omega⟩ hN _ (ih) x1 x2 m
theorem c_X6_tally_top (l : Launch) {N : Nat} (hN : 109 ≤ N) (x1 : Int32) (x2 : Int32) (m : Mem) : Ct l yX6_tally cX6_tally 7 (some .int) 66 SX oI N N RX RX [.ref 90, .int x1, .int x2] m (X6_tally_top x1 x2 m) := (cg_X6_tally l hN 64) x1 x2 m
theorem dX11_matchings_0 : decode cX11_matchings 0 = .ok (.iload_n 1, 1) := by decide +kernel
theorem dX11_matchings_1 : decode cX11_matchings 1 = .ok (.ifCond .lt 8, 3) := by decide +kernel
theorem dX11_matchings_4 : decode cX11_matchings 4 = .ok (.iload_n 1, 1) := by decide +kernel
theorem dX11_matchings_5 : decode cX11_matchings 5 = .ok (.iconst 4, 1) := by decide +kernel
theorem dX11_matchings_6 : decode cX11_matchings 6 = .ok (.if_icmp .le 6, 3) := by decide +kernel
theorem dX11_matchings_9 : decode cX11_matchings 9 = .ok (.bipush (-3), 2) := by decide +kernel
theorem dX11_matchings_11 : decode cX11_matchings 11 = .ok (.ireturn, 1) := by decide +kernel
theorem dX11_matchings_12 : decode cX11_matchings 12 = .ok (.aload_n 0, 1) := by decide +kernel
theorem dX11_matchings_13 : decode cX11_matchings 13 = .ok (.getfield 64, 3) := by decide +kernel
theorem dX11_matchings_16 : decode cX11_matchings 16 = .ok (.aload_n 0, 1) := by decide +kernel
theorem dX11_matchings_17 : decode cX11_matchings 17 = .ok (.getfield 38, 3) := by decide +kernel
theorem dX11_matchings_20 : decode cX11_matchings 20 = .ok (.invokevirtual 262, 3) := by decide +kernel
theorem dX11_matchings_23 : decode cX11_matchings 23 = .ok (.aload_n 0, 1) := by decide +kernel
theorem dX11_matchings_24 : decode cX11_matchings 24 = .ok (.getfield 64, 3) := by decide +kernel
theorem dX11_matchings_27 : decode cX11_matchings 27 = .ok (.aload_n 0, 1) := by decide +kernel
theorem dX11_matchings_28 : decode cX11_matchings 28 = .ok (.getfield 16, 3) := by decide +kernel
theorem dX11_matchings_31 : decode cX11_matchings 31 = .ok (.invokevirtual 265, 3) := by decide +kernel
theorem dX11_matchings_34 : decode cX11_matchings 34 = .ok (.iload_n 1, 1) := by decide +kernel
theorem dX11_matchings_35 : decode cX11_matchings 35 = .ok (.invokevirtual 268, 3) := by decide +kernel
theorem dX11_matchings_38 : decode cX11_matchings 38 = .ok (.ireturn, 1) := by decide +kernel
set_option maxRecDepth 100000 in
set_option maxHeartbeats 4000000 in
theorem v_X11_matchings {l : Launch} {p : Program} {e : Env} {s : State} {mt : MethodId} {args : Array Value} {below : List Frame} {meth : Method} {c : Code} {A : Nat → Prop} {ad0 : Nat → Nat} {G : Gt} {N : Nat} (C : Cx G p s mt args meth c RX11 cX11_matchings 2 (some .int) "matchings" A) (hN : 109 ≤ N) (x1 : Int32) (m : Mem) : V G SX oI l p e s mt args below meth c 2 67 A ad0 N N RX N RX 0 [(0, .ref 0), (1, .int x1)] [] m (X11_matchings  x1 m) := by
  rw [X11_matchings]
  refine V.iload_n (pc := 0) C dX11_matchings_0 1 rfl ?_
  refine V.if_lt (pc := 1) C dX11_matchings_1 9 (by decide) (fun _ => ?_) (fun _ => ?_)
  · refine V.bipush (pc := 9) C dX11_matchings_9 (v := (-3)) (by decide) ?_
    exact V.iret C dX11_matchings_11
  · refine V.iload_n (pc := 4) C dX11_matchings_4 1 rfl ?_
    refine V.iconst (pc := 5) C dX11_matchings_5 (v := 4) (by decide) ?_
    refine V.icmp_le (pc := 6) C dX11_matchings_6 12 (by decide) (fun _ => ?_) (fun _ => ?_)
    · refine V.aload_n (pc := 12) C dX11_matchings_12 0 rfl ?_
      refine V.getr (pc := 13) C fl_RX11_64 sX0 (kX0 hN) rfl rX0_10 dX11_matchings_13 ?_
      refine V.aload_n (pc := 16) C dX11_matchings_16 0 rfl ?_
      refine V.getr (pc := 17) C fl_RX11_38 sX0 (kX0 hN) rfl rX0_6 dX11_matchings_17 ?_
      refine V.callV (pc := 20) (st := []) C (c_X6_survey l hN 25 (iX25 hN) m) obV ck_X6_survey ml_RX11_262 rfl rfl sX90 (kX90 hN) rfl rfl (Nat.le_of_ble_eq_true rfl) ⟨by decide, by decide⟩ dX11_matchings_20 (fun r_1 m_2 _ => ?_)
      refine V.aload_n (pc := 23) C dX11_matchings_23 0 rfl ?_
      refine V.getr (pc := 24) C fl_RX11_64 sX0 (kX0 hN) rfl rX0_10 dX11_matchings_24 ?_
      refine V.aload_n (pc := 27) C dX11_matchings_27 0 rfl ?_
      refine V.getr (pc := 28) C fl_RX11_16 sX0 (kX0 hN) rfl rX0_3 dX11_matchings_28 ?_
      refine V.callV (pc := 31) (st := [.ref 90]) C (c_X8_everybody l hN 2 (iX2 hN) m_2) obI ck_X8_everybody ml_RX11_265 rfl rfl sX2 (kX2 hN) rfl rfl (Nat.le_of_ble_eq_true rfl) ⟨by decide, by decide⟩ dX11_matchings_31 (fun r_3 m_4 _ => ?_)
      refine V.iload_n (pc := 34) C dX11_matchings_34 1 rfl ?_
      refine V.callN (pc := 35) (st := []) (host := "LoatheMatch") C (c_X6_tally_top l hN r_3 x1 m_4) obI ck_X6_tally (by decide) rfl rfl sX90 (kX90 hN) rfl rfl (Nat.le_of_ble_eq_true rfl) ⟨by decide, by decide⟩ dX11_matchings_35 (fun r_5 m_6 _ => ?_)
      exact V.iret C dX11_matchings_38
    · refine V.bipush (pc := 9) C dX11_matchings_9 (v := (-3)) (by decide) ?_
      exact V.iret C dX11_matchings_11
theorem c_X11_matchings (l : Launch) {N : Nat} (hN : 109 ≤ N) (x1 : Int32) (m : Mem) : Ct l yX11_matchings cX11_matchings 2 (some .int) 67 SX oI N N RX RX [.ref 0, .int x1] m (X11_matchings  x1 m) :=
  Ct.of (own := RX11) (nm := "matchings") (by decide) rfl rfl (Nat.le_of_ble_eq_true rfl) (fun _ _ _ _ _ _ _ _ _ _ _ C => v_X11_matchings C hN x1 m)
theorem dX11_may_0 : decode cX11_may 0 = .ok (.aload_n 0, 1) := by decide +kernel
theorem dX11_may_1 : decode cX11_may 1 = .ok (.getfield 38, 3) := by decide +kernel
theorem dX11_may_4 : decode cX11_may 4 = .ok (.iload_n 1, 1) := by decide +kernel
theorem dX11_may_5 : decode cX11_may 5 = .ok (.iload_n 2, 1) := by decide +kernel
theorem dX11_may_6 : decode cX11_may 6 = .ok (.invokevirtual 163, 3) := by decide +kernel
theorem dX11_may_9 : decode cX11_may 9 = .ok (.ifCond .ne 6, 3) := by decide +kernel
theorem dX11_may_12 : decode cX11_may 12 = .ok (.bipush (-2), 2) := by decide +kernel
theorem dX11_may_14 : decode cX11_may 14 = .ok (.ireturn, 1) := by decide +kernel
theorem dX11_may_15 : decode cX11_may 15 = .ok (.aload_n 0, 1) := by decide +kernel
theorem dX11_may_16 : decode cX11_may 16 = .ok (.getfield 38, 3) := by decide +kernel
theorem dX11_may_19 : decode cX11_may 19 = .ok (.iload_n 1, 1) := by decide +kernel
theorem dX11_may_20 : decode cX11_may 20 = .ok (.iload_n 2, 1) := by decide +kernel
theorem dX11_may_21 : decode cX11_may 21 = .ok (.invokevirtual 182, 3) := by decide +kernel
theorem dX11_may_24 : decode cX11_may 24 = .ok (.ifCond .eq 7, 3) := by decide +kernel
theorem dX11_may_27 : decode cX11_may 27 = .ok (.iconst 1, 1) := by decide +kernel
theorem dX11_may_28 : decode cX11_may 28 = .ok (.goto 4, 3) := by decide +kernel
theorem dX11_may_31 : decode cX11_may 31 = .ok (.iconst 0, 1) := by decide +kernel
theorem dX11_may_32 : decode cX11_may 32 = .ok (.ireturn, 1) := by decide +kernel
set_option maxRecDepth 100000 in
set_option maxHeartbeats 4000000 in
theorem v_X11_may {l : Launch} {p : Program} {e : Env} {s : State} {mt : MethodId} {args : Array Value} {below : List Frame} {meth : Method} {c : Code} {A : Nat → Prop} {ad0 : Nat → Nat} {G : Gt} {N : Nat} (C : Cx G p s mt args meth c RX11 cX11_may 3 (some .int) "may" A) (hN : 109 ≤ N) (x1 : Int32) (x2 : Int32) (m : Mem) : V G SX oI l p e s mt args below meth c 3 4 A ad0 N N RX N RX 0 [(0, .ref 0), (1, .int x1), (2, .int x2)] [] m (X11_may  x1 x2 m) := by
  rw [X11_may]
  refine V.aload_n (pc := 0) C dX11_may_0 0 rfl ?_
  refine V.getr (pc := 1) C fl_RX11_38 sX0 (kX0 hN) rfl rX0_6 dX11_may_1 ?_
  refine V.iload_n (pc := 4) C dX11_may_4 1 rfl ?_
  refine V.iload_n (pc := 5) C dX11_may_5 2 rfl ?_
  refine V.callV (pc := 6) (st := []) C (c_X10_areTwo l hN 25 (iX25 hN) x1 x2 m) obI ck_X10_areTwo ml_RX11_163 rfl rfl sX25 (kX25 hN) rfl rfl (Nat.le_of_ble_eq_true rfl) ⟨by decide, by decide⟩ dX11_may_6 (fun r_1 m_2 _ => ?_)
  refine V.if_ne (pc := 9) C dX11_may_9 15 (by decide) (fun _ => ?_) (fun _ => ?_)
  · refine V.aload_n (pc := 15) C dX11_may_15 0 rfl ?_
    refine V.getr (pc := 16) C fl_RX11_38 sX0 (kX0 hN) rfl rX0_6 dX11_may_16 ?_
    refine V.iload_n (pc := 19) C dX11_may_19 1 rfl ?_
    refine V.iload_n (pc := 20) C dX11_may_20 2 rfl ?_
    refine V.callV (pc := 21) (st := []) C (c_X10_isAllowed l hN 25 (iX25 hN) x1 x2 m_2) obI ck_X10_isAllowed ml_RX11_182 rfl rfl sX25 (kX25 hN) rfl rfl (Nat.le_of_ble_eq_true rfl) ⟨by decide, by decide⟩ dX11_may_21 (fun r_3 m_4 _ => ?_)
    refine V.if_eq (pc := 24) C dX11_may_24 31 (by decide) (fun _ => ?_) (fun _ => ?_)
    · refine V.iconst (pc := 31) C dX11_may_31 (v := 0) (by decide) ?_
      exact V.iret C dX11_may_32
    · refine V.iconst (pc := 27) C dX11_may_27 (v := 1) (by decide) ?_
      refine V.goto (pc := 28) C dX11_may_28 32 (by decide) ?_
      exact V.iret C dX11_may_32
  · refine V.bipush (pc := 12) C dX11_may_12 (v := (-2)) (by decide) ?_
    exact V.iret C dX11_may_14
theorem c_X11_may (l : Launch) {N : Nat} (hN : 109 ≤ N) (x1 : Int32) (x2 : Int32) (m : Mem) : Ct l yX11_may cX11_may 3 (some .int) 4 SX oI N N RX RX [.ref 0, .int x1, .int x2] m (X11_may  x1 x2 m) :=
  Ct.of (own := RX11) (nm := "may") (by decide) rfl rfl (Nat.le_of_ble_eq_true rfl) (fun _ _ _ _ _ _ _ _ _ _ _ C => v_X11_may C hN x1 x2 m)
theorem dX11_most_0 : decode cX11_most 0 = .ok (.aload_n 0, 1) := by decide +kernel
theorem dX11_most_1 : decode cX11_most 1 = .ok (.iload_n 1, 1) := by decide +kernel
theorem dX11_most_2 : decode cX11_most 2 = .ok (.invokevirtual 271, 3) := by decide +kernel
theorem dX11_most_5 : decode cX11_most 5 = .ok (.ifCond .ne 6, 3) := by decide +kernel
theorem dX11_most_8 : decode cX11_most 8 = .ok (.bipush (-2), 2) := by decide +kernel
theorem dX11_most_10 : decode cX11_most 10 = .ok (.ireturn, 1) := by decide +kernel
theorem dX11_most_11 : decode cX11_most 11 = .ok (.aload_n 0, 1) := by decide +kernel
theorem dX11_most_12 : decode cX11_most 12 = .ok (.getfield 64, 3) := by decide +kernel
theorem dX11_most_15 : decode cX11_most 15 = .ok (.aload_n 0, 1) := by decide +kernel
theorem dX11_most_16 : decode cX11_most 16 = .ok (.getfield 38, 3) := by decide +kernel
theorem dX11_most_19 : decode cX11_most 19 = .ok (.invokevirtual 262, 3) := by decide +kernel
theorem dX11_most_22 : decode cX11_most 22 = .ok (.aload_n 0, 1) := by decide +kernel
theorem dX11_most_23 : decode cX11_most 23 = .ok (.getfield 64, 3) := by decide +kernel
theorem dX11_most_26 : decode cX11_most 26 = .ok (.invokevirtual 274, 3) := by decide +kernel
theorem dX11_most_29 : decode cX11_most 29 = .ok (.aload_n 0, 1) := by decide +kernel
theorem dX11_most_30 : decode cX11_most 30 = .ok (.getfield 64, 3) := by decide +kernel
theorem dX11_most_33 : decode cX11_most 33 = .ok (.aload_n 0, 1) := by decide +kernel
theorem dX11_most_34 : decode cX11_most 34 = .ok (.getfield 16, 3) := by decide +kernel
theorem dX11_most_37 : decode cX11_most 37 = .ok (.invokevirtual 265, 3) := by decide +kernel
theorem dX11_most_40 : decode cX11_most 40 = .ok (.invokevirtual 277, 3) := by decide +kernel
theorem dX11_most_43 : decode cX11_most 43 = .ok (.aload_n 0, 1) := by decide +kernel
theorem dX11_most_44 : decode cX11_most 44 = .ok (.getfield 64, 3) := by decide +kernel
theorem dX11_most_47 : decode cX11_most 47 = .ok (.iload_n 1, 1) := by decide +kernel
theorem dX11_most_48 : decode cX11_most 48 = .ok (.invokevirtual 280, 3) := by decide +kernel
theorem dX11_most_51 : decode cX11_most 51 = .ok (.ireturn, 1) := by decide +kernel
set_option maxRecDepth 100000 in
set_option maxHeartbeats 4000000 in
theorem v_X11_most {l : Launch} {p : Program} {e : Env} {s : State} {mt : MethodId} {args : Array Value} {below : List Frame} {meth : Method} {c : Code} {A : Nat → Prop} {ad0 : Nat → Nat} {G : Gt} {N : Nat} (C : Cx G p s mt args meth c RX11 cX11_most 2 (some .int) "most" A) (hN : 109 ≤ N) (x1 : Int32) (m : Mem) : V G SX oI l p e s mt args below meth c 2 6 A ad0 N N RX N RX 0 [(0, .ref 0), (1, .int x1)] [] m (X11_most  x1 m) := by
  rw [X11_most]
  refine V.aload_n (pc := 0) C dX11_most_0 0 rfl ?_
  refine V.iload_n (pc := 1) C dX11_most_1 1 rfl ?_
  refine V.callV (pc := 2) (st := []) C (c_X11_isMatchingQuestion l hN x1 m) obI ck_X11_isMatchingQuestion ml_RX11_271 rfl rfl sX0 (kX0 hN) rfl rfl (Nat.le_of_ble_eq_true rfl) ⟨by decide, by decide⟩ dX11_most_2 (fun r_1 m_2 _ => ?_)
  refine V.if_ne (pc := 5) C dX11_most_5 11 (by decide) (fun _ => ?_) (fun _ => ?_)
  · refine V.aload_n (pc := 11) C dX11_most_11 0 rfl ?_
    refine V.getr (pc := 12) C fl_RX11_64 sX0 (kX0 hN) rfl rX0_10 dX11_most_12 ?_
    refine V.aload_n (pc := 15) C dX11_most_15 0 rfl ?_
    refine V.getr (pc := 16) C fl_RX11_38 sX0 (kX0 hN) rfl rX0_6 dX11_most_16 ?_
    refine V.callV (pc := 19) (st := []) C (c_X6_survey l hN 25 (iX25 hN) m_2) obV ck_X6_survey ml_RX11_262 rfl rfl sX90 (kX90 hN) rfl rfl (Nat.le_of_ble_eq_true rfl) ⟨by decide, by decide⟩ dX11_most_19 (fun r_3 m_4 _ => ?_)
    refine V.aload_n (pc := 22) C dX11_most_22 0 rfl ?_
    refine V.getr (pc := 23) C fl_RX11_64 sX0 (kX0 hN) rfl rX0_10 dX11_most_23 ?_
    refine V.callV (pc := 26) (st := []) C (c_X6_solve l hN m_4) obV ck_X6_solve ml_RX11_274 rfl rfl sX90 (kX90 hN) rfl rfl (Nat.le_of_ble_eq_true rfl) ⟨by decide, by decide⟩ dX11_most_26 (fun r_5 m_6 _ => ?_)
    refine V.aload_n (pc := 29) C dX11_most_29 0 rfl ?_
    refine V.getr (pc := 30) C fl_RX11_64 sX0 (kX0 hN) rfl rX0_10 dX11_most_30 ?_
    refine V.aload_n (pc := 33) C dX11_most_33 0 rfl ?_
    refine V.getr (pc := 34) C fl_RX11_16 sX0 (kX0 hN) rfl rX0_3 dX11_most_34 ?_
    refine V.callV (pc := 37) (st := [.ref 90]) C (c_X8_everybody l hN 2 (iX2 hN) m_6) obI ck_X8_everybody ml_RX11_265 rfl rfl sX2 (kX2 hN) rfl rfl (Nat.le_of_ble_eq_true rfl) ⟨by decide, by decide⟩ dX11_most_37 (fun r_7 m_8 _ => ?_)
    refine V.callV (pc := 40) (st := []) C (c_X6_follow l hN r_7 m_8) obV ck_X6_follow ml_RX11_277 rfl rfl sX90 (kX90 hN) rfl rfl (Nat.le_of_ble_eq_true rfl) ⟨by decide, by decide⟩ dX11_most_40 (fun r_9 m_10 _ => ?_)
    refine V.aload_n (pc := 43) C dX11_most_43 0 rfl ?_
    refine V.getr (pc := 44) C fl_RX11_64 sX0 (kX0 hN) rfl rX0_10 dX11_most_44 ?_
    refine V.iload_n (pc := 47) C dX11_most_47 1 rfl ?_
    refine V.callV (pc := 48) (st := []) C (c_X6_answer l hN x1 m_10) obI ck_X6_answer ml_RX11_280 rfl rfl sX90 (kX90 hN) rfl rfl (Nat.le_of_ble_eq_true rfl) ⟨by decide, by decide⟩ dX11_most_48 (fun r_11 m_12 _ => ?_)
    exact V.iret C dX11_most_51
  · refine V.bipush (pc := 8) C dX11_most_8 (v := (-2)) (by decide) ?_
    exact V.iret C dX11_most_10
theorem c_X11_most (l : Launch) {N : Nat} (hN : 109 ≤ N) (x1 : Int32) (m : Mem) : Ct l yX11_most cX11_most 2 (some .int) 6 SX oI N N RX RX [.ref 0, .int x1] m (X11_most  x1 m) :=
  Ct.of (own := RX11) (nm := "most") (by decide) rfl rfl (Nat.le_of_ble_eq_true rfl) (fun _ _ _ _ _ _ _ _ _ _ _ C => v_X11_most C hN x1 m)
theorem dX9_lay_0 : decode cX9_lay 0 = .ok (.aload_n 0, 1) := by decide +kernel
theorem dX9_lay_1 : decode cX9_lay 1 = .ok (.iconst 1, 1) := by decide +kernel
theorem dX9_lay_2 : decode cX9_lay 2 = .ok (.putfield 15, 3) := by decide +kernel
theorem dX9_lay_5 : decode cX9_lay 5 = .ok (.aload_n 0, 1) := by decide +kernel
theorem dX9_lay_6 : decode cX9_lay 6 = .ok (.iload_n 1, 1) := by decide +kernel
theorem dX9_lay_7 : decode cX9_lay 7 = .ok (.putfield 19, 3) := by decide +kernel
theorem dX9_lay_10 : decode cX9_lay 10 = .ok (.aload_n 0, 1) := by decide +kernel
theorem dX9_lay_11 : decode cX9_lay 11 = .ok (.iload_n 2, 1) := by decide +kernel
theorem dX9_lay_12 : decode cX9_lay 12 = .ok (.putfield 23, 3) := by decide +kernel
theorem dX9_lay_15 : decode cX9_lay 15 = .ok (.iconst 0, 1) := by decide +kernel
theorem dX9_lay_16 : decode cX9_lay 16 = .ok (.istore_n 3, 1) := by decide +kernel
theorem dX9_lay_17 : decode cX9_lay 17 = .ok (.iload_n 3, 1) := by decide +kernel
theorem dX9_lay_18 : decode cX9_lay 18 = .ok (.bipush 40, 2) := by decide +kernel
theorem dX9_lay_20 : decode cX9_lay 20 = .ok (.if_icmp .ge 16, 3) := by decide +kernel
theorem dX9_lay_23 : decode cX9_lay 23 = .ok (.aload_n 0, 1) := by decide +kernel
theorem dX9_lay_24 : decode cX9_lay 24 = .ok (.getfield 9, 3) := by decide +kernel
theorem dX9_lay_27 : decode cX9_lay 27 = .ok (.iload_n 3, 1) := by decide +kernel
theorem dX9_lay_28 : decode cX9_lay 28 = .ok (.lconst 0, 1) := by decide +kernel
theorem dX9_lay_29 : decode cX9_lay 29 = .ok (.lastore, 1) := by decide +kernel
theorem dX9_lay_30 : decode cX9_lay 30 = .ok (.iinc 3 1, 3) := by decide +kernel
theorem dX9_lay_33 : decode cX9_lay 33 = .ok (.goto (-16), 3) := by decide +kernel
theorem dX9_lay_36 : decode cX9_lay 36 = .ok (.return_, 1) := by decide +kernel
set_option maxRecDepth 100000 in
set_option maxHeartbeats 4000000 in
theorem v_X9_lay_b17 {l : Launch} {p : Program} {e : Env} {s : State} {mt : MethodId} {args : Array Value} {below : List Frame} {meth : Method} {c : Code} {A : Nat → Prop} {ad0 : Nat → Nat} {G : Gt} {N : Nat} (C : Cx G p s mt args meth c RX9 cX9_lay 4 none "lay" A) (hN : 109 ≤ N) (a : Nat) (ha : isTray N a) : ∀ (n : Nat) (y3 : Int32) (m : Mem), V G SX oV l p e s mt args below meth c 4 1 A ad0 N N RX N RX 17 [(0, .ref a), (3, .int y3)] [] m (X9_lay_b17 a n y3 m) := by
  intro n
  induction n with
  | zero =>
    intro y3 m
    rw [X9_lay_b17]
    exact V.nil
  | succ n ih =>
    intro y3 m
    rw [X9_lay_b17]
    refine V.iload_n (pc := 17) C dX9_lay_17 1 rfl ?_
    refine V.bipush (pc := 18) C dX9_lay_18 (v := 40) (by decide) ?_
    refine V.icmp_ge (pc := 20) C dX9_lay_20 36 (by decide) (fun _ => ?_) (fun _ => ?_)
    · exact V.vret C dX9_lay_36
    · refine V.aload_n (pc := 23) C dX9_lay_23 0 rfl ?_
      refine V.getr (pc := 24) C fl_RX9_9 ha.s ha.k rfl ha.r3 dX9_lay_24 ?_
      refine V.iload_n (pc := 27) C dX9_lay_27 1 rfl ?_
      refine V.lconst (pc := 28) C dX9_lay_28 (v := 0) (by decide) ?_
      refine V.last (pc := 29) C ha.s1 ha.k1 dX9_lay_29 (fun _ => ?_)
      refine V.ltm (fun m_4 => ?_)
      refine V.iinc (pc := 30) C dX9_lay_30 (v := 1) (L2 := [(3, .int (y3 + 1)), (0, .ref a)]) 1 rfl (by decide) (by decide) rfl ?_
      refine V.goto (pc := 33) C dX9_lay_33 17 (by decide) ?_
      refine V.wk [1, 0] rfl ?_
      exact ih (y3 + 1) m_4
set_option maxRecDepth 100000 in
set_option maxHeartbeats 4000000 in
theorem v_X9_lay {l : Launch} {p : Program} {e : Env} {s : State} {mt : MethodId} {args : Array Value} {below : List Frame} {meth : Method} {c : Code} {A : Nat → Prop} {ad0 : Nat → Nat} {G : Gt} {N : Nat} (C : Cx G p s mt args meth c RX9 cX9_lay 4 none "lay" A) (hN : 109 ≤ N) (a : Nat) (ha : isTray N a) (x1 : Int32) (x2 : Int32) (m : Mem) : V G SX oV l p e s mt args below meth c 4 1 A ad0 N N RX N RX 0 [(0, .ref a), (1, .int x1), (2, .int x2)] [] m (X9_lay a x1 x2 m) := by
  rw [X9_lay]
  refine V.aload_n (pc := 0) C dX9_lay_0 0 rfl ?_
  refine V.iconst (pc := 1) C dX9_lay_1 (v := 1) (by decide) ?_
  refine V.putz (pc := 2) C fp_RX9_15 ha.s ha.k rfl (by decide) dX9_lay_2 ?_
  refine V.ltm (fun m_1 => ?_)
  refine V.aload_n (pc := 5) C dX9_lay_5 0 rfl ?_
  refine V.iload_n (pc := 6) C dX9_lay_6 1 rfl ?_
  refine V.puti (pc := 7) C fp_RX9_19 ha.s ha.k rfl dX9_lay_7 ?_
  refine V.ltm (fun m_2 => ?_)
  refine V.aload_n (pc := 10) C dX9_lay_10 0 rfl ?_
  refine V.iload_n (pc := 11) C dX9_lay_11 2 rfl ?_
  refine V.puti (pc := 12) C fp_RX9_23 ha.s ha.k rfl dX9_lay_12 ?_
  refine V.ltm (fun m_3 => ?_)
  refine V.iconst (pc := 15) C dX9_lay_15 (v := 0) (by decide) ?_
  refine V.istore_n (pc := 16) C dX9_lay_16 (L2 := [(3, .int 0), (0, .ref a), (1, .int x1), (2, .int x2)]) (by decide) rfl ?_
  refine V.wk [1, 0] rfl ?_
  exact v_X9_lay_b17 C hN a ha FU 0 m_3
theorem c_X9_lay (l : Launch) {N : Nat} (hN : 109 ≤ N) (a : Nat) (ha : isTray N a) (x1 : Int32) (x2 : Int32) (m : Mem) : Ct l yX9_lay cX9_lay 4 none 1 SX oV N N RX RX [.ref a, .int x1, .int x2] m (X9_lay a x1 x2 m) :=
  Ct.of (own := RX9) (nm := "lay") (by decide) rfl rfl (Nat.le_of_ble_eq_true rfl) (fun _ _ _ _ _ _ _ _ _ _ _ C => v_X9_lay C hN a ha x1 x2 m)
theorem dX11_numbers_0 : decode cX11_numbers 0 = .ok (.iload_n 1, 1) := by decide +kernel
theorem dX11_numbers_1 : decode cX11_numbers 1 = .ok (.invokestatic 223, 3) := by decide +kernel
theorem dX11_numbers_4 : decode cX11_numbers 4 = .ok (.ifCond .eq 12, 3) := by decide +kernel
theorem dX11_numbers_7 : decode cX11_numbers 7 = .ok (.iload_n 2, 1) := by decide +kernel
theorem dX11_numbers_8 : decode cX11_numbers 8 = .ok (.ifCond .lt 8, 3) := by decide +kernel
theorem dX11_numbers_11 : decode cX11_numbers 11 = .ok (.iload_n 2, 1) := by decide +kernel
theorem dX11_numbers_12 : decode cX11_numbers 12 = .ok (.iconst 3, 1) := by decide +kernel
theorem dX11_numbers_13 : decode cX11_numbers 13 = .ok (.if_icmp .le 6, 3) := by decide +kernel
theorem dX11_numbers_16 : decode cX11_numbers 16 = .ok (.bipush (-2), 2) := by decide +kernel
theorem dX11_numbers_18 : decode cX11_numbers 18 = .ok (.ireturn, 1) := by decide +kernel
theorem dX11_numbers_19 : decode cX11_numbers 19 = .ok (.iload_n 3, 1) := by decide +kernel
theorem dX11_numbers_20 : decode cX11_numbers 20 = .ok (.ifCond .lt 9, 3) := by decide +kernel
theorem dX11_numbers_23 : decode cX11_numbers 23 = .ok (.iload_n 3, 1) := by decide +kernel
theorem dX11_numbers_24 : decode cX11_numbers 24 = .ok (.bipush 40, 2) := by decide +kernel
theorem dX11_numbers_26 : decode cX11_numbers 26 = .ok (.if_icmp .le 6, 3) := by decide +kernel
theorem dX11_numbers_29 : decode cX11_numbers 29 = .ok (.bipush (-3), 2) := by decide +kernel
theorem dX11_numbers_31 : decode cX11_numbers 31 = .ok (.ireturn, 1) := by decide +kernel
theorem dX11_numbers_32 : decode cX11_numbers 32 = .ok (.aload_n 0, 1) := by decide +kernel
theorem dX11_numbers_33 : decode cX11_numbers 33 = .ok (.getfield 79, 3) := by decide +kernel
theorem dX11_numbers_36 : decode cX11_numbers 36 = .ok (.iload_n 1, 1) := by decide +kernel
theorem dX11_numbers_37 : decode cX11_numbers 37 = .ok (.aaload, 1) := by decide +kernel
theorem dX11_numbers_38 : decode cX11_numbers 38 = .ok (.iload_n 2, 1) := by decide +kernel
theorem dX11_numbers_39 : decode cX11_numbers 39 = .ok (.iload_n 3, 1) := by decide +kernel
theorem dX11_numbers_40 : decode cX11_numbers 40 = .ok (.invokevirtual 341, 3) := by decide +kernel
theorem dX11_numbers_43 : decode cX11_numbers 43 = .ok (.iconst 0, 1) := by decide +kernel
theorem dX11_numbers_44 : decode cX11_numbers 44 = .ok (.ireturn, 1) := by decide +kernel
set_option maxRecDepth 100000 in
set_option maxHeartbeats 4000000 in
theorem v_X11_numbers {l : Launch} {p : Program} {e : Env} {s : State} {mt : MethodId} {args : Array Value} {below : List Frame} {meth : Method} {c : Code} {A : Nat → Prop} {ad0 : Nat → Nat} {G : Gt} {N : Nat} (C : Cx G p s mt args meth c RX11 cX11_numbers 4 (some .int) "numbers" A) (hN : 109 ≤ N) (x1 : Int32) (x2 : Int32) (x3 : Int32) (m : Mem) : V G SX oI l p e s mt args below meth c 4 2 A ad0 N N RX N RX 0 [(0, .ref 0), (1, .int x1), (2, .int x2), (3, .int x3)] [] m (X11_numbers  x1 x2 x3 m) := by
  rw [X11_numbers]
  refine V.iload_n (pc := 0) C dX11_numbers_0 1 rfl ?_
  refine V.callS (pc := 1) (st := []) C (c_X11_isTray l hN x1 m) obI ck_X11_isTray ml_RX11_223 rfl rfl (Nat.le_of_ble_eq_true rfl) ⟨by decide, by decide⟩ dX11_numbers_1 (fun r_1 m_2 _ => ?_)
  refine V.if_eq (pc := 4) C dX11_numbers_4 16 (by decide) (fun _ => ?_) (fun _ => ?_)
  · refine V.bipush (pc := 16) C dX11_numbers_16 (v := (-2)) (by decide) ?_
    exact V.iret C dX11_numbers_18
  · refine V.iload_n (pc := 7) C dX11_numbers_7 2 rfl ?_
    refine V.if_lt (pc := 8) C dX11_numbers_8 16 (by decide) (fun _ => ?_) (fun _ => ?_)
    · refine V.bipush (pc := 16) C dX11_numbers_16 (v := (-2)) (by decide) ?_
      exact V.iret C dX11_numbers_18
    · refine V.iload_n (pc := 11) C dX11_numbers_11 2 rfl ?_
      refine V.iconst (pc := 12) C dX11_numbers_12 (v := 3) (by decide) ?_
      refine V.icmp_le (pc := 13) C dX11_numbers_13 19 (by decide) (fun _ => ?_) (fun _ => ?_)
      · refine V.iload_n (pc := 19) C dX11_numbers_19 3 rfl ?_
        refine V.if_lt (pc := 20) C dX11_numbers_20 29 (by decide) (fun _ => ?_) (fun _ => ?_)
        · refine V.bipush (pc := 29) C dX11_numbers_29 (v := (-3)) (by decide) ?_
          exact V.iret C dX11_numbers_31
        · refine V.iload_n (pc := 23) C dX11_numbers_23 3 rfl ?_
          refine V.bipush (pc := 24) C dX11_numbers_24 (v := 40) (by decide) ?_
          refine V.icmp_le (pc := 26) C dX11_numbers_26 32 (by decide) (fun _ => ?_) (fun _ => ?_)
          · refine V.aload_n (pc := 32) C dX11_numbers_32 0 rfl ?_
            refine V.getr (pc := 33) C fl_RX11_79 sX0 (kX0 hN) rfl rX0_12 dX11_numbers_33 ?_
            refine V.iload_n (pc := 36) C dX11_numbers_36 1 rfl ?_
            refine V.aald (pc := 37) (f := fun j => 100 + 2 * j) C sX99 (Or.inr rfl) (kX99 hN) rTrays dX11_numbers_37 (fun h_4 => ?_)
            refine V.ltr (fun b_3 eb_3 => ?_)
            have hb_3 : isTray N b_3 := by rw [eb_3]; exact trayAt hN h_4
            refine V.iload_n (pc := 38) C dX11_numbers_38 2 rfl ?_
            refine V.iload_n (pc := 39) C dX11_numbers_39 3 rfl ?_
            refine V.callV (pc := 40) (st := []) C (c_X9_lay l hN b_3 hb_3 x2 x3 m_2) obV ck_X9_lay ml_RX11_341 rfl rfl hb_3.s hb_3.k rfl rfl (Nat.le_of_ble_eq_true rfl) ⟨by decide, by decide⟩ dX11_numbers_40 (fun r_5 m_6 _ => ?_)
            refine V.iconst (pc := 43) C dX11_numbers_43 (v := 0) (by decide) ?_
            exact V.iret C dX11_numbers_44
          · refine V.bipush (pc := 29) C dX11_numbers_29 (v := (-3)) (by decide) ?_
            exact V.iret C dX11_numbers_31
      · refine V.bipush (pc := 16) C dX11_numbers_16 (v := (-2)) (by decide) ?_
        exact V.iret C dX11_numbers_18
theorem c_X11_numbers (l : Launch) {N : Nat} (hN : 109 ≤ N) (x1 : Int32) (x2 : Int32) (x3 : Int32) (m : Mem) : Ct l yX11_numbers cX11_numbers 4 (some .int) 2 SX oI N N RX RX [.ref 0, .int x1, .int x2, .int x3] m (X11_numbers  x1 x2 x3 m) :=
  Ct.of (own := RX11) (nm := "numbers") (by decide) rfl rfl (Nat.le_of_ble_eq_true rfl) (fun _ _ _ _ _ _ _ _ _ _ _ C => v_X11_numbers C hN x1 x2 x3 m)
theorem dX11_pair_0 : decode cX11_pair 0 = .ok (.aload_n 0, 1) := by decide +kernel
theorem dX11_pair_1 : decode cX11_pair 1 = .ok (.getfield 38, 3) := by decide +kernel
theorem dX11_pair_4 : decode cX11_pair 4 = .ok (.iload_n 1, 1) := by decide +kernel
theorem dX11_pair_5 : decode cX11_pair 5 = .ok (.iload_n 2, 1) := by decide +kernel
theorem dX11_pair_6 : decode cX11_pair 6 = .ok (.invokevirtual 163, 3) := by decide +kernel
theorem dX11_pair_9 : decode cX11_pair 9 = .ok (.ifCond .eq 12, 3) := by decide +kernel
theorem dX11_pair_12 : decode cX11_pair 12 = .ok (.iload_n 3, 1) := by decide +kernel
theorem dX11_pair_13 : decode cX11_pair 13 = .ok (.ifCond .lt 8, 3) := by decide +kernel
theorem dX11_pair_16 : decode cX11_pair 16 = .ok (.iload_n 3, 1) := by decide +kernel
theorem dX11_pair_17 : decode cX11_pair 17 = .ok (.iconst 5, 1) := by decide +kernel
theorem dX11_pair_18 : decode cX11_pair 18 = .ok (.if_icmp .le 6, 3) := by decide +kernel
theorem dX11_pair_21 : decode cX11_pair 21 = .ok (.bipush (-8), 2) := by decide +kernel
theorem dX11_pair_23 : decode cX11_pair 23 = .ok (.ireturn, 1) := by decide +kernel
theorem dX11_pair_24 : decode cX11_pair 24 = .ok (.iload_n 3, 1) := by decide +kernel
theorem dX11_pair_25 : decode cX11_pair 25 = .ok (.iconst 5, 1) := by decide +kernel
theorem dX11_pair_26 : decode cX11_pair 26 = .ok (.if_icmp .ne 29, 3) := by decide +kernel
theorem dX11_pair_29 : decode cX11_pair 29 = .ok (.aload_n 0, 1) := by decide +kernel
theorem dX11_pair_30 : decode cX11_pair 30 = .ok (.getfield 38, 3) := by decide +kernel
theorem dX11_pair_33 : decode cX11_pair 33 = .ok (.getfield 108, 3) := by decide +kernel
theorem dX11_pair_36 : decode cX11_pair 36 = .ok (.getfield 134, 3) := by decide +kernel
theorem dX11_pair_39 : decode cX11_pair 39 = .ok (.iload_n 1, 1) := by decide +kernel
theorem dX11_pair_40 : decode cX11_pair 40 = .ok (.iaload, 1) := by decide +kernel
theorem dX11_pair_41 : decode cX11_pair 41 = .ok (.aload_n 0, 1) := by decide +kernel
theorem dX11_pair_42 : decode cX11_pair 42 = .ok (.getfield 38, 3) := by decide +kernel
theorem dX11_pair_45 : decode cX11_pair 45 = .ok (.getfield 108, 3) := by decide +kernel
theorem dX11_pair_48 : decode cX11_pair 48 = .ok (.getfield 134, 3) := by decide +kernel
theorem dX11_pair_51 : decode cX11_pair 51 = .ok (.iload_n 2, 1) := by decide +kernel
theorem dX11_pair_52 : decode cX11_pair 52 = .ok (.iaload, 1) := by decide +kernel
theorem dX11_pair_53 : decode cX11_pair 53 = .ok (.iand, 1) := by decide +kernel
theorem dX11_pair_54 : decode cX11_pair 54 = .ok (.ireturn, 1) := by decide +kernel
theorem dX11_pair_55 : decode cX11_pair 55 = .ok (.aload_n 0, 1) := by decide +kernel
theorem dX11_pair_56 : decode cX11_pair 56 = .ok (.getfield 38, 3) := by decide +kernel
theorem dX11_pair_59 : decode cX11_pair 59 = .ok (.iload_n 1, 1) := by decide +kernel
theorem dX11_pair_60 : decode cX11_pair 60 = .ok (.iload_n 2, 1) := by decide +kernel
theorem dX11_pair_61 : decode cX11_pair 61 = .ok (.aload_n 0, 1) := by decide +kernel
theorem dX11_pair_62 : decode cX11_pair 62 = .ok (.getfield 38, 3) := by decide +kernel
theorem dX11_pair_65 : decode cX11_pair 65 = .ok (.getfield 108, 3) := by decide +kernel
theorem dX11_pair_68 : decode cX11_pair 68 = .ok (.getfield 134, 3) := by decide +kernel
theorem dX11_pair_71 : decode cX11_pair 71 = .ok (.iload_n 1, 1) := by decide +kernel
theorem dX11_pair_72 : decode cX11_pair 72 = .ok (.iaload, 1) := by decide +kernel
theorem dX11_pair_73 : decode cX11_pair 73 = .ok (.aload_n 0, 1) := by decide +kernel
theorem dX11_pair_74 : decode cX11_pair 74 = .ok (.getfield 38, 3) := by decide +kernel
theorem dX11_pair_77 : decode cX11_pair 77 = .ok (.getfield 108, 3) := by decide +kernel
theorem dX11_pair_80 : decode cX11_pair 80 = .ok (.getfield 134, 3) := by decide +kernel
theorem dX11_pair_83 : decode cX11_pair 83 = .ok (.iload_n 2, 1) := by decide +kernel
theorem dX11_pair_84 : decode cX11_pair 84 = .ok (.iaload, 1) := by decide +kernel
theorem dX11_pair_85 : decode cX11_pair 85 = .ok (.invokevirtual 166, 3) := by decide +kernel
theorem dX11_pair_88 : decode cX11_pair 88 = .ok (.aload_n 0, 1) := by decide +kernel
theorem dX11_pair_89 : decode cX11_pair 89 = .ok (.getfield 38, 3) := by decide +kernel
theorem dX11_pair_92 : decode cX11_pair 92 = .ok (.getfield 170, 3) := by decide +kernel
theorem dX11_pair_95 : decode cX11_pair 95 = .ok (.getfield 174, 3) := by decide +kernel
theorem dX11_pair_98 : decode cX11_pair 98 = .ok (.iload_n 3, 1) := by decide +kernel
theorem dX11_pair_99 : decode cX11_pair 99 = .ok (.iaload, 1) := by decide +kernel
theorem dX11_pair_100 : decode cX11_pair 100 = .ok (.ireturn, 1) := by decide +kernel
set_option maxRecDepth 100000 in
set_option maxHeartbeats 4000000 in
theorem v_X11_pair {l : Launch} {p : Program} {e : Env} {s : State} {mt : MethodId} {args : Array Value} {below : List Frame} {meth : Method} {c : Code} {A : Nat → Prop} {ad0 : Nat → Nat} {G : Gt} {N : Nat} (C : Cx G p s mt args meth c RX11 cX11_pair 4 (some .int) "pair" A) (hN : 109 ≤ N) (x1 : Int32) (x2 : Int32) (x3 : Int32) (m : Mem) : V G SX oI l p e s mt args below meth c 4 3 A ad0 N N RX N RX 0 [(0, .ref 0), (1, .int x1), (2, .int x2), (3, .int x3)] [] m (X11_pair  x1 x2 x3 m) := by
  rw [X11_pair]
  refine V.aload_n (pc := 0) C dX11_pair_0 0 rfl ?_
  refine V.getr (pc := 1) C fl_RX11_38 sX0 (kX0 hN) rfl rX0_6 dX11_pair_1 ?_
  refine V.iload_n (pc := 4) C dX11_pair_4 1 rfl ?_
  refine V.iload_n (pc := 5) C dX11_pair_5 2 rfl ?_
  refine V.callV (pc := 6) (st := []) C (c_X10_areTwo l hN 25 (iX25 hN) x1 x2 m) obI ck_X10_areTwo ml_RX11_163 rfl rfl sX25 (kX25 hN) rfl rfl (Nat.le_of_ble_eq_true rfl) ⟨by decide, by decide⟩ dX11_pair_6 (fun r_1 m_2 _ => ?_)
  refine V.if_eq (pc := 9) C dX11_pair_9 21 (by decide) (fun _ => ?_) (fun _ => ?_)
  · refine V.bipush (pc := 21) C dX11_pair_21 (v := (-8)) (by decide) ?_
    exact V.iret C dX11_pair_23
  · refine V.iload_n (pc := 12) C dX11_pair_12 3 rfl ?_
    refine V.if_lt (pc := 13) C dX11_pair_13 21 (by decide) (fun _ => ?_) (fun _ => ?_)
    · refine V.bipush (pc := 21) C dX11_pair_21 (v := (-8)) (by decide) ?_
      exact V.iret C dX11_pair_23
    · refine V.iload_n (pc := 16) C dX11_pair_16 3 rfl ?_
      refine V.iconst (pc := 17) C dX11_pair_17 (v := 5) (by decide) ?_
      refine V.icmp_le (pc := 18) C dX11_pair_18 24 (by decide) (fun _ => ?_) (fun _ => ?_)
      · refine V.iload_n (pc := 24) C dX11_pair_24 3 rfl ?_
        refine V.iconst (pc := 25) C dX11_pair_25 (v := 5) (by decide) ?_
        refine V.icmp_ne (pc := 26) C dX11_pair_26 55 (by decide) (fun _ => ?_) (fun _ => ?_)
        · refine V.aload_n (pc := 55) C dX11_pair_55 0 rfl ?_
          refine V.getr (pc := 56) C fl_RX11_38 sX0 (kX0 hN) rfl rX0_6 dX11_pair_56 ?_
          refine V.iload_n (pc := 59) C dX11_pair_59 1 rfl ?_
          refine V.iload_n (pc := 60) C dX11_pair_60 2 rfl ?_
          refine V.aload_n (pc := 61) C dX11_pair_61 0 rfl ?_
          refine V.getr (pc := 62) C fl_RX11_38 sX0 (kX0 hN) rfl rX0_6 dX11_pair_62 ?_
          refine V.getr (pc := 65) C fl_RX11_108 sX25 (kX25 hN) rfl rX25_2 dX11_pair_65 ?_
          refine V.getr (pc := 68) C fl_RX11_134 sX26 (kX26 hN) rfl rX26_3 dX11_pair_68 ?_
          refine V.iload_n (pc := 71) C dX11_pair_71 1 rfl ?_
          refine V.iald (pc := 72) C sX29 (kX29 hN) dX11_pair_72 (fun _ => ?_)
          refine V.aload_n (pc := 73) C dX11_pair_73 0 rfl ?_
          refine V.getr (pc := 74) C fl_RX11_38 sX0 (kX0 hN) rfl rX0_6 dX11_pair_74 ?_
          refine V.getr (pc := 77) C fl_RX11_108 sX25 (kX25 hN) rfl rX25_2 dX11_pair_77 ?_
          refine V.getr (pc := 80) C fl_RX11_134 sX26 (kX26 hN) rfl rX26_3 dX11_pair_80 ?_
          refine V.iload_n (pc := 83) C dX11_pair_83 2 rfl ?_
          refine V.iald (pc := 84) C sX29 (kX29 hN) dX11_pair_84 (fun _ => ?_)
          refine V.callV (pc := 85) (st := []) C (c_X10_measure l hN 25 (iX25 hN) x1 x2 (gi m_2 29 (ix x1)) (gi m_2 29 (ix x2)) m_2) obV ck_X10_measure ml_RX11_166 rfl rfl sX25 (kX25 hN) rfl rfl (Nat.le_of_ble_eq_true rfl) ⟨by decide, by decide⟩ dX11_pair_85 (fun r_3 m_4 _ => ?_)
          refine V.aload_n (pc := 88) C dX11_pair_88 0 rfl ?_
          refine V.getr (pc := 89) C fl_RX11_38 sX0 (kX0 hN) rfl rX0_6 dX11_pair_89 ?_
          refine V.getr (pc := 92) C fl_RX11_170 sX25 (kX25 hN) rfl rX25_1 dX11_pair_92 ?_
          refine V.getr (pc := 95) C fl_RX11_174 sX22 (kX22 hN) rfl rX22_0 dX11_pair_95 ?_
          refine V.iload_n (pc := 98) C dX11_pair_98 3 rfl ?_
          refine V.iald (pc := 99) C sX23 (kX23 hN) dX11_pair_99 (fun _ => ?_)
          exact V.iret C dX11_pair_100
        · refine V.aload_n (pc := 29) C dX11_pair_29 0 rfl ?_
          refine V.getr (pc := 30) C fl_RX11_38 sX0 (kX0 hN) rfl rX0_6 dX11_pair_30 ?_
          refine V.getr (pc := 33) C fl_RX11_108 sX25 (kX25 hN) rfl rX25_2 dX11_pair_33 ?_
          refine V.getr (pc := 36) C fl_RX11_134 sX26 (kX26 hN) rfl rX26_3 dX11_pair_36 ?_
          refine V.iload_n (pc := 39) C dX11_pair_39 1 rfl ?_
          refine V.iald (pc := 40) C sX29 (kX29 hN) dX11_pair_40 (fun _ => ?_)
          refine V.aload_n (pc := 41) C dX11_pair_41 0 rfl ?_
          refine V.getr (pc := 42) C fl_RX11_38 sX0 (kX0 hN) rfl rX0_6 dX11_pair_42 ?_
          refine V.getr (pc := 45) C fl_RX11_108 sX25 (kX25 hN) rfl rX25_2 dX11_pair_45 ?_
          refine V.getr (pc := 48) C fl_RX11_134 sX26 (kX26 hN) rfl rX26_3 dX11_pair_48 ?_
          refine V.iload_n (pc := 51) C dX11_pair_51 2 rfl ?_
          refine V.iald (pc := 52) C sX29 (kX29 hN) dX11_pair_52 (fun _ => ?_)
          refine V.iand (pc := 53) C dX11_pair_53 ?_
          exact V.iret C dX11_pair_54
      · refine V.bipush (pc := 21) C dX11_pair_21 (v := (-8)) (by decide) ?_
        exact V.iret C dX11_pair_23
theorem c_X11_pair (l : Launch) {N : Nat} (hN : 109 ≤ N) (x1 : Int32) (x2 : Int32) (x3 : Int32) (m : Mem) : Ct l yX11_pair cX11_pair 4 (some .int) 3 SX oI N N RX RX [.ref 0, .int x1, .int x2, .int x3] m (X11_pair  x1 x2 x3 m) :=
  Ct.of (own := RX11) (nm := "pair") (by decide) rfl rfl (Nat.le_of_ble_eq_true rfl) (fun _ _ _ _ _ _ _ _ _ _ _ C => v_X11_pair C hN x1 x2 x3 m)
