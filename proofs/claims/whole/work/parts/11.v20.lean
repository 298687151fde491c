theorem dX12_fib_0 : decode cX12_fib 0 = .ok (.aload_n 0, 1) := by decide +kernel
theorem dX12_fib_1 : decode cX12_fib 1 = .ok (.iconst 0, 1) := by decide +kernel
theorem dX12_fib_2 : decode cX12_fib 2 = .ok (.putfield 1, 3) := by decide +kernel
theorem dX12_fib_5 : decode cX12_fib 5 = .ok (.aload_n 0, 1) := by decide +kernel
theorem dX12_fib_6 : decode cX12_fib 6 = .ok (.iload_n 1, 1) := by decide +kernel
theorem dX12_fib_7 : decode cX12_fib 7 = .ok (.i2l, 1) := by decide +kernel
theorem dX12_fib_8 : decode cX12_fib 8 = .ok (.iload_n 2, 1) := by decide +kernel
theorem dX12_fib_9 : decode cX12_fib 9 = .ok (.i2l, 1) := by decide +kernel
theorem dX12_fib_10 : decode cX12_fib 10 = .ok (.invokevirtual 234, 3) := by decide +kernel
theorem dX12_fib_13 : decode cX12_fib 13 = .ok (.ifCond .eq 13, 3) := by decide +kernel
theorem dX12_fib_16 : decode cX12_fib 16 = .ok (.iload_n 3, 1) := by decide +kernel
theorem dX12_fib_17 : decode cX12_fib 17 = .ok (.i2l, 1) := by decide +kernel
theorem dX12_fib_18 : decode cX12_fib 18 = .ok (.lconst 0, 1) := by decide +kernel
theorem dX12_fib_19 : decode cX12_fib 19 = .ok (.lconst 1, 1) := by decide +kernel
theorem dX12_fib_20 : decode cX12_fib 20 = .ok (.invokestatic 133, 3) := by decide +kernel
theorem dX12_fib_23 : decode cX12_fib 23 = .ok (.ifCond .ne 6, 3) := by decide +kernel
theorem dX12_fib_26 : decode cX12_fib 26 = .ok (.bipush (-2), 2) := by decide +kernel
theorem dX12_fib_28 : decode cX12_fib 28 = .ok (.ireturn, 1) := by decide +kernel
theorem dX12_fib_29 : decode cX12_fib 29 = .ok (.aload_n 0, 1) := by decide +kernel
theorem dX12_fib_30 : decode cX12_fib 30 = .ok (.iload_n 1, 1) := by decide +kernel
theorem dX12_fib_31 : decode cX12_fib 31 = .ok (.invokevirtual 207, 3) := by decide +kernel
theorem dX12_fib_34 : decode cX12_fib 34 = .ok (.istore 4, 2) := by decide +kernel
theorem dX12_fib_36 : decode cX12_fib 36 = .ok (.iconst (-1), 1) := by decide +kernel
theorem dX12_fib_37 : decode cX12_fib 37 = .ok (.istore 5, 2) := by decide +kernel
theorem dX12_fib_39 : decode cX12_fib 39 = .ok (.aload_n 0, 1) := by decide +kernel
theorem dX12_fib_40 : decode cX12_fib 40 = .ok (.invokevirtual 361, 3) := by decide +kernel
theorem dX12_fib_43 : decode cX12_fib 43 = .ok (.iconst 0, 1) := by decide +kernel
theorem dX12_fib_44 : decode cX12_fib 44 = .ok (.istore 6, 2) := by decide +kernel
theorem dX12_fib_46 : decode cX12_fib 46 = .ok (.iload 6, 2) := by decide +kernel
theorem dX12_fib_48 : decode cX12_fib 48 = .ok (.iconst 1, 1) := by decide +kernel
theorem dX12_fib_49 : decode cX12_fib 49 = .ok (.aload_n 0, 1) := by decide +kernel
theorem dX12_fib_50 : decode cX12_fib 50 = .ok (.getfield 13, 3) := by decide +kernel
theorem dX12_fib_53 : decode cX12_fib 53 = .ok (.iconst 1, 1) := by decide +kernel
theorem dX12_fib_54 : decode cX12_fib 54 = .ok (.iaload, 1) := by decide +kernel
theorem dX12_fib_55 : decode cX12_fib 55 = .ok (.ishl, 1) := by decide +kernel
theorem dX12_fib_56 : decode cX12_fib 56 = .ok (.if_icmp .ge 109, 3) := by decide +kernel
theorem dX12_fib_59 : decode cX12_fib 59 = .ok (.iload 6, 2) := by decide +kernel
theorem dX12_fib_61 : decode cX12_fib 61 = .ok (.iload 4, 2) := by decide +kernel
theorem dX12_fib_63 : decode cX12_fib 63 = .ok (.iand, 1) := by decide +kernel
theorem dX12_fib_64 : decode cX12_fib 64 = .ok (.ifCond .ne 95, 3) := by decide +kernel
theorem dX12_fib_67 : decode cX12_fib 67 = .ok (.iload 5, 2) := by decide +kernel
theorem dX12_fib_69 : decode cX12_fib 69 = .ok (.iconst (-1), 1) := by decide +kernel
theorem dX12_fib_70 : decode cX12_fib 70 = .ok (.if_icmp .eq 19, 3) := by decide +kernel
theorem dX12_fib_73 : decode cX12_fib 73 = .ok (.iload 6, 2) := by decide +kernel
theorem dX12_fib_75 : decode cX12_fib 75 = .ok (.invokestatic 201, 3) := by decide +kernel
theorem dX12_fib_78 : decode cX12_fib 78 = .ok (.iload 5, 2) := by decide +kernel
theorem dX12_fib_80 : decode cX12_fib 80 = .ok (.invokestatic 201, 3) := by decide +kernel
theorem dX12_fib_83 : decode cX12_fib 83 = .ok (.if_icmp .lt 6, 3) := by decide +kernel
theorem dX12_fib_86 : decode cX12_fib 86 = .ok (.goto 73, 3) := by decide +kernel
theorem dX12_fib_89 : decode cX12_fib 89 = .ok (.iconst 0, 1) := by decide +kernel
theorem dX12_fib_90 : decode cX12_fib 90 = .ok (.istore 7, 2) := by decide +kernel
theorem dX12_fib_92 : decode cX12_fib 92 = .ok (.iload 7, 2) := by decide +kernel
theorem dX12_fib_94 : decode cX12_fib 94 = .ok (.aload_n 0, 1) := by decide +kernel
theorem dX12_fib_95 : decode cX12_fib 95 = .ok (.getfield 13, 3) := by decide +kernel
theorem dX12_fib_98 : decode cX12_fib 98 = .ok (.iconst 1, 1) := by decide +kernel
theorem dX12_fib_99 : decode cX12_fib 99 = .ok (.iaload, 1) := by decide +kernel
theorem dX12_fib_100 : decode cX12_fib 100 = .ok (.if_icmp .ge 36, 3) := by decide +kernel
theorem dX12_fib_103 : decode cX12_fib 103 = .ok (.iload 6, 2) := by decide +kernel
theorem dX12_fib_105 : decode cX12_fib 105 = .ok (.i2l, 1) := by decide +kernel
theorem dX12_fib_106 : decode cX12_fib 106 = .ok (.iload 7, 2) := by decide +kernel
theorem dX12_fib_108 : decode cX12_fib 108 = .ok (.invokestatic 175, 3) := by decide +kernel
theorem dX12_fib_111 : decode cX12_fib 111 = .ok (.ifCond .eq 19, 3) := by decide +kernel
theorem dX12_fib_114 : decode cX12_fib 114 = .ok (.aload_n 0, 1) := by decide +kernel
theorem dX12_fib_115 : decode cX12_fib 115 = .ok (.getfield 13, 3) := by decide +kernel
theorem dX12_fib_118 : decode cX12_fib 118 = .ok (.bipush 41, 2) := by decide +kernel
theorem dX12_fib_120 : decode cX12_fib 120 = .ok (.bipush 14, 2) := by decide +kernel
theorem dX12_fib_122 : decode cX12_fib 122 = .ok (.iload_n 1, 1) := by decide +kernel
theorem dX12_fib_123 : decode cX12_fib 123 = .ok (.imul, 1) := by decide +kernel
theorem dX12_fib_124 : decode cX12_fib 124 = .ok (.iadd, 1) := by decide +kernel
theorem dX12_fib_125 : decode cX12_fib 125 = .ok (.iload 7, 2) := by decide +kernel
theorem dX12_fib_127 : decode cX12_fib 127 = .ok (.iadd, 1) := by decide +kernel
theorem dX12_fib_128 : decode cX12_fib 128 = .ok (.iconst 0, 1) := by decide +kernel
theorem dX12_fib_129 : decode cX12_fib 129 = .ok (.iastore, 1) := by decide +kernel
theorem dX12_fib_130 : decode cX12_fib 130 = .ok (.iinc 7 1, 3) := by decide +kernel
theorem dX12_fib_133 : decode cX12_fib 133 = .ok (.goto (-41), 3) := by decide +kernel
theorem dX12_fib_136 : decode cX12_fib 136 = .ok (.aload_n 0, 1) := by decide +kernel
theorem dX12_fib_137 : decode cX12_fib 137 = .ok (.iload_n 1, 1) := by decide +kernel
theorem dX12_fib_138 : decode cX12_fib 138 = .ok (.iload_n 2, 1) := by decide +kernel
theorem dX12_fib_139 : decode cX12_fib 139 = .ok (.invokevirtual 240, 3) := by decide +kernel
theorem dX12_fib_142 : decode cX12_fib 142 = .ok (.aload_n 0, 1) := by decide +kernel
theorem dX12_fib_143 : decode cX12_fib 143 = .ok (.getfield 13, 3) := by decide +kernel
theorem dX12_fib_146 : decode cX12_fib 146 = .ok (.iconst 3, 1) := by decide +kernel
theorem dX12_fib_147 : decode cX12_fib 147 = .ok (.iaload, 1) := by decide +kernel
theorem dX12_fib_148 : decode cX12_fib 148 = .ok (.if_icmp .lt 7, 3) := by decide +kernel
theorem dX12_fib_151 : decode cX12_fib 151 = .ok (.iload 6, 2) := by decide +kernel
theorem dX12_fib_153 : decode cX12_fib 153 = .ok (.istore 5, 2) := by decide +kernel
theorem dX12_fib_155 : decode cX12_fib 155 = .ok (.aload_n 0, 1) := by decide +kernel
theorem dX12_fib_156 : decode cX12_fib 156 = .ok (.invokevirtual 364, 3) := by decide +kernel
theorem dX12_fib_159 : decode cX12_fib 159 = .ok (.iinc 6 1, 3) := by decide +kernel
theorem dX12_fib_162 : decode cX12_fib 162 = .ok (.goto (-116), 3) := by decide +kernel
theorem dX12_fib_165 : decode cX12_fib 165 = .ok (.iload 5, 2) := by decide +kernel
theorem dX12_fib_167 : decode cX12_fib 167 = .ok (.iconst (-1), 1) := by decide +kernel
theorem dX12_fib_168 : decode cX12_fib 168 = .ok (.if_icmp .eq 8, 3) := by decide +kernel
theorem dX12_fib_171 : decode cX12_fib 171 = .ok (.iload_n 3, 1) := by decide +kernel
theorem dX12_fib_172 : decode cX12_fib 172 = .ok (.iconst 1, 1) := by decide +kernel
theorem dX12_fib_173 : decode cX12_fib 173 = .ok (.if_icmp .ne 8, 3) := by decide +kernel
theorem dX12_fib_176 : decode cX12_fib 176 = .ok (.iload 5, 2) := by decide +kernel
theorem dX12_fib_178 : decode cX12_fib 178 = .ok (.goto 8, 3) := by decide +kernel
theorem dX12_fib_181 : decode cX12_fib 181 = .ok (.iload 5, 2) := by decide +kernel
theorem dX12_fib_183 : decode cX12_fib 183 = .ok (.invokestatic 201, 3) := by decide +kernel
theorem dX12_fib_186 : decode cX12_fib 186 = .ok (.ireturn, 1) := by decide +kernel
set_option maxRecDepth 100000 in
set_option maxHeartbeats 4000000 in
theorem v_X12_fib_b92 {l : Launch} {p : Program} {e : Env} {s : State} {mt : MethodId} {args : Array Value} {below : List Frame} {meth : Method} {c : Code} {A : Nat → Prop} {ad0 : Nat → Nat} {G : Gt}  (C : Cx G p s mt args meth c RX12 cX12_fib 8 (some .int) "fib" A) (k46 : Int32 → Int32 → Int32 → Int32 → Int32 → Int32 → Mem → Option (Int32 × Mem)) (h46 : ∀ (y1 : Int32) (y2 : Int32) (y3 : Int32) (y4 : Int32) (y5 : Int32) (y6 : Int32) (m : Mem), V G SM oI l p e s mt args below meth c 8 6 A ad0 17 17 RM 17 RM 46 [(0, .ref 0), (1, .int y1), (2, .int y2), (3, .int y3), (4, .int y4), (5, .int y5), (6, .int y6)] [] m (k46 y1 y2 y3 y4 y5 y6 m)) : ∀ (n : Nat) (y1 : Int32) (y2 : Int32) (y3 : Int32) (y4 : Int32) (y5 : Int32) (y6 : Int32) (y7 : Int32) (m : Mem), V G SM oI l p e s mt args below meth c 8 6 A ad0 17 17 RM 17 RM 92 [(0, .ref 0), (1, .int y1), (2, .int y2), (3, .int y3), (4, .int y4), (5, .int y5), (6, .int y6), (7, .int y7)] [] m (X12_fib_b92 k46 n y1 y2 y3 y4 y5 y6 y7 m) := by
  intro n
  induction n with
  | zero =>
    intro y1 y2 y3 y4 y5 y6 y7 m
    rw [X12_fib_b92]
    exact V.nil
  | succ n ih =>
    intro y1 y2 y3 y4 y5 y6 y7 m
    rw [X12_fib_b92]
    refine V.iload (pc := 92) C dX12_fib_92 7 rfl ?_
    refine V.aload_n (pc := 94) C dX12_fib_94 0 rfl ?_
    refine V.getr (pc := 95) C fl_RX12_13 sM0 kM0 rfl rM0_1 dX12_fib_95 ?_
    refine V.iconst (pc := 98) C dX12_fib_98 (v := 1) (by decide) ?_
    refine V.iald (pc := 99) C sM1 kM1 dX12_fib_99 (fun _ => ?_)
    refine V.icmp_ge (pc := 100) C dX12_fib_100 136 (by decide) (fun _ => ?_) (fun _ => ?_)
    · refine V.aload_n (pc := 136) C dX12_fib_136 0 rfl ?_
      refine V.iload_n (pc := 137) C dX12_fib_137 1 rfl ?_
      refine V.iload_n (pc := 138) C dX12_fib_138 2 rfl ?_
      refine V.callV (pc := 139) (st := []) C (c_X12_goodOf l y1 y2 m) obI ck_X12_goodOf ml_RX12_240 rfl rfl sM0 kM0 rfl rfl (Nat.le_of_ble_eq_true rfl) ⟨by decide, by decide⟩ dX12_fib_139 (fun r_12 m_13 _ => ?_)
      refine V.aload_n (pc := 142) C dX12_fib_142 0 rfl ?_
      refine V.getr (pc := 143) C fl_RX12_13 sM0 kM0 rfl rM0_1 dX12_fib_143 ?_
      refine V.iconst (pc := 146) C dX12_fib_146 (v := 3) (by decide) ?_
      refine V.iald (pc := 147) C sM1 kM1 dX12_fib_147 (fun _ => ?_)
      refine V.icmp_lt (pc := 148) C dX12_fib_148 155 (by decide) (fun _ => ?_) (fun _ => ?_)
      · refine V.aload_n (pc := 155) C dX12_fib_155 0 rfl ?_
        refine V.callV (pc := 156) (st := []) C (c_X12_isAhead l  m_13) obV ck_X12_isAhead ml_RX12_364 rfl rfl sM0 kM0 rfl rfl (Nat.le_of_ble_eq_true rfl) ⟨by decide, by decide⟩ dX12_fib_156 (fun r_14 m_15 _ => ?_)
        refine V.iinc (pc := 159) C dX12_fib_159 (v := 1) (L2 := [(6, .int (y6 + 1)), (0, .ref 0), (1, .int y1), (2, .int y2), (3, .int y3), (4, .int y4), (5, .int y5), (7, .int y7)]) 6 rfl (by decide) (by decide) rfl ?_
        refine V.goto (pc := 162) C dX12_fib_162 46 (by decide) ?_
        refine V.wk [1, 2, 3, 4, 5, 6, 0] rfl ?_
        exact h46 y1 y2 y3 y4 y5 (y6 + 1) m_15
      · refine V.iload (pc := 151) C dX12_fib_151 6 rfl ?_
        refine V.istore (pc := 153) C dX12_fib_153 (L2 := [(5, .int y6), (0, .ref 0), (1, .int y1), (2, .int y2), (3, .int y3), (4, .int y4), (6, .int y6), (7, .int y7)]) (by decide) rfl ?_
        refine V.aload_n (pc := 155) C dX12_fib_155 1 rfl ?_
        refine V.callV (pc := 156) (st := []) C (c_X12_isAhead l  m_13) obV ck_X12_isAhead ml_RX12_364 rfl rfl sM0 kM0 rfl rfl (Nat.le_of_ble_eq_true rfl) ⟨by decide, by decide⟩ dX12_fib_156 (fun r_16 m_17 _ => ?_)
        refine V.iinc (pc := 159) C dX12_fib_159 (v := 1) (L2 := [(6, .int (y6 + 1)), (5, .int y6), (0, .ref 0), (1, .int y1), (2, .int y2), (3, .int y3), (4, .int y4), (7, .int y7)]) 6 rfl (by decide) (by decide) rfl ?_
        refine V.goto (pc := 162) C dX12_fib_162 46 (by decide) ?_
        refine V.wk [2, 3, 4, 5, 6, 1, 0] rfl ?_
        exact h46 y1 y2 y3 y4 y6 (y6 + 1) m_17
    · refine V.iload (pc := 103) C dX12_fib_103 6 rfl ?_
      refine V.i2l (pc := 105) C dX12_fib_105 ?_
      refine V.iload (pc := 106) C dX12_fib_106 7 rfl ?_
      refine V.callS (pc := 108) (st := []) C (c_X12_isIn l (Int32.toInt64 y6) y7 m) obI ck_X12_isIn ml_RX12_175 rfl rfl (Nat.le_of_ble_eq_true rfl) ⟨by decide, by decide⟩ dX12_fib_108 (fun r_18 m_19 _ => ?_)
      refine V.if_eq (pc := 111) C dX12_fib_111 130 (by decide) (fun _ => ?_) (fun _ => ?_)
      · refine V.iinc (pc := 130) C dX12_fib_130 (v := 1) (L2 := [(7, .int (y7 + 1)), (0, .ref 0), (1, .int y1), (2, .int y2), (3, .int y3), (4, .int y4), (5, .int y5), (6, .int y6)]) 7 rfl (by decide) (by decide) rfl ?_
        refine V.goto (pc := 133) C dX12_fib_133 92 (by decide) ?_
        refine V.wk [1, 2, 3, 4, 5, 6, 7, 0] rfl ?_
        exact ih y1 y2 y3 y4 y5 y6 (y7 + 1) m_19
      · refine V.aload_n (pc := 114) C dX12_fib_114 0 rfl ?_
        refine V.getr (pc := 115) C fl_RX12_13 sM0 kM0 rfl rM0_1 dX12_fib_115 ?_
        refine V.bipush (pc := 118) C dX12_fib_118 (v := 41) (by decide) ?_
        refine V.bipush (pc := 120) C dX12_fib_120 (v := 14) (by decide) ?_
        refine V.iload_n (pc := 122) C dX12_fib_122 1 rfl ?_
        refine V.imul (pc := 123) C dX12_fib_123 ?_
        refine V.iadd (pc := 124) C dX12_fib_124 ?_
        refine V.iload (pc := 125) C dX12_fib_125 7 rfl ?_
        refine V.iadd (pc := 127) C dX12_fib_127 ?_
        refine V.iconst (pc := 128) C dX12_fib_128 (v := 0) (by decide) ?_
        refine V.iast (pc := 129) C sM1 kM1 dX12_fib_129 (fun _ => ?_)
        refine V.ltm (fun m_20 => ?_)
        refine V.iinc (pc := 130) C dX12_fib_130 (v := 1) (L2 := [(7, .int (y7 + 1)), (0, .ref 0), (1, .int y1), (2, .int y2), (3, .int y3), (4, .int y4), (5, .int y5), (6, .int y6)]) 7 rfl (by decide) (by decide) rfl ?_
        refine V.goto (pc := 133) C dX12_fib_133 92 (by decide) ?_
        refine V.wk [1, 2, 3, 4, 5, 6, 7, 0] rfl ?_
        exact ih y1 y2 y3 y4 y5 y6 (y7 + 1) m_20
set_option maxRecDepth 100000 in
set_option maxHeartbeats 4000000 in
theorem v_X12_fib_b46 {l : Launch} {p : Program} {e : Env} {s : State} {mt : MethodId} {args : Array Value} {below : List Frame} {meth : Method} {c : Code} {A : Nat → Prop} {ad0 : Nat → Nat} {G : Gt}  (C : Cx G p s mt args meth c RX12 cX12_fib 8 (some .int) "fib" A)  : ∀ (n : Nat) (y1 : Int32) (y2 : Int32) (y3 : Int32) (y4 : Int32) (y5 : Int32) (y6 : Int32) (m : Mem), V G SM oI l p e s mt args below meth c 8 6 A ad0 17 17 RM 17 RM 46 [(0, .ref 0), (1, .int y1), (2, .int y2), (3, .int y3), (4, .int y4), (5, .int y5), (6, .int y6)] [] m (X12_fib_b46  n y1 y2 y3 y4 y5 y6 m) := by
  intro n
  induction n with
  | zero =>
    intro y1 y2 y3 y4 y5 y6 m
    rw [X12_fib_b46]
    exact V.nil
  | succ n ih =>
    intro y1 y2 y3 y4 y5 y6 m
    rw [X12_fib_b46]
    refine V.iload (pc := 46) C dX12_fib_46 6 rfl ?_
    refine V.iconst (pc := 48) C dX12_fib_48 (v := 1) (by decide) ?_
    refine V.aload_n (pc := 49) C dX12_fib_49 0 rfl ?_
    refine V.getr (pc := 50) C fl_RX12_13 sM0 kM0 rfl rM0_1 dX12_fib_50 ?_
    refine V.iconst (pc := 53) C dX12_fib_53 (v := 1) (by decide) ?_
    refine V.iald (pc := 54) C sM1 kM1 dX12_fib_54 (fun _ => ?_)
    refine V.ishl (pc := 55) C dX12_fib_55 ?_
    refine V.icmp_ge (pc := 56) C dX12_fib_56 165 (by decide) (fun _ => ?_) (fun _ => ?_)
    · refine V.iload (pc := 165) C dX12_fib_165 5 rfl ?_
      refine V.iconst (pc := 167) C dX12_fib_167 (v := (-1)) (by decide) ?_
      refine V.icmp_eq (pc := 168) C dX12_fib_168 176 (by decide) (fun _ => ?_) (fun _ => ?_)
      · refine V.iload (pc := 176) C dX12_fib_176 5 rfl ?_
        refine V.goto (pc := 178) C dX12_fib_178 186 (by decide) ?_
        exact V.iret C dX12_fib_186
      · refine V.iload_n (pc := 171) C dX12_fib_171 3 rfl ?_
        refine V.iconst (pc := 172) C dX12_fib_172 (v := 1) (by decide) ?_
        refine V.icmp_ne (pc := 173) C dX12_fib_173 181 (by decide) (fun _ => ?_) (fun _ => ?_)
        · refine V.iload (pc := 181) C dX12_fib_181 5 rfl ?_
          refine V.callS (pc := 183) (st := []) C (c_X12_bitsOf l y5 m) obI ck_X12_bitsOf ml_RX12_201 rfl rfl (Nat.le_of_ble_eq_true rfl) ⟨by decide, by decide⟩ dX12_fib_183 (fun r_10 m_11 _ => ?_)
          exact V.iret C dX12_fib_186
        · refine V.iload (pc := 176) C dX12_fib_176 5 rfl ?_
          refine V.goto (pc := 178) C dX12_fib_178 186 (by decide) ?_
          exact V.iret C dX12_fib_186
    · refine V.iload (pc := 59) C dX12_fib_59 6 rfl ?_
      refine V.iload (pc := 61) C dX12_fib_61 4 rfl ?_
      refine V.iand (pc := 63) C dX12_fib_63 ?_
      refine V.if_ne (pc := 64) C dX12_fib_64 159 (by decide) (fun _ => ?_) (fun _ => ?_)
      · refine V.iinc (pc := 159) C dX12_fib_159 (v := 1) (L2 := [(6, .int (y6 + 1)), (0, .ref 0), (1, .int y1), (2, .int y2), (3, .int y3), (4, .int y4), (5, .int y5)]) 6 rfl (by decide) (by decide) rfl ?_
        refine V.goto (pc := 162) C dX12_fib_162 46 (by decide) ?_
        refine V.wk [1, 2, 3, 4, 5, 6, 0] rfl ?_
        exact ih y1 y2 y3 y4 y5 (y6 + 1) m
      · refine V.iload (pc := 67) C dX12_fib_67 5 rfl ?_
        refine V.iconst (pc := 69) C dX12_fib_69 (v := (-1)) (by decide) ?_
        refine V.icmp_eq (pc := 70) C dX12_fib_70 89 (by decide) (fun _ => ?_) (fun _ => ?_)
        · refine V.iconst (pc := 89) C dX12_fib_89 (v := 0) (by decide) ?_
          refine V.istore (pc := 90) C dX12_fib_90 (L2 := [(7, .int 0), (0, .ref 0), (1, .int y1), (2, .int y2), (3, .int y3), (4, .int y4), (5, .int y5), (6, .int y6)]) (by decide) rfl ?_
          refine V.wk [1, 2, 3, 4, 5, 6, 7, 0] rfl ?_
          exact v_X12_fib_b92 C (X12_fib_b46 n) ih FU y1 y2 y3 y4 y5 y6 0 m
        · refine V.iload (pc := 73) C dX12_fib_73 6 rfl ?_
          refine V.callS (pc := 75) (st := []) C (c_X12_bitsOf l y6 m) obI ck_X12_bitsOf ml_RX12_201 rfl rfl (Nat.le_of_ble_eq_true rfl) ⟨by decide, by decide⟩ dX12_fib_75 (fun r_21 m_22 _ => ?_)
          refine V.iload (pc := 78) C dX12_fib_78 5 rfl ?_
          refine V.callS (pc := 80) (st := [.int r_21]) C (c_X12_bitsOf l y5 m_22) obI ck_X12_bitsOf ml_RX12_201 rfl rfl (Nat.le_of_ble_eq_true rfl) ⟨by decide, by decide⟩ dX12_fib_80 (fun r_23 m_24 _ => ?_)
          refine V.icmp_lt (pc := 83) C dX12_fib_83 89 (by decide) (fun _ => ?_) (fun _ => ?_)
          · refine V.iconst (pc := 89) C dX12_fib_89 (v := 0) (by decide) ?_
            refine V.istore (pc := 90) C dX12_fib_90 (L2 := [(7, .int 0), (0, .ref 0), (1, .int y1), (2, .int y2), (3, .int y3), (4, .int y4), (5, .int y5), (6, .int y6)]) (by decide) rfl ?_
            refine V.wk [1, 2, 3, 4, 5, 6, 7, 0] rfl ?_
            exact v_X12_fib_b92 C (X12_fib_b46 n) ih FU y1 y2 y3 y4 y5 y6 0 m_24
          · refine V.goto (pc := 86) C dX12_fib_86 159 (by decide) ?_
            refine V.iinc (pc := 159) C dX12_fib_159 (v := 1) (L2 := [(6, .int (y6 + 1)), (0, .ref 0), (1, .int y1), (2, .int y2), (3, .int y3), (4, .int y4), (5, .int y5)]) 6 rfl (by decide) (by decide) rfl ?_
            refine V.goto (pc := 162) C dX12_fib_162 46 (by decide) ?_
            refine V.wk [1, 2, 3, 4, 5, 6, 0] rfl ?_
            exact ih y1 y2 y3 y4 y5 (y6 + 1) m_24
set_option maxRecDepth 100000 in
set_option maxHeartbeats 4000000 in
theorem v_X12_fib {l : Launch} {p : Program} {e : Env} {s : State} {mt : MethodId} {args : Array Value} {below : List Frame} {meth : Method} {c : Code} {A : Nat → Prop} {ad0 : Nat → Nat} {G : Gt}  (C : Cx G p s mt args meth c RX12 cX12_fib 8 (some .int) "fib" A)  (x1 : Int32) (x2 : Int32) (x3 : Int32) (m : Mem) : V G SM oI l p e s mt args below meth c 8 6 A ad0 17 17 RM 17 RM 0 [(0, .ref 0), (1, .int x1), (2, .int x2), (3, .int x3)] [] m (X12_fib  x1 x2 x3 m) := by
  rw [X12_fib]
  refine V.aload_n (pc := 0) C dX12_fib_0 0 rfl ?_
  refine V.iconst (pc := 1) C dX12_fib_1 (v := 0) (by decide) ?_
  refine V.puti (pc := 2) C fp_RX12_1 sM0 kM0 rfl dX12_fib_2 ?_
  refine V.ltm (fun m_1 => ?_)
  refine V.aload_n (pc := 5) C dX12_fib_5 0 rfl ?_
  refine V.iload_n (pc := 6) C dX12_fib_6 1 rfl ?_
  refine V.i2l (pc := 7) C dX12_fib_7 ?_
  refine V.iload_n (pc := 8) C dX12_fib_8 2 rfl ?_
  refine V.i2l (pc := 9) C dX12_fib_9 ?_
  refine V.callV (pc := 10) (st := []) C (c_X12_areTwo l (Int32.toInt64 x1) (Int32.toInt64 x2) m_1) obI ck_X12_areTwo ml_RX12_234 rfl rfl sM0 kM0 rfl rfl (Nat.le_of_ble_eq_true rfl) ⟨by decide, by decide⟩ dX12_fib_10 (fun r_2 m_3 _ => ?_)
  refine V.if_eq (pc := 13) C dX12_fib_13 26 (by decide) (fun _ => ?_) (fun _ => ?_)
  · refine V.bipush (pc := 26) C dX12_fib_26 (v := (-2)) (by decide) ?_
    exact V.iret C dX12_fib_28
  · refine V.iload_n (pc := 16) C dX12_fib_16 3 rfl ?_
    refine V.i2l (pc := 17) C dX12_fib_17 ?_
    refine V.lconst (pc := 18) C dX12_fib_18 (v := 0) (by decide) ?_
    refine V.lconst (pc := 19) C dX12_fib_19 (v := 1) (by decide) ?_
    refine V.callS (pc := 20) (st := []) C (c_X12_within l (Int32.toInt64 x3) 0 1 m_3) obI ck_X12_within ml_RX12_133 rfl rfl (Nat.le_of_ble_eq_true rfl) ⟨by decide, by decide⟩ dX12_fib_20 (fun r_4 m_5 _ => ?_)
    refine V.if_ne (pc := 23) C dX12_fib_23 29 (by decide) (fun _ => ?_) (fun _ => ?_)
    · refine V.aload_n (pc := 29) C dX12_fib_29 0 rfl ?_
      refine V.iload_n (pc := 30) C dX12_fib_30 1 rfl ?_
      refine V.callV (pc := 31) (st := []) C (c_X12_listOf l x1 m_5) obI ck_X12_listOf ml_RX12_207 rfl rfl sM0 kM0 rfl rfl (Nat.le_of_ble_eq_true rfl) ⟨by decide, by decide⟩ dX12_fib_31 (fun r_6 m_7 _ => ?_)
      refine V.istore (pc := 34) C dX12_fib_34 (L2 := [(4, .int r_6), (0, .ref 0), (1, .int x1), (2, .int x2), (3, .int x3)]) (by decide) rfl ?_
      refine V.iconst (pc := 36) C dX12_fib_36 (v := (-1)) (by decide) ?_
      refine V.istore (pc := 37) C dX12_fib_37 (L2 := [(5, .int (-1)), (4, .int r_6), (0, .ref 0), (1, .int x1), (2, .int x2), (3, .int x3)]) (by decide) rfl ?_
      refine V.aload_n (pc := 39) C dX12_fib_39 2 rfl ?_
      refine V.callV (pc := 40) (st := []) C (c_X12_keepsAhead l  m_7) obV ck_X12_keepsAhead ml_RX12_361 rfl rfl sM0 kM0 rfl rfl (Nat.le_of_ble_eq_true rfl) ⟨by decide, by decide⟩ dX12_fib_40 (fun r_8 m_9 _ => ?_)
      refine V.iconst (pc := 43) C dX12_fib_43 (v := 0) (by decide) ?_
      refine V.istore (pc := 44) C dX12_fib_44 (L2 := [(6, .int 0), (5, .int (-1)), (4, .int r_6), (0, .ref 0), (1, .int x1), (2, .int x2), (3, .int x3)]) (by decide) rfl ?_
      refine V.wk [3, 4, 5, 6, 2, 1, 0] rfl ?_
      exact v_X12_fib_b46 C  FU x1 x2 x3 r_6 (-1) 0 m_9
    · refine V.bipush (pc := 26) C dX12_fib_26 (v := (-2)) (by decide) ?_
      exact V.iret C dX12_fib_28
theorem c_X12_fib (l : Launch)   (x1 : Int32) (x2 : Int32) (x3 : Int32) (m : Mem) : Ct l yX12_fib cX12_fib 8 (some .int) 6 SM oI 17 17 RM RM [.ref 0, .int x1, .int x2, .int x3] m (X12_fib  x1 x2 x3 m) :=
  Ct.of (own := RX12) (nm := "fib") (by decide) rfl rfl (Nat.le_of_ble_eq_true rfl) (fun _ _ _ _ _ _ _ _ _ _ _ C => v_X12_fib C  x1 x2 x3 m)
theorem dX12_found_0 : decode cX12_found 0 = .ok (.iload_n 1, 1) := by decide +kernel
theorem dX12_found_1 : decode cX12_found 1 = .ok (.ifCond .ne 10, 3) := by decide +kernel
theorem dX12_found_4 : decode cX12_found 4 = .ok (.aload_n 0, 1) := by decide +kernel
theorem dX12_found_5 : decode cX12_found 5 = .ok (.getfield 327, 3) := by decide +kernel
theorem dX12_found_8 : decode cX12_found 8 = .ok (.goto 24, 3) := by decide +kernel
theorem dX12_found_11 : decode cX12_found 11 = .ok (.iload_n 1, 1) := by decide +kernel
theorem dX12_found_12 : decode cX12_found 12 = .ok (.iconst 1, 1) := by decide +kernel
theorem dX12_found_13 : decode cX12_found 13 = .ok (.if_icmp .ne 10, 3) := by decide +kernel
theorem dX12_found_16 : decode cX12_found 16 = .ok (.aload_n 0, 1) := by decide +kernel
theorem dX12_found_17 : decode cX12_found 17 = .ok (.getfield 341, 3) := by decide +kernel
theorem dX12_found_20 : decode cX12_found 20 = .ok (.goto 12, 3) := by decide +kernel
theorem dX12_found_23 : decode cX12_found 23 = .ok (.aload_n 0, 1) := by decide +kernel
theorem dX12_found_24 : decode cX12_found 24 = .ok (.getfield 48, 3) := by decide +kernel
theorem dX12_found_27 : decode cX12_found 27 = .ok (.iload_n 1, 1) := by decide +kernel
theorem dX12_found_28 : decode cX12_found 28 = .ok (.bipush 10, 2) := by decide +kernel
theorem dX12_found_30 : decode cX12_found 30 = .ok (.isub, 1) := by decide +kernel
theorem dX12_found_31 : decode cX12_found 31 = .ok (.iaload, 1) := by decide +kernel
theorem dX12_found_32 : decode cX12_found 32 = .ok (.ireturn, 1) := by decide +kernel
set_option maxRecDepth 100000 in
set_option maxHeartbeats 4000000 in
theorem v_X12_found {l : Launch} {p : Program} {e : Env} {s : State} {mt : MethodId} {args : Array Value} {below : List Frame} {meth : Method} {c : Code} {A : Nat → Prop} {ad0 : Nat → Nat} {G : Gt}  (C : Cx G p s mt args meth c RX12 cX12_found 2 (some .int) "found" A)  (x1 : Int32) (m : Mem) : V G SM oI l p e s mt args below meth c 2 1 A ad0 17 17 RM 17 RM 0 [(0, .ref 0), (1, .int x1)] [] m (X12_found  x1 m) := by
  rw [X12_found]
  refine V.iload_n (pc := 0) C dX12_found_0 1 rfl ?_
  refine V.if_ne (pc := 1) C dX12_found_1 11 (by decide) (fun _ => ?_) (fun _ => ?_)
  · refine V.iload_n (pc := 11) C dX12_found_11 1 rfl ?_
    refine V.iconst (pc := 12) C dX12_found_12 (v := 1) (by decide) ?_
    refine V.icmp_ne (pc := 13) C dX12_found_13 23 (by decide) (fun _ => ?_) (fun _ => ?_)
    · refine V.aload_n (pc := 23) C dX12_found_23 0 rfl ?_
      refine V.getr (pc := 24) C fl_RX12_48 sM0 kM0 rfl rM0_23 dX12_found_24 ?_
      refine V.iload_n (pc := 27) C dX12_found_27 1 rfl ?_
      refine V.bipush (pc := 28) C dX12_found_28 (v := 10) (by decide) ?_
      refine V.isub (pc := 30) C dX12_found_30 ?_
      refine V.iald (pc := 31) C sM11 kM11 dX12_found_31 (fun _ => ?_)
      exact V.iret C dX12_found_32
    · refine V.aload_n (pc := 16) C dX12_found_16 0 rfl ?_
      refine V.geti (pc := 17) C fl_RX12_341 sM0 kM0 rfl dX12_found_17 ?_
      refine V.goto (pc := 20) C dX12_found_20 32 (by decide) ?_
      exact V.iret C dX12_found_32
  · refine V.aload_n (pc := 4) C dX12_found_4 0 rfl ?_
    refine V.geti (pc := 5) C fl_RX12_327 sM0 kM0 rfl dX12_found_5 ?_
    refine V.goto (pc := 8) C dX12_found_8 32 (by decide) ?_
    exact V.iret C dX12_found_32
theorem c_X12_found (l : Launch)   (x1 : Int32) (m : Mem) : Ct l yX12_found cX12_found 2 (some .int) 1 SM oI 17 17 RM RM [.ref 0, .int x1] m (X12_found  x1 m) :=
  Ct.of (own := RX12) (nm := "found") (by decide) rfl rfl (Nat.le_of_ble_eq_true rfl) (fun _ _ _ _ _ _ _ _ _ _ _ C => v_X12_found C  x1 m)
theorem dX12_good_0 : decode cX12_good 0 = .ok (.aload_n 0, 1) := by decide +kernel
theorem dX12_good_1 : decode cX12_good 1 = .ok (.iconst 0, 1) := by decide +kernel
theorem dX12_good_2 : decode cX12_good 2 = .ok (.putfield 1, 3) := by decide +kernel
theorem dX12_good_5 : decode cX12_good 5 = .ok (.aload_n 0, 1) := by decide +kernel
theorem dX12_good_6 : decode cX12_good 6 = .ok (.iload_n 1, 1) := by decide +kernel
theorem dX12_good_7 : decode cX12_good 7 = .ok (.i2l, 1) := by decide +kernel
theorem dX12_good_8 : decode cX12_good 8 = .ok (.iload_n 2, 1) := by decide +kernel
theorem dX12_good_9 : decode cX12_good 9 = .ok (.i2l, 1) := by decide +kernel
theorem dX12_good_10 : decode cX12_good 10 = .ok (.invokevirtual 234, 3) := by decide +kernel
theorem dX12_good_13 : decode cX12_good 13 = .ok (.ifCond .eq 12, 3) := by decide +kernel
theorem dX12_good_16 : decode cX12_good 16 = .ok (.aload_n 0, 1) := by decide +kernel
theorem dX12_good_17 : decode cX12_good 17 = .ok (.iload_n 1, 1) := by decide +kernel
theorem dX12_good_18 : decode cX12_good 18 = .ok (.iload_n 2, 1) := by decide +kernel
theorem dX12_good_19 : decode cX12_good 19 = .ok (.invokevirtual 240, 3) := by decide +kernel
theorem dX12_good_22 : decode cX12_good 22 = .ok (.goto 5, 3) := by decide +kernel
theorem dX12_good_25 : decode cX12_good 25 = .ok (.ldc 243, 2) := by decide +kernel
theorem dX12_good_27 : decode cX12_good 27 = .ok (.ireturn, 1) := by decide +kernel
set_option maxRecDepth 100000 in
set_option maxHeartbeats 4000000 in
theorem v_X12_good {l : Launch} {p : Program} {e : Env} {s : State} {mt : MethodId} {args : Array Value} {below : List Frame} {meth : Method} {c : Code} {A : Nat → Prop} {ad0 : Nat → Nat} {G : Gt}  (C : Cx G p s mt args meth c RX12 cX12_good 3 (some .int) "good" A)  (x1 : Int32) (x2 : Int32) (m : Mem) : V G SM oI l p e s mt args below meth c 3 6 A ad0 17 17 RM 17 RM 0 [(0, .ref 0), (1, .int x1), (2, .int x2)] [] m (X12_good  x1 x2 m) := by
  rw [X12_good]
  refine V.aload_n (pc := 0) C dX12_good_0 0 rfl ?_
  refine V.iconst (pc := 1) C dX12_good_1 (v := 0) (by decide) ?_
  refine V.puti (pc := 2) C fp_RX12_1 sM0 kM0 rfl dX12_good_2 ?_
  refine V.ltm (fun m_1 => ?_)
  refine V.aload_n (pc := 5) C dX12_good_5 0 rfl ?_
  refine V.iload_n (pc := 6) C dX12_good_6 1 rfl ?_
  refine V.i2l (pc := 7) C dX12_good_7 ?_
  refine V.iload_n (pc := 8) C dX12_good_8 2 rfl ?_
  refine V.i2l (pc := 9) C dX12_good_9 ?_
  refine V.callV (pc := 10) (st := []) C (c_X12_areTwo l (Int32.toInt64 x1) (Int32.toInt64 x2) m_1) obI ck_X12_areTwo ml_RX12_234 rfl rfl sM0 kM0 rfl rfl (Nat.le_of_ble_eq_true rfl) ⟨by decide, by decide⟩ dX12_good_10 (fun r_2 m_3 _ => ?_)
  refine V.if_eq (pc := 13) C dX12_good_13 25 (by decide) (fun _ => ?_) (fun _ => ?_)
  · refine V.ldc (pc := 25) C dX12_good_25 (v := (-2000000)) cn_RX12_243 ?_
    exact V.iret C dX12_good_27
  · refine V.aload_n (pc := 16) C dX12_good_16 0 rfl ?_
    refine V.iload_n (pc := 17) C dX12_good_17 1 rfl ?_
    refine V.iload_n (pc := 18) C dX12_good_18 2 rfl ?_
    refine V.callV (pc := 19) (st := []) C (c_X12_goodOf l x1 x2 m_3) obI ck_X12_goodOf ml_RX12_240 rfl rfl sM0 kM0 rfl rfl (Nat.le_of_ble_eq_true rfl) ⟨by decide, by decide⟩ dX12_good_19 (fun r_4 m_5 _ => ?_)
    refine V.goto (pc := 22) C dX12_good_22 27 (by decide) ?_
    exact V.iret C dX12_good_27
theorem c_X12_good (l : Launch)   (x1 : Int32) (x2 : Int32) (m : Mem) : Ct l yX12_good cX12_good 3 (some .int) 6 SM oI 17 17 RM RM [.ref 0, .int x1, .int x2] m (X12_good  x1 x2 m) :=
  Ct.of (own := RX12) (nm := "good") (by decide) rfl rfl (Nat.le_of_ble_eq_true rfl) (fun _ _ _ _ _ _ _ _ _ _ _ C => v_X12_good C  x1 x2 m)
theorem dX12_goodIn_0 : decode cX12_goodIn 0 = .ok (.aload_n 0, 1) := by decide +kernel
theorem dX12_goodIn_1 : decode cX12_goodIn 1 = .ok (.iconst 0, 1) := by decide +kernel
theorem dX12_goodIn_2 : decode cX12_goodIn 2 = .ok (.putfield 1, 3) := by decide +kernel
theorem dX12_goodIn_5 : decode cX12_goodIn 5 = .ok (.aload_n 0, 1) := by decide +kernel
theorem dX12_goodIn_6 : decode cX12_goodIn 6 = .ok (.iload_n 1, 1) := by decide +kernel
theorem dX12_goodIn_7 : decode cX12_goodIn 7 = .ok (.i2l, 1) := by decide +kernel
theorem dX12_goodIn_8 : decode cX12_goodIn 8 = .ok (.iload_n 2, 1) := by decide +kernel
theorem dX12_goodIn_9 : decode cX12_goodIn 9 = .ok (.i2l, 1) := by decide +kernel
theorem dX12_goodIn_10 : decode cX12_goodIn 10 = .ok (.invokevirtual 234, 3) := by decide +kernel
theorem dX12_goodIn_13 : decode cX12_goodIn 13 = .ok (.ifCond .eq 15, 3) := by decide +kernel
theorem dX12_goodIn_16 : decode cX12_goodIn 16 = .ok (.iload_n 3, 1) := by decide +kernel
theorem dX12_goodIn_17 : decode cX12_goodIn 17 = .ok (.i2l, 1) := by decide +kernel
theorem dX12_goodIn_18 : decode cX12_goodIn 18 = .ok (.lconst 0, 1) := by decide +kernel
theorem dX12_goodIn_19 : decode cX12_goodIn 19 = .ok (.ldc2_w 280, 3) := by decide +kernel
theorem dX12_goodIn_22 : decode cX12_goodIn 22 = .ok (.invokestatic 133, 3) := by decide +kernel
theorem dX12_goodIn_25 : decode cX12_goodIn 25 = .ok (.ifCond .ne 6, 3) := by decide +kernel
theorem dX12_goodIn_28 : decode cX12_goodIn 28 = .ok (.ldc 243, 2) := by decide +kernel
theorem dX12_goodIn_30 : decode cX12_goodIn 30 = .ok (.ireturn, 1) := by decide +kernel
theorem dX12_goodIn_31 : decode cX12_goodIn 31 = .ok (.aload_n 0, 1) := by decide +kernel
theorem dX12_goodIn_32 : decode cX12_goodIn 32 = .ok (.invokevirtual 361, 3) := by decide +kernel
theorem dX12_goodIn_35 : decode cX12_goodIn 35 = .ok (.iconst 0, 1) := by decide +kernel
theorem dX12_goodIn_36 : decode cX12_goodIn 36 = .ok (.istore 4, 2) := by decide +kernel
theorem dX12_goodIn_38 : decode cX12_goodIn 38 = .ok (.iload 4, 2) := by decide +kernel
theorem dX12_goodIn_40 : decode cX12_goodIn 40 = .ok (.iload_n 3, 1) := by decide +kernel
theorem dX12_goodIn_41 : decode cX12_goodIn 41 = .ok (.if_icmp .ge 16, 3) := by decide +kernel
theorem dX12_goodIn_44 : decode cX12_goodIn 44 = .ok (.aload_n 0, 1) := by decide +kernel
theorem dX12_goodIn_45 : decode cX12_goodIn 45 = .ok (.iload_n 1, 1) := by decide +kernel
theorem dX12_goodIn_46 : decode cX12_goodIn 46 = .ok (.iload_n 2, 1) := by decide +kernel
theorem dX12_goodIn_47 : decode cX12_goodIn 47 = .ok (.invokevirtual 255, 3) := by decide +kernel
theorem dX12_goodIn_50 : decode cX12_goodIn 50 = .ok (.pop, 1) := by decide +kernel
theorem dX12_goodIn_51 : decode cX12_goodIn 51 = .ok (.iinc 4 1, 3) := by decide +kernel
theorem dX12_goodIn_54 : decode cX12_goodIn 54 = .ok (.goto (-16), 3) := by decide +kernel
theorem dX12_goodIn_57 : decode cX12_goodIn 57 = .ok (.aload_n 0, 1) := by decide +kernel
theorem dX12_goodIn_58 : decode cX12_goodIn 58 = .ok (.iload_n 1, 1) := by decide +kernel
theorem dX12_goodIn_59 : decode cX12_goodIn 59 = .ok (.iload_n 2, 1) := by decide +kernel
theorem dX12_goodIn_60 : decode cX12_goodIn 60 = .ok (.invokevirtual 240, 3) := by decide +kernel
theorem dX12_goodIn_63 : decode cX12_goodIn 63 = .ok (.istore 4, 2) := by decide +kernel
theorem dX12_goodIn_65 : decode cX12_goodIn 65 = .ok (.aload_n 0, 1) := by decide +kernel
theorem dX12_goodIn_66 : decode cX12_goodIn 66 = .ok (.invokevirtual 364, 3) := by decide +kernel
theorem dX12_goodIn_69 : decode cX12_goodIn 69 = .ok (.iload 4, 2) := by decide +kernel
theorem dX12_goodIn_71 : decode cX12_goodIn 71 = .ok (.ireturn, 1) := by decide +kernel
set_option maxRecDepth 100000 in
set_option maxHeartbeats 4000000 in
theorem v_X12_goodIn_b38 {l : Launch} {p : Program} {e : Env} {s : State} {mt : MethodId} {args : Array Value} {below : List Frame} {meth : Method} {c : Code} {A : Nat → Prop} {ad0 : Nat → Nat} {G : Gt}  (C : Cx G p s mt args meth c RX12 cX12_goodIn 5 (some .int) "goodIn" A)  : ∀ (n : Nat) (y1 : Int32) (y2 : Int32) (y3 : Int32) (y4 : Int32) (m : Mem), V G SM oI l p e s mt args below meth c 5 6 A ad0 17 17 RM 17 RM 38 [(0, .ref 0), (1, .int y1), (2, .int y2), (3, .int y3), (4, .int y4)] [] m (X12_goodIn_b38  n y1 y2 y3 y4 m) := by
  intro n
  induction n with
  | zero =>
    intro y1 y2 y3 y4 m
    rw [X12_goodIn_b38]
    exact V.nil
  | succ n ih =>
    intro y1 y2 y3 y4 m
    rw [X12_goodIn_b38]
    refine V.iload (pc := 38) C dX12_goodIn_38 4 rfl ?_
    refine V.iload_n (pc := 40) C dX12_goodIn_40 3 rfl ?_
    refine V.icmp_ge (pc := 41) C dX12_goodIn_41 57 (by decide) (fun _ => ?_) (fun _ => ?_)
    · refine V.aload_n (pc := 57) C dX12_goodIn_57 0 rfl ?_
      refine V.iload_n (pc := 58) C dX12_goodIn_58 1 rfl ?_
      refine V.iload_n (pc := 59) C dX12_goodIn_59 2 rfl ?_
      refine V.callV (pc := 60) (st := []) C (c_X12_goodOf l y1 y2 m) obI ck_X12_goodOf ml_RX12_240 rfl rfl sM0 kM0 rfl rfl (Nat.le_of_ble_eq_true rfl) ⟨by decide, by decide⟩ dX12_goodIn_60 (fun r_8 m_9 _ => ?_)
      refine V.istore (pc := 63) C dX12_goodIn_63 (L2 := [(4, .int r_8), (0, .ref 0), (1, .int y1), (2, .int y2), (3, .int y3)]) (by decide) rfl ?_
      refine V.aload_n (pc := 65) C dX12_goodIn_65 1 rfl ?_
      refine V.callV (pc := 66) (st := []) C (c_X12_isAhead l  m_9) obV ck_X12_isAhead ml_RX12_364 rfl rfl sM0 kM0 rfl rfl (Nat.le_of_ble_eq_true rfl) ⟨by decide, by decide⟩ dX12_goodIn_66 (fun r_10 m_11 _ => ?_)
      refine V.iload (pc := 69) C dX12_goodIn_69 0 rfl ?_
      exact V.iret C dX12_goodIn_71
    · refine V.aload_n (pc := 44) C dX12_goodIn_44 0 rfl ?_
      refine V.iload_n (pc := 45) C dX12_goodIn_45 1 rfl ?_
      refine V.iload_n (pc := 46) C dX12_goodIn_46 2 rfl ?_
      refine V.callV (pc := 47) (st := []) C (c_X12_year l y1 y2 m) obI ck_X12_year ml_RX12_255 rfl rfl sM0 kM0 rfl rfl (Nat.le_of_ble_eq_true rfl) ⟨by decide, by decide⟩ dX12_goodIn_47 (fun r_12 m_13 _ => ?_)
      refine V.pop (pc := 50) C dX12_goodIn_50 rfl ?_
      refine V.iinc (pc := 51) C dX12_goodIn_51 (v := 1) (L2 := [(4, .int (y4 + 1)), (0, .ref 0), (1, .int y1), (2, .int y2), (3, .int y3)]) 4 rfl (by decide) (by decide) rfl ?_
      refine V.goto (pc := 54) C dX12_goodIn_54 38 (by decide) ?_
      refine V.wk [1, 2, 3, 4, 0] rfl ?_
      exact ih y1 y2 y3 (y4 + 1) m_13
set_option maxRecDepth 100000 in
set_option maxHeartbeats 4000000 in
theorem v_X12_goodIn {l : Launch} {p : Program} {e : Env} {s : State} {mt : MethodId} {args : Array Value} {below : List Frame} {meth : Method} {c : Code} {A : Nat → Prop} {ad0 : Nat → Nat} {G : Gt}  (C : Cx G p s mt args meth c RX12 cX12_goodIn 5 (some .int) "goodIn" A)  (x1 : Int32) (x2 : Int32) (x3 : Int32) (m : Mem) : V G SM oI l p e s mt args below meth c 5 6 A ad0 17 17 RM 17 RM 0 [(0, .ref 0), (1, .int x1), (2, .int x2), (3, .int x3)] [] m (X12_goodIn  x1 x2 x3 m) := by
  rw [X12_goodIn]
  refine V.aload_n (pc := 0) C dX12_goodIn_0 0 rfl ?_
  refine V.iconst (pc := 1) C dX12_goodIn_1 (v := 0) (by decide) ?_
  refine V.puti (pc := 2) C fp_RX12_1 sM0 kM0 rfl dX12_goodIn_2 ?_
  refine V.ltm (fun m_1 => ?_)
  refine V.aload_n (pc := 5) C dX12_goodIn_5 0 rfl ?_
  refine V.iload_n (pc := 6) C dX12_goodIn_6 1 rfl ?_
  refine V.i2l (pc := 7) C dX12_goodIn_7 ?_
  refine V.iload_n (pc := 8) C dX12_goodIn_8 2 rfl ?_
  refine V.i2l (pc := 9) C dX12_goodIn_9 ?_
  refine V.callV (pc := 10) (st := []) C (c_X12_areTwo l (Int32.toInt64 x1) (Int32.toInt64 x2) m_1) obI ck_X12_areTwo ml_RX12_234 rfl rfl sM0 kM0 rfl rfl (Nat.le_of_ble_eq_true rfl) ⟨by decide, by decide⟩ dX12_goodIn_10 (fun r_2 m_3 _ => ?_)
  refine V.if_eq (pc := 13) C dX12_goodIn_13 28 (by decide) (fun _ => ?_) (fun _ => ?_)
  · refine V.ldc (pc := 28) C dX12_goodIn_28 (v := (-2000000)) cn_RX12_243 ?_
    exact V.iret C dX12_goodIn_30
  · refine V.iload_n (pc := 16) C dX12_goodIn_16 3 rfl ?_
    refine V.i2l (pc := 17) C dX12_goodIn_17 ?_
    refine V.lconst (pc := 18) C dX12_goodIn_18 (v := 0) (by decide) ?_
    refine V.ldc2 (pc := 19) C dX12_goodIn_19 (v := 60) cl_RX12_280 ?_
    refine V.callS (pc := 22) (st := []) C (c_X12_within l (Int32.toInt64 x3) 0 60 m_3) obI ck_X12_within ml_RX12_133 rfl rfl (Nat.le_of_ble_eq_true rfl) ⟨by decide, by decide⟩ dX12_goodIn_22 (fun r_4 m_5 _ => ?_)
    refine V.if_ne (pc := 25) C dX12_goodIn_25 31 (by decide) (fun _ => ?_) (fun _ => ?_)
    · refine V.aload_n (pc := 31) C dX12_goodIn_31 0 rfl ?_
      refine V.callV (pc := 32) (st := []) C (c_X12_keepsAhead l  m_5) obV ck_X12_keepsAhead ml_RX12_361 rfl rfl sM0 kM0 rfl rfl (Nat.le_of_ble_eq_true rfl) ⟨by decide, by decide⟩ dX12_goodIn_32 (fun r_6 m_7 _ => ?_)
      refine V.iconst (pc := 35) C dX12_goodIn_35 (v := 0) (by decide) ?_
      refine V.istore (pc := 36) C dX12_goodIn_36 (L2 := [(4, .int 0), (0, .ref 0), (1, .int x1), (2, .int x2), (3, .int x3)]) (by decide) rfl ?_
      refine V.wk [1, 2, 3, 4, 0] rfl ?_
      exact v_X12_goodIn_b38 C  FU x1 x2 x3 0 m_7
    · refine V.ldc (pc := 28) C dX12_goodIn_28 (v := (-2000000)) cn_RX12_243 ?_
      exact V.iret C dX12_goodIn_30
theorem c_X12_goodIn (l : Launch)   (x1 : Int32) (x2 : Int32) (x3 : Int32) (m : Mem) : Ct l yX12_goodIn cX12_goodIn 5 (some .int) 6 SM oI 17 17 RM RM [.ref 0, .int x1, .int x2, .int x3] m (X12_goodIn  x1 x2 x3 m) :=
  Ct.of (own := RX12) (nm := "goodIn") (by decide) rfl rfl (Nat.le_of_ble_eq_true rfl) (fun _ _ _ _ _ _ _ _ _ _ _ C => v_X12_goodIn C  x1 x2 x3 m)
theorem dX12_goodOfWed_0 : decode cX12_goodOfWed 0 = .ok (.iconst 0, 1) := by decide +kernel
theorem dX12_goodOfWed_1 : decode cX12_goodOfWed 1 = .ok (.istore_n 1, 1) := by decide +kernel
theorem dX12_goodOfWed_2 : decode cX12_goodOfWed 2 = .ok (.iconst 0, 1) := by decide +kernel
theorem dX12_goodOfWed_3 : decode cX12_goodOfWed 3 = .ok (.istore_n 2, 1) := by decide +kernel
theorem dX12_goodOfWed_4 : decode cX12_goodOfWed 4 = .ok (.iload_n 2, 1) := by decide +kernel
theorem dX12_goodOfWed_5 : decode cX12_goodOfWed 5 = .ok (.aload_n 0, 1) := by decide +kernel
theorem dX12_goodOfWed_6 : decode cX12_goodOfWed 6 = .ok (.getfield 13, 3) := by decide +kernel
theorem dX12_goodOfWed_9 : decode cX12_goodOfWed 9 = .ok (.iconst 2, 1) := by decide +kernel
theorem dX12_goodOfWed_10 : decode cX12_goodOfWed 10 = .ok (.iaload, 1) := by decide +kernel
theorem dX12_goodOfWed_11 : decode cX12_goodOfWed 11 = .ok (.if_icmp .ge 45, 3) := by decide +kernel
theorem dX12_goodOfWed_14 : decode cX12_goodOfWed 14 = .ok (.iload_n 1, 1) := by decide +kernel
theorem dX12_goodOfWed_15 : decode cX12_goodOfWed 15 = .ok (.aload_n 0, 1) := by decide +kernel
theorem dX12_goodOfWed_16 : decode cX12_goodOfWed 16 = .ok (.getfield 13, 3) := by decide +kernel
theorem dX12_goodOfWed_19 : decode cX12_goodOfWed 19 = .ok (.sipush 153, 3) := by decide +kernel
theorem dX12_goodOfWed_22 : decode cX12_goodOfWed 22 = .ok (.iload_n 2, 1) := by decide +kernel
theorem dX12_goodOfWed_23 : decode cX12_goodOfWed 23 = .ok (.iadd, 1) := by decide +kernel
theorem dX12_goodOfWed_24 : decode cX12_goodOfWed 24 = .ok (.iaload, 1) := by decide +kernel
theorem dX12_goodOfWed_25 : decode cX12_goodOfWed 25 = .ok (.iload_n 2, 1) := by decide +kernel
theorem dX12_goodOfWed_26 : decode cX12_goodOfWed 26 = .ok (.if_icmp .le 21, 3) := by decide +kernel
theorem dX12_goodOfWed_29 : decode cX12_goodOfWed 29 = .ok (.aload_n 0, 1) := by decide +kernel
theorem dX12_goodOfWed_30 : decode cX12_goodOfWed 30 = .ok (.iload_n 2, 1) := by decide +kernel
theorem dX12_goodOfWed_31 : decode cX12_goodOfWed 31 = .ok (.aload_n 0, 1) := by decide +kernel
theorem dX12_goodOfWed_32 : decode cX12_goodOfWed 32 = .ok (.getfield 13, 3) := by decide +kernel
theorem dX12_goodOfWed_35 : decode cX12_goodOfWed 35 = .ok (.sipush 153, 3) := by decide +kernel
theorem dX12_goodOfWed_38 : decode cX12_goodOfWed 38 = .ok (.iload_n 2, 1) := by decide +kernel
theorem dX12_goodOfWed_39 : decode cX12_goodOfWed 39 = .ok (.iadd, 1) := by decide +kernel
theorem dX12_goodOfWed_40 : decode cX12_goodOfWed 40 = .ok (.iaload, 1) := by decide +kernel
theorem dX12_goodOfWed_41 : decode cX12_goodOfWed 41 = .ok (.invokevirtual 240, 3) := by decide +kernel
theorem dX12_goodOfWed_44 : decode cX12_goodOfWed 44 = .ok (.goto 4, 3) := by decide +kernel
theorem dX12_goodOfWed_47 : decode cX12_goodOfWed 47 = .ok (.iconst 0, 1) := by decide +kernel
theorem dX12_goodOfWed_48 : decode cX12_goodOfWed 48 = .ok (.iadd, 1) := by decide +kernel
theorem dX12_goodOfWed_49 : decode cX12_goodOfWed 49 = .ok (.istore_n 1, 1) := by decide +kernel
theorem dX12_goodOfWed_50 : decode cX12_goodOfWed 50 = .ok (.iinc 2 1, 3) := by decide +kernel
theorem dX12_goodOfWed_53 : decode cX12_goodOfWed 53 = .ok (.goto (-49), 3) := by decide +kernel
theorem dX12_goodOfWed_56 : decode cX12_goodOfWed 56 = .ok (.iload_n 1, 1) := by decide +kernel
theorem dX12_goodOfWed_57 : decode cX12_goodOfWed 57 = .ok (.ireturn, 1) := by decide +kernel
set_option maxRecDepth 100000 in
set_option maxHeartbeats 4000000 in
theorem v_X12_goodOfWed_b4 {l : Launch} {p : Program} {e : Env} {s : State} {mt : MethodId} {args : Array Value} {below : List Frame} {meth : Method} {c : Code} {A : Nat → Prop} {ad0 : Nat → Nat} {G : Gt}  (C : Cx G p s mt args meth c RX12 cX12_goodOfWed 3 (some .int) "goodOfWed" A)  : ∀ (n : Nat) (y1 : Int32) (y2 : Int32) (m : Mem), V G SM oI l p e s mt args below meth c 3 6 A ad0 17 17 RM 17 RM 4 [(0, .ref 0), (1, .int y1), (2, .int y2)] [] m (X12_goodOfWed_b4  n y1 y2 m) := by
  intro n
  induction n with
  | zero =>
    intro y1 y2 m
    rw [X12_goodOfWed_b4]
    exact V.nil
  | succ n ih =>
    intro y1 y2 m
    rw [X12_goodOfWed_b4]
    refine V.iload_n (pc := 4) C dX12_goodOfWed_4 2 rfl ?_
    refine V.aload_n (pc := 5) C dX12_goodOfWed_5 0 rfl ?_
    refine V.getr (pc := 6) C fl_RX12_13 sM0 kM0 rfl rM0_1 dX12_goodOfWed_6 ?_
    refine V.iconst (pc := 9) C dX12_goodOfWed_9 (v := 2) (by decide) ?_
    refine V.iald (pc := 10) C sM1 kM1 dX12_goodOfWed_10 (fun _ => ?_)
    refine V.icmp_ge (pc := 11) C dX12_goodOfWed_11 56 (by decide) (fun _ => ?_) (fun _ => ?_)
    · refine V.iload_n (pc := 56) C dX12_goodOfWed_56 1 rfl ?_
      exact V.iret C dX12_goodOfWed_57
    · refine V.iload_n (pc := 14) C dX12_goodOfWed_14 1 rfl ?_
      refine V.aload_n (pc := 15) C dX12_goodOfWed_15 0 rfl ?_
      refine V.getr (pc := 16) C fl_RX12_13 sM0 kM0 rfl rM0_1 dX12_goodOfWed_16 ?_
      refine V.sipush (pc := 19) C dX12_goodOfWed_19 (v := 153) (by decide) ?_
      refine V.iload_n (pc := 22) C dX12_goodOfWed_22 2 rfl ?_
      refine V.iadd (pc := 23) C dX12_goodOfWed_23 ?_
      refine V.iald (pc := 24) C sM1 kM1 dX12_goodOfWed_24 (fun _ => ?_)
      refine V.iload_n (pc := 25) C dX12_goodOfWed_25 2 rfl ?_
      refine V.icmp_le (pc := 26) C dX12_goodOfWed_26 47 (by decide) (fun _ => ?_) (fun _ => ?_)
      · refine V.iconst (pc := 47) C dX12_goodOfWed_47 (v := 0) (by decide) ?_
        refine V.iadd (pc := 48) C dX12_goodOfWed_48 ?_
        refine V.lti (fun x_1 _ => ?_)
        refine V.istore_n (pc := 49) C dX12_goodOfWed_49 (L2 := [(1, .int x_1), (0, .ref 0), (2, .int y2)]) (by decide) rfl ?_
        refine V.iinc (pc := 50) C dX12_goodOfWed_50 (v := 1) (L2 := [(2, .int (y2 + 1)), (1, .int x_1), (0, .ref 0)]) 2 rfl (by decide) (by decide) rfl ?_
        refine V.goto (pc := 53) C dX12_goodOfWed_53 4 (by decide) ?_
        refine V.wk [2, 1, 0] rfl ?_
        exact ih x_1 (y2 + 1) m
      · refine V.aload_n (pc := 29) C dX12_goodOfWed_29 0 rfl ?_
        refine V.iload_n (pc := 30) C dX12_goodOfWed_30 2 rfl ?_
        refine V.aload_n (pc := 31) C dX12_goodOfWed_31 0 rfl ?_
        refine V.getr (pc := 32) C fl_RX12_13 sM0 kM0 rfl rM0_1 dX12_goodOfWed_32 ?_
        refine V.sipush (pc := 35) C dX12_goodOfWed_35 (v := 153) (by decide) ?_
        refine V.iload_n (pc := 38) C dX12_goodOfWed_38 2 rfl ?_
        refine V.iadd (pc := 39) C dX12_goodOfWed_39 ?_
        refine V.iald (pc := 40) C sM1 kM1 dX12_goodOfWed_40 (fun _ => ?_)
        refine V.callV (pc := 41) (st := [.int y1]) C (c_X12_goodOf l y2 (gi m 1 (ix (153 + y2))) m) obI ck_X12_goodOf ml_RX12_240 rfl rfl sM0 kM0 rfl rfl (Nat.le_of_ble_eq_true rfl) ⟨by decide, by decide⟩ dX12_goodOfWed_41 (fun r_2 m_3 _ => ?_)
        refine V.goto (pc := 44) C dX12_goodOfWed_44 48 (by decide) ?_
        refine V.iadd (pc := 48) C dX12_goodOfWed_48 ?_
        refine V.lti (fun x_4 _ => ?_)
        refine V.istore_n (pc := 49) C dX12_goodOfWed_49 (L2 := [(1, .int x_4), (0, .ref 0), (2, .int y2)]) (by decide) rfl ?_
        refine V.iinc (pc := 50) C dX12_goodOfWed_50 (v := 1) (L2 := [(2, .int (y2 + 1)), (1, .int x_4), (0, .ref 0)]) 2 rfl (by decide) (by decide) rfl ?_
        refine V.goto (pc := 53) C dX12_goodOfWed_53 4 (by decide) ?_
        refine V.wk [2, 1, 0] rfl ?_
        exact ih x_4 (y2 + 1) m_3
set_option maxRecDepth 100000 in
set_option maxHeartbeats 4000000 in
theorem v_X12_goodOfWed {l : Launch} {p : Program} {e : Env} {s : State} {mt : MethodId} {args : Array Value} {below : List Frame} {meth : Method} {c : Code} {A : Nat → Prop} {ad0 : Nat → Nat} {G : Gt}  (C : Cx G p s mt args meth c RX12 cX12_goodOfWed 3 (some .int) "goodOfWed" A)  (m : Mem) : V G SM oI l p e s mt args below meth c 3 6 A ad0 17 17 RM 17 RM 0 [(0, .ref 0)] [] m (X12_goodOfWed   m) := by
  rw [X12_goodOfWed]
  refine V.iconst (pc := 0) C dX12_goodOfWed_0 (v := 0) (by decide) ?_
  refine V.istore_n (pc := 1) C dX12_goodOfWed_1 (L2 := [(1, .int 0), (0, .ref 0)]) (by decide) rfl ?_
  refine V.iconst (pc := 2) C dX12_goodOfWed_2 (v := 0) (by decide) ?_
  refine V.istore_n (pc := 3) C dX12_goodOfWed_3 (L2 := [(2, .int 0), (1, .int 0), (0, .ref 0)]) (by decide) rfl ?_
  refine V.wk [2, 1, 0] rfl ?_
  exact v_X12_goodOfWed_b4 C  FU 0 0 m
theorem c_X12_goodOfWed (l : Launch)   (m : Mem) : Ct l yX12_goodOfWed cX12_goodOfWed 3 (some .int) 6 SM oI 17 17 RM RM [.ref 0] m (X12_goodOfWed   m) :=
  Ct.of (own := RX12) (nm := "goodOfWed") (by decide) rfl rfl (Nat.le_of_ble_eq_true rfl) (fun _ _ _ _ _ _ _ _ _ _ _ C => v_X12_goodOfWed C   m)
theorem dX12_hasRoom_0 : decode cX12_hasRoom 0 = .ok (.aload_n 0, 1) := by decide +kernel
theorem dX12_hasRoom_1 : decode cX12_hasRoom 1 = .ok (.iload_n 1, 1) := by decide +kernel
theorem dX12_hasRoom_2 : decode cX12_hasRoom 2 = .ok (.invokevirtual 207, 3) := by decide +kernel
theorem dX12_hasRoom_5 : decode cX12_hasRoom 5 = .ok (.invokestatic 201, 3) := by decide +kernel
theorem dX12_hasRoom_8 : decode cX12_hasRoom 8 = .ok (.aload_n 0, 1) := by decide +kernel
theorem dX12_hasRoom_9 : decode cX12_hasRoom 9 = .ok (.getfield 13, 3) := by decide +kernel
theorem dX12_hasRoom_12 : decode cX12_hasRoom 12 = .ok (.iconst 4, 1) := by decide +kernel
theorem dX12_hasRoom_13 : decode cX12_hasRoom 13 = .ok (.iaload, 1) := by decide +kernel
theorem dX12_hasRoom_14 : decode cX12_hasRoom 14 = .ok (.if_icmp .ge 7, 3) := by decide +kernel
theorem dX12_hasRoom_17 : decode cX12_hasRoom 17 = .ok (.iconst 1, 1) := by decide +kernel
theorem dX12_hasRoom_18 : decode cX12_hasRoom 18 = .ok (.goto 4, 3) := by decide +kernel
theorem dX12_hasRoom_21 : decode cX12_hasRoom 21 = .ok (.iconst 0, 1) := by decide +kernel
theorem dX12_hasRoom_22 : decode cX12_hasRoom 22 = .ok (.ireturn, 1) := by decide +kernel
set_option maxRecDepth 100000 in
set_option maxHeartbeats 4000000 in
theorem v_X12_hasRoom {l : Launch} {p : Program} {e : Env} {s : State} {mt : MethodId} {args : Array Value} {below : List Frame} {meth : Method} {c : Code} {A : Nat → Prop} {ad0 : Nat → Nat} {G : Gt}  (C : Cx G p s mt args meth c RX12 cX12_hasRoom 2 (some .boolean) "hasRoom" A)  (x1 : Int32) (m : Mem) : V G SM oI l p e s mt args below meth c 2 2 A ad0 17 17 RM 17 RM 0 [(0, .ref 0), (1, .int x1)] [] m (X12_hasRoom  x1 m) := by
  rw [X12_hasRoom]
  refine V.aload_n (pc := 0) C dX12_hasRoom_0 0 rfl ?_
  refine V.iload_n (pc := 1) C dX12_hasRoom_1 1 rfl ?_
  refine V.callV (pc := 2) (st := []) C (c_X12_listOf l x1 m) obI ck_X12_listOf ml_RX12_207 rfl rfl sM0 kM0 rfl rfl (Nat.le_of_ble_eq_true rfl) ⟨by decide, by decide⟩ dX12_hasRoom_2 (fun r_1 m_2 _ => ?_)
  refine V.callS (pc := 5) (st := []) C (c_X12_bitsOf l r_1 m_2) obI ck_X12_bitsOf ml_RX12_201 rfl rfl (Nat.le_of_ble_eq_true rfl) ⟨by decide, by decide⟩ dX12_hasRoom_5 (fun r_3 m_4 _ => ?_)
  refine V.aload_n (pc := 8) C dX12_hasRoom_8 0 rfl ?_
  refine V.getr (pc := 9) C fl_RX12_13 sM0 kM0 rfl rM0_1 dX12_hasRoom_9 ?_
  refine V.iconst (pc := 12) C dX12_hasRoom_12 (v := 4) (by decide) ?_
  refine V.iald (pc := 13) C sM1 kM1 dX12_hasRoom_13 (fun _ => ?_)
  refine V.icmp_ge (pc := 14) C dX12_hasRoom_14 21 (by decide) (fun _ => ?_) (fun _ => ?_)
  · refine V.iconst (pc := 21) C dX12_hasRoom_21 (v := 0) (by decide) ?_
    exact V.zret rfl C dX12_hasRoom_22
  · refine V.iconst (pc := 17) C dX12_hasRoom_17 (v := 1) (by decide) ?_
    refine V.goto (pc := 18) C dX12_hasRoom_18 22 (by decide) ?_
    exact V.zret rfl C dX12_hasRoom_22
theorem c_X12_hasRoom (l : Launch)   (x1 : Int32) (m : Mem) : Ct l yX12_hasRoom cX12_hasRoom 2 (some .boolean) 2 SM oI 17 17 RM RM [.ref 0, .int x1] m (X12_hasRoom  x1 m) :=
  Ct.of (own := RX12) (nm := "hasRoom") (by decide) rfl rfl (Nat.le_of_ble_eq_true rfl) (fun _ _ _ _ _ _ _ _ _ _ _ C => v_X12_hasRoom C  x1 m)
theorem dX12_holds_0 : decode cX12_holds 0 = .ok (.aload_n 0, 1) := by decide +kernel
theorem dX12_holds_1 : decode cX12_holds 1 = .ok (.iconst 0, 1) := by decide +kernel
theorem dX12_holds_2 : decode cX12_holds 2 = .ok (.putfield 1, 3) := by decide +kernel
theorem dX12_holds_5 : decode cX12_holds 5 = .ok (.aload_n 0, 1) := by decide +kernel
theorem dX12_holds_6 : decode cX12_holds 6 = .ok (.iload_n 1, 1) := by decide +kernel
theorem dX12_holds_7 : decode cX12_holds 7 = .ok (.i2l, 1) := by decide +kernel
theorem dX12_holds_8 : decode cX12_holds 8 = .ok (.iload_n 2, 1) := by decide +kernel
theorem dX12_holds_9 : decode cX12_holds 9 = .ok (.i2l, 1) := by decide +kernel
theorem dX12_holds_10 : decode cX12_holds 10 = .ok (.invokevirtual 234, 3) := by decide +kernel
theorem dX12_holds_13 : decode cX12_holds 13 = .ok (.ifCond .eq 12, 3) := by decide +kernel
theorem dX12_holds_16 : decode cX12_holds 16 = .ok (.aload_n 0, 1) := by decide +kernel
theorem dX12_holds_17 : decode cX12_holds 17 = .ok (.iload_n 1, 1) := by decide +kernel
theorem dX12_holds_18 : decode cX12_holds 18 = .ok (.iload_n 2, 1) := by decide +kernel
theorem dX12_holds_19 : decode cX12_holds 19 = .ok (.invokevirtual 316, 3) := by decide +kernel
theorem dX12_holds_22 : decode cX12_holds 22 = .ok (.goto 5, 3) := by decide +kernel
theorem dX12_holds_25 : decode cX12_holds 25 = .ok (.bipush (-2), 2) := by decide +kernel
theorem dX12_holds_27 : decode cX12_holds 27 = .ok (.ireturn, 1) := by decide +kernel
set_option maxRecDepth 100000 in
set_option maxHeartbeats 4000000 in
theorem v_X12_holds {l : Launch} {p : Program} {e : Env} {s : State} {mt : MethodId} {args : Array Value} {below : List Frame} {meth : Method} {c : Code} {A : Nat → Prop} {ad0 : Nat → Nat} {G : Gt}  (C : Cx G p s mt args meth c RX12 cX12_holds 3 (some .int) "holds" A)  (x1 : Int32) (x2 : Int32) (m : Mem) : V G SM oI l p e s mt args below meth c 3 7 A ad0 17 17 RM 17 RM 0 [(0, .ref 0), (1, .int x1), (2, .int x2)] [] m (X12_holds  x1 x2 m) := by
  rw [X12_holds]
  refine V.aload_n (pc := 0) C dX12_holds_0 0 rfl ?_
  refine V.iconst (pc := 1) C dX12_holds_1 (v := 0) (by decide) ?_
  refine V.puti (pc := 2) C fp_RX12_1 sM0 kM0 rfl dX12_holds_2 ?_
  refine V.ltm (fun m_1 => ?_)
  refine V.aload_n (pc := 5) C dX12_holds_5 0 rfl ?_
  refine V.iload_n (pc := 6) C dX12_holds_6 1 rfl ?_
  refine V.i2l (pc := 7) C dX12_holds_7 ?_
  refine V.iload_n (pc := 8) C dX12_holds_8 2 rfl ?_
  refine V.i2l (pc := 9) C dX12_holds_9 ?_
  refine V.callV (pc := 10) (st := []) C (c_X12_areTwo l (Int32.toInt64 x1) (Int32.toInt64 x2) m_1) obI ck_X12_areTwo ml_RX12_234 rfl rfl sM0 kM0 rfl rfl (Nat.le_of_ble_eq_true rfl) ⟨by decide, by decide⟩ dX12_holds_10 (fun r_2 m_3 _ => ?_)
  refine V.if_eq (pc := 13) C dX12_holds_13 25 (by decide) (fun _ => ?_) (fun _ => ?_)
  · refine V.bipush (pc := 25) C dX12_holds_25 (v := (-2)) (by decide) ?_
    exact V.iret C dX12_holds_27
  · refine V.aload_n (pc := 16) C dX12_holds_16 0 rfl ?_
    refine V.iload_n (pc := 17) C dX12_holds_17 1 rfl ?_
    refine V.iload_n (pc := 18) C dX12_holds_18 2 rfl ?_
    refine V.callV (pc := 19) (st := []) C (c_X12_holdsFor l x1 x2 m_3) obI ck_X12_holdsFor ml_RX12_316 rfl rfl sM0 kM0 rfl rfl (Nat.le_of_ble_eq_true rfl) ⟨by decide, by decide⟩ dX12_holds_19 (fun r_4 m_5 _ => ?_)
    refine V.goto (pc := 22) C dX12_holds_22 27 (by decide) ?_
    exact V.iret C dX12_holds_27
theorem c_X12_holds (l : Launch)   (x1 : Int32) (x2 : Int32) (m : Mem) : Ct l yX12_holds cX12_holds 3 (some .int) 7 SM oI 17 17 RM RM [.ref 0, .int x1, .int x2] m (X12_holds  x1 x2 m) :=
  Ct.of (own := RX12) (nm := "holds") (by decide) rfl rfl (Nat.le_of_ble_eq_true rfl) (fun _ _ _ _ _ _ _ _ _ _ _ C => v_X12_holds C  x1 x2 m)
theorem dX12_houses_0 : decode cX12_houses 0 = .ok (.aload_n 0, 1) := by decide +kernel
theorem dX12_houses_1 : decode cX12_houses 1 = .ok (.iconst 0, 1) := by decide +kernel
theorem dX12_houses_2 : decode cX12_houses 2 = .ok (.putfield 1, 3) := by decide +kernel
theorem dX12_houses_5 : decode cX12_houses 5 = .ok (.iload_n 1, 1) := by decide +kernel
theorem dX12_houses_6 : decode cX12_houses 6 = .ok (.i2l, 1) := by decide +kernel
theorem dX12_houses_7 : decode cX12_houses 7 = .ok (.lconst 1, 1) := by decide +kernel
theorem dX12_houses_8 : decode cX12_houses 8 = .ok (.ldc2_w 282, 3) := by decide +kernel
theorem dX12_houses_11 : decode cX12_houses 11 = .ok (.invokestatic 133, 3) := by decide +kernel
theorem dX12_houses_14 : decode cX12_houses 14 = .ok (.ifCond .eq 15, 3) := by decide +kernel
theorem dX12_houses_17 : decode cX12_houses 17 = .ok (.iload_n 2, 1) := by decide +kernel
theorem dX12_houses_18 : decode cX12_houses 18 = .ok (.i2l, 1) := by decide +kernel
theorem dX12_houses_19 : decode cX12_houses 19 = .ok (.lconst 0, 1) := by decide +kernel
theorem dX12_houses_20 : decode cX12_houses 20 = .ok (.ldc2_w 367, 3) := by decide +kernel
theorem dX12_houses_23 : decode cX12_houses 23 = .ok (.invokestatic 133, 3) := by decide +kernel
theorem dX12_houses_26 : decode cX12_houses 26 = .ok (.ifCond .ne 6, 3) := by decide +kernel
theorem dX12_houses_29 : decode cX12_houses 29 = .ok (.bipush (-3), 2) := by decide +kernel
theorem dX12_houses_31 : decode cX12_houses 31 = .ok (.ireturn, 1) := by decide +kernel
theorem dX12_houses_32 : decode cX12_houses 32 = .ok (.iconst 0, 1) := by decide +kernel
theorem dX12_houses_33 : decode cX12_houses 33 = .ok (.istore_n 3, 1) := by decide +kernel
theorem dX12_houses_34 : decode cX12_houses 34 = .ok (.iconst 0, 1) := by decide +kernel
theorem dX12_houses_35 : decode cX12_houses 35 = .ok (.istore 4, 2) := by decide +kernel
theorem dX12_houses_37 : decode cX12_houses 37 = .ok (.iload 4, 2) := by decide +kernel
theorem dX12_houses_39 : decode cX12_houses 39 = .ok (.iconst 1, 1) := by decide +kernel
theorem dX12_houses_40 : decode cX12_houses 40 = .ok (.aload_n 0, 1) := by decide +kernel
theorem dX12_houses_41 : decode cX12_houses 41 = .ok (.getfield 13, 3) := by decide +kernel
theorem dX12_houses_44 : decode cX12_houses 44 = .ok (.iconst 2, 1) := by decide +kernel
theorem dX12_houses_45 : decode cX12_houses 45 = .ok (.iaload, 1) := by decide +kernel
theorem dX12_houses_46 : decode cX12_houses 46 = .ok (.ishl, 1) := by decide +kernel
theorem dX12_houses_47 : decode cX12_houses 47 = .ok (.if_icmp .ge 36, 3) := by decide +kernel
theorem dX12_houses_50 : decode cX12_houses 50 = .ok (.iload_n 3, 1) := by decide +kernel
theorem dX12_houses_51 : decode cX12_houses 51 = .ok (.iload 4, 2) := by decide +kernel
theorem dX12_houses_53 : decode cX12_houses 53 = .ok (.invokestatic 201, 3) := by decide +kernel
theorem dX12_houses_56 : decode cX12_houses 56 = .ok (.iload_n 1, 1) := by decide +kernel
theorem dX12_houses_57 : decode cX12_houses 57 = .ok (.if_icmp .ne 17, 3) := by decide +kernel
theorem dX12_houses_60 : decode cX12_houses 60 = .ok (.aload_n 0, 1) := by decide +kernel
theorem dX12_houses_61 : decode cX12_houses 61 = .ok (.iload 4, 2) := by decide +kernel
theorem dX12_houses_63 : decode cX12_houses 63 = .ok (.invokevirtual 369, 3) := by decide +kernel
theorem dX12_houses_66 : decode cX12_houses 66 = .ok (.iload_n 2, 1) := by decide +kernel
theorem dX12_houses_67 : decode cX12_houses 67 = .ok (.if_icmp .lt 7, 3) := by decide +kernel
theorem dX12_houses_70 : decode cX12_houses 70 = .ok (.iconst 1, 1) := by decide +kernel
theorem dX12_houses_71 : decode cX12_houses 71 = .ok (.goto 4, 3) := by decide +kernel
theorem dX12_houses_74 : decode cX12_houses 74 = .ok (.iconst 0, 1) := by decide +kernel
theorem dX12_houses_75 : decode cX12_houses 75 = .ok (.iadd, 1) := by decide +kernel
theorem dX12_houses_76 : decode cX12_houses 76 = .ok (.istore_n 3, 1) := by decide +kernel
theorem dX12_houses_77 : decode cX12_houses 77 = .ok (.iinc 4 1, 3) := by decide +kernel
theorem dX12_houses_80 : decode cX12_houses 80 = .ok (.goto (-43), 3) := by decide +kernel
theorem dX12_houses_83 : decode cX12_houses 83 = .ok (.iload_n 3, 1) := by decide +kernel
theorem dX12_houses_84 : decode cX12_houses 84 = .ok (.ireturn, 1) := by decide +kernel
set_option maxRecDepth 100000 in
set_option maxHeartbeats 4000000 in
theorem v_X12_houses_b37 {l : Launch} {p : Program} {e : Env} {s : State} {mt : MethodId} {args : Array Value} {below : List Frame} {meth : Method} {c : Code} {A : Nat → Prop} {ad0 : Nat → Nat} {G : Gt}  (C : Cx G p s mt args meth c RX12 cX12_houses 5 (some .int) "houses" A)  : ∀ (n : Nat) (y1 : Int32) (y2 : Int32) (y3 : Int32) (y4 : Int32) (m : Mem), V G SM oI l p e s mt args below meth c 5 3 A ad0 17 17 RM 17 RM 37 [(0, .ref 0), (1, .int y1), (2, .int y2), (3, .int y3), (4, .int y4)] [] m (X12_houses_b37  n y1 y2 y3 y4 m) := by
  intro n
  induction n with
  | zero =>
    intro y1 y2 y3 y4 m
    rw [X12_houses_b37]
    exact V.nil
  | succ n ih =>
    intro y1 y2 y3 y4 m
    rw [X12_houses_b37]
    refine V.iload (pc := 37) C dX12_houses_37 4 rfl ?_
    refine V.iconst (pc := 39) C dX12_houses_39 (v := 1) (by decide) ?_
    refine V.aload_n (pc := 40) C dX12_houses_40 0 rfl ?_
    refine V.getr (pc := 41) C fl_RX12_13 sM0 kM0 rfl rM0_1 dX12_houses_41 ?_
    refine V.iconst (pc := 44) C dX12_houses_44 (v := 2) (by decide) ?_
    refine V.iald (pc := 45) C sM1 kM1 dX12_houses_45 (fun _ => ?_)
    refine V.ishl (pc := 46) C dX12_houses_46 ?_
    refine V.icmp_ge (pc := 47) C dX12_houses_47 83 (by decide) (fun _ => ?_) (fun _ => ?_)
    · refine V.iload_n (pc := 83) C dX12_houses_83 3 rfl ?_
      exact V.iret C dX12_houses_84
    · refine V.iload_n (pc := 50) C dX12_houses_50 3 rfl ?_
      refine V.iload (pc := 51) C dX12_houses_51 4 rfl ?_
      refine V.callS (pc := 53) (st := [.int y3]) C (c_X12_bitsOf l y4 m) obI ck_X12_bitsOf ml_RX12_201 rfl rfl (Nat.le_of_ble_eq_true rfl) ⟨by decide, by decide⟩ dX12_houses_53 (fun r_6 m_7 _ => ?_)
      refine V.iload_n (pc := 56) C dX12_houses_56 1 rfl ?_
      refine V.icmp_ne (pc := 57) C dX12_houses_57 74 (by decide) (fun _ => ?_) (fun _ => ?_)
      · refine V.iconst (pc := 74) C dX12_houses_74 (v := 0) (by decide) ?_
        refine V.iadd (pc := 75) C dX12_houses_75 ?_
        refine V.lti (fun x_8 _ => ?_)
        refine V.istore_n (pc := 76) C dX12_houses_76 (L2 := [(3, .int x_8), (0, .ref 0), (1, .int y1), (2, .int y2), (4, .int y4)]) (by decide) rfl ?_
        refine V.iinc (pc := 77) C dX12_houses_77 (v := 1) (L2 := [(4, .int (y4 + 1)), (3, .int x_8), (0, .ref 0), (1, .int y1), (2, .int y2)]) 4 rfl (by decide) (by decide) rfl ?_
        refine V.goto (pc := 80) C dX12_houses_80 37 (by decide) ?_
        refine V.wk [2, 3, 4, 1, 0] rfl ?_
        exact ih y1 y2 x_8 (y4 + 1) m_7
      · refine V.aload_n (pc := 60) C dX12_houses_60 0 rfl ?_
        refine V.iload (pc := 61) C dX12_houses_61 4 rfl ?_
        refine V.callV (pc := 63) (st := [.int y3]) C (c_X12_sharedBy l y4 m_7) obI ck_X12_sharedBy ml_RX12_369 rfl rfl sM0 kM0 rfl rfl (Nat.le_of_ble_eq_true rfl) ⟨by decide, by decide⟩ dX12_houses_63 (fun r_9 m_10 _ => ?_)
        refine V.iload_n (pc := 66) C dX12_houses_66 2 rfl ?_
        refine V.icmp_lt (pc := 67) C dX12_houses_67 74 (by decide) (fun _ => ?_) (fun _ => ?_)
        · refine V.iconst (pc := 74) C dX12_houses_74 (v := 0) (by decide) ?_
          refine V.iadd (pc := 75) C dX12_houses_75 ?_
          refine V.lti (fun x_11 _ => ?_)
          refine V.istore_n (pc := 76) C dX12_houses_76 (L2 := [(3, .int x_11), (0, .ref 0), (1, .int y1), (2, .int y2), (4, .int y4)]) (by decide) rfl ?_
          refine V.iinc (pc := 77) C dX12_houses_77 (v := 1) (L2 := [(4, .int (y4 + 1)), (3, .int x_11), (0, .ref 0), (1, .int y1), (2, .int y2)]) 4 rfl (by decide) (by decide) rfl ?_
          refine V.goto (pc := 80) C dX12_houses_80 37 (by decide) ?_
          refine V.wk [2, 3, 4, 1, 0] rfl ?_
          exact ih y1 y2 x_11 (y4 + 1) m_10
        · refine V.iconst (pc := 70) C dX12_houses_70 (v := 1) (by decide) ?_
          refine V.goto (pc := 71) C dX12_houses_71 75 (by decide) ?_
          refine V.iadd (pc := 75) C dX12_houses_75 ?_
          refine V.lti (fun x_12 _ => ?_)
          refine V.istore_n (pc := 76) C dX12_houses_76 (L2 := [(3, .int x_12), (0, .ref 0), (1, .int y1), (2, .int y2), (4, .int y4)]) (by decide) rfl ?_
          refine V.iinc (pc := 77) C dX12_houses_77 (v := 1) (L2 := [(4, .int (y4 + 1)), (3, .int x_12), (0, .ref 0), (1, .int y1), (2, .int y2)]) 4 rfl (by decide) (by decide) rfl ?_
          refine V.goto (pc := 80) C dX12_houses_80 37 (by decide) ?_
          refine V.wk [2, 3, 4, 1, 0] rfl ?_
          exact ih y1 y2 x_12 (y4 + 1) m_10
set_option maxRecDepth 100000 in
set_option maxHeartbeats 4000000 in
theorem v_X12_houses {l : Launch} {p : Program} {e : Env} {s : State} {mt : MethodId} {args : Array Value} {below : List Frame} {meth : Method} {c : Code} {A : Nat → Prop} {ad0 : Nat → Nat} {G : Gt}  (C : Cx G p s mt args meth c RX12 cX12_houses 5 (some .int) "houses" A)  (x1 : Int32) (x2 : Int32) (m : Mem) : V G SM oI l p e s mt args below meth c 5 3 A ad0 17 17 RM 17 RM 0 [(0, .ref 0), (1, .int x1), (2, .int x2)] [] m (X12_houses  x1 x2 m) := by
  rw [X12_houses]
  refine V.aload_n (pc := 0) C dX12_houses_0 0 rfl ?_
  refine V.iconst (pc := 1) C dX12_houses_1 (v := 0) (by decide) ?_
  refine V.puti (pc := 2) C fp_RX12_1 sM0 kM0 rfl dX12_houses_2 ?_
  refine V.ltm (fun m_1 => ?_)
  refine V.iload_n (pc := 5) C dX12_houses_5 1 rfl ?_
  refine V.i2l (pc := 6) C dX12_houses_6 ?_
  refine V.lconst (pc := 7) C dX12_houses_7 (v := 1) (by decide) ?_
  refine V.ldc2 (pc := 8) C dX12_houses_8 (v := 8) cl_RX12_282 ?_
  refine V.callS (pc := 11) (st := []) C (c_X12_within l (Int32.toInt64 x1) 1 8 m_1) obI ck_X12_within ml_RX12_133 rfl rfl (Nat.le_of_ble_eq_true rfl) ⟨by decide, by decide⟩ dX12_houses_11 (fun r_2 m_3 _ => ?_)
  refine V.if_eq (pc := 14) C dX12_houses_14 29 (by decide) (fun _ => ?_) (fun _ => ?_)
  · refine V.bipush (pc := 29) C dX12_houses_29 (v := (-3)) (by decide) ?_
    exact V.iret C dX12_houses_31
  · refine V.iload_n (pc := 17) C dX12_houses_17 2 rfl ?_
    refine V.i2l (pc := 18) C dX12_houses_18 ?_
    refine V.lconst (pc := 19) C dX12_houses_19 (v := 0) (by decide) ?_
    refine V.ldc2 (pc := 20) C dX12_houses_20 (v := 14) cl_RX12_367 ?_
    refine V.callS (pc := 23) (st := []) C (c_X12_within l (Int32.toInt64 x2) 0 14 m_3) obI ck_X12_within ml_RX12_133 rfl rfl (Nat.le_of_ble_eq_true rfl) ⟨by decide, by decide⟩ dX12_houses_23 (fun r_4 m_5 _ => ?_)
    refine V.if_ne (pc := 26) C dX12_houses_26 32 (by decide) (fun _ => ?_) (fun _ => ?_)
    · refine V.iconst (pc := 32) C dX12_houses_32 (v := 0) (by decide) ?_
      refine V.istore_n (pc := 33) C dX12_houses_33 (L2 := [(3, .int 0), (0, .ref 0), (1, .int x1), (2, .int x2)]) (by decide) rfl ?_
      refine V.iconst (pc := 34) C dX12_houses_34 (v := 0) (by decide) ?_
      refine V.istore (pc := 35) C dX12_houses_35 (L2 := [(4, .int 0), (3, .int 0), (0, .ref 0), (1, .int x1), (2, .int x2)]) (by decide) rfl ?_
      refine V.wk [2, 3, 4, 1, 0] rfl ?_
      exact v_X12_houses_b37 C  FU x1 x2 0 0 m_5
    · refine V.bipush (pc := 29) C dX12_houses_29 (v := (-3)) (by decide) ?_
      exact V.iret C dX12_houses_31
theorem c_X12_houses (l : Launch)   (x1 : Int32) (x2 : Int32) (m : Mem) : Ct l yX12_houses cX12_houses 5 (some .int) 3 SM oI 17 17 RM RM [.ref 0, .int x1, .int x2] m (X12_houses  x1 x2 m) :=
  Ct.of (own := RX12) (nm := "houses") (by decide) rfl rfl (Nat.le_of_ble_eq_true rfl) (fun _ _ _ _ _ _ _ _ _ _ _ C => v_X12_houses C  x1 x2 m)
theorem dX12_image_0 : decode cX12_image 0 = .ok (.aload_n 0, 1) := by decide +kernel
theorem dX12_image_1 : decode cX12_image 1 = .ok (.iconst 0, 1) := by decide +kernel
theorem dX12_image_2 : decode cX12_image 2 = .ok (.putfield 1, 3) := by decide +kernel
theorem dX12_image_5 : decode cX12_image 5 = .ok (.iload_n 1, 1) := by decide +kernel
theorem dX12_image_6 : decode cX12_image 6 = .ok (.i2l, 1) := by decide +kernel
theorem dX12_image_7 : decode cX12_image 7 = .ok (.lconst 0, 1) := by decide +kernel
theorem dX12_image_8 : decode cX12_image 8 = .ok (.lconst 1, 1) := by decide +kernel
theorem dX12_image_9 : decode cX12_image 9 = .ok (.invokestatic 133, 3) := by decide +kernel
theorem dX12_image_12 : decode cX12_image 12 = .ok (.ifCond .ne 6, 3) := by decide +kernel
theorem dX12_image_15 : decode cX12_image 15 = .ok (.bipush (-2), 2) := by decide +kernel
theorem dX12_image_17 : decode cX12_image 17 = .ok (.ireturn, 1) := by decide +kernel
theorem dX12_image_18 : decode cX12_image 18 = .ok (.iconst 0, 1) := by decide +kernel
theorem dX12_image_19 : decode cX12_image 19 = .ok (.istore_n 2, 1) := by decide +kernel
theorem dX12_image_20 : decode cX12_image 20 = .ok (.iload_n 2, 1) := by decide +kernel
theorem dX12_image_21 : decode cX12_image 21 = .ok (.sipush 2096, 3) := by decide +kernel
theorem dX12_image_24 : decode cX12_image 24 = .ok (.if_icmp .ge 29, 3) := by decide +kernel
theorem dX12_image_27 : decode cX12_image 27 = .ok (.aload_n 0, 1) := by decide +kernel
theorem dX12_image_28 : decode cX12_image 28 = .ok (.getfield 13, 3) := by decide +kernel
theorem dX12_image_31 : decode cX12_image 31 = .ok (.sipush 2096, 3) := by decide +kernel
theorem dX12_image_34 : decode cX12_image 34 = .ok (.iload_n 1, 1) := by decide +kernel
theorem dX12_image_35 : decode cX12_image 35 = .ok (.iconst 1, 1) := by decide +kernel
theorem dX12_image_36 : decode cX12_image 36 = .ok (.iadd, 1) := by decide +kernel
theorem dX12_image_37 : decode cX12_image 37 = .ok (.imul, 1) := by decide +kernel
theorem dX12_image_38 : decode cX12_image 38 = .ok (.iload_n 2, 1) := by decide +kernel
theorem dX12_image_39 : decode cX12_image 39 = .ok (.iadd, 1) := by decide +kernel
theorem dX12_image_40 : decode cX12_image 40 = .ok (.aload_n 0, 1) := by decide +kernel
theorem dX12_image_41 : decode cX12_image 41 = .ok (.getfield 13, 3) := by decide +kernel
theorem dX12_image_44 : decode cX12_image 44 = .ok (.iload_n 2, 1) := by decide +kernel
theorem dX12_image_45 : decode cX12_image 45 = .ok (.iaload, 1) := by decide +kernel
theorem dX12_image_46 : decode cX12_image 46 = .ok (.iastore, 1) := by decide +kernel
theorem dX12_image_47 : decode cX12_image 47 = .ok (.iinc 2 1, 3) := by decide +kernel
theorem dX12_image_50 : decode cX12_image 50 = .ok (.goto (-30), 3) := by decide +kernel
theorem dX12_image_53 : decode cX12_image 53 = .ok (.aload_n 0, 1) := by decide +kernel
theorem dX12_image_54 : decode cX12_image 54 = .ok (.getfield 17, 3) := by decide +kernel
theorem dX12_image_57 : decode cX12_image 57 = .ok (.iload_n 1, 1) := by decide +kernel
theorem dX12_image_58 : decode cX12_image 58 = .ok (.iconst 1, 1) := by decide +kernel
theorem dX12_image_59 : decode cX12_image 59 = .ok (.bastore, 1) := by decide +kernel
theorem dX12_image_60 : decode cX12_image 60 = .ok (.iconst 0, 1) := by decide +kernel
theorem dX12_image_61 : decode cX12_image 61 = .ok (.ireturn, 1) := by decide +kernel
set_option maxRecDepth 100000 in
set_option maxHeartbeats 4000000 in
theorem v_X12_image_b20 {l : Launch} {p : Program} {e : Env} {s : State} {mt : MethodId} {args : Array Value} {below : List Frame} {meth : Method} {c : Code} {A : Nat → Prop} {ad0 : Nat → Nat} {G : Gt}  (C : Cx G p s mt args meth c RX12 cX12_image 3 (some .int) "image" A)  : ∀ (n : Nat) (y1 : Int32) (y2 : Int32) (m : Mem), V G SM oI l p e s mt args below meth c 3 2 A ad0 17 17 RM 17 RM 20 [(0, .ref 0), (1, .int y1), (2, .int y2)] [] m (X12_image_b20  n y1 y2 m) := by
  intro n
  induction n with
  | zero =>
    intro y1 y2 m
    rw [X12_image_b20]
    exact V.nil
  | succ n ih =>
    intro y1 y2 m
    rw [X12_image_b20]
    refine V.iload_n (pc := 20) C dX12_image_20 2 rfl ?_
    refine V.sipush (pc := 21) C dX12_image_21 (v := 2096) (by decide) ?_
    refine V.icmp_ge (pc := 24) C dX12_image_24 53 (by decide) (fun _ => ?_) (fun _ => ?_)
    · refine V.aload_n (pc := 53) C dX12_image_53 0 rfl ?_
      refine V.getr (pc := 54) C fl_RX12_17 sM0 kM0 rfl rM0_2 dX12_image_54 ?_
      refine V.iload_n (pc := 57) C dX12_image_57 1 rfl ?_
      refine V.iconst (pc := 58) C dX12_image_58 (v := 1) (by decide) ?_
      refine V.zast (pc := 59) C sM2 kM2 dX12_image_59 (fun _ => ?_)
      refine V.ltm (fun m_4 => ?_)
      refine V.iconst (pc := 60) C dX12_image_60 (v := 0) (by decide) ?_
      exact V.iret C dX12_image_61
    · refine V.aload_n (pc := 27) C dX12_image_27 0 rfl ?_
      refine V.getr (pc := 28) C fl_RX12_13 sM0 kM0 rfl rM0_1 dX12_image_28 ?_
      refine V.sipush (pc := 31) C dX12_image_31 (v := 2096) (by decide) ?_
      refine V.iload_n (pc := 34) C dX12_image_34 1 rfl ?_
      refine V.iconst (pc := 35) C dX12_image_35 (v := 1) (by decide) ?_
      refine V.iadd (pc := 36) C dX12_image_36 ?_
      refine V.imul (pc := 37) C dX12_image_37 ?_
      refine V.iload_n (pc := 38) C dX12_image_38 2 rfl ?_
      refine V.iadd (pc := 39) C dX12_image_39 ?_
      refine V.aload_n (pc := 40) C dX12_image_40 0 rfl ?_
      refine V.getr (pc := 41) C fl_RX12_13 sM0 kM0 rfl rM0_1 dX12_image_41 ?_
      refine V.iload_n (pc := 44) C dX12_image_44 2 rfl ?_
      refine V.iald (pc := 45) C sM1 kM1 dX12_image_45 (fun _ => ?_)
      refine V.iast (pc := 46) C sM1 kM1 dX12_image_46 (fun _ => ?_)
      refine V.ltm (fun m_5 => ?_)
      refine V.iinc (pc := 47) C dX12_image_47 (v := 1) (L2 := [(2, .int (y2 + 1)), (0, .ref 0), (1, .int y1)]) 2 rfl (by decide) (by decide) rfl ?_
      refine V.goto (pc := 50) C dX12_image_50 20 (by decide) ?_
      refine V.wk [1, 2, 0] rfl ?_
      exact ih y1 (y2 + 1) m_5
set_option maxRecDepth 100000 in
set_option maxHeartbeats 4000000 in
theorem v_X12_image {l : Launch} {p : Program} {e : Env} {s : State} {mt : MethodId} {args : Array Value} {below : List Frame} {meth : Method} {c : Code} {A : Nat → Prop} {ad0 : Nat → Nat} {G : Gt}  (C : Cx G p s mt args meth c RX12 cX12_image 3 (some .int) "image" A)  (x1 : Int32) (m : Mem) : V G SM oI l p e s mt args below meth c 3 2 A ad0 17 17 RM 17 RM 0 [(0, .ref 0), (1, .int x1)] [] m (X12_image  x1 m) := by
  rw [X12_image]
  refine V.aload_n (pc := 0) C dX12_image_0 0 rfl ?_
  refine V.iconst (pc := 1) C dX12_image_1 (v := 0) (by decide) ?_
  refine V.puti (pc := 2) C fp_RX12_1 sM0 kM0 rfl dX12_image_2 ?_
  refine V.ltm (fun m_1 => ?_)
  refine V.iload_n (pc := 5) C dX12_image_5 1 rfl ?_
  refine V.i2l (pc := 6) C dX12_image_6 ?_
  refine V.lconst (pc := 7) C dX12_image_7 (v := 0) (by decide) ?_
  refine V.lconst (pc := 8) C dX12_image_8 (v := 1) (by decide) ?_
  refine V.callS (pc := 9) (st := []) C (c_X12_within l (Int32.toInt64 x1) 0 1 m_1) obI ck_X12_within ml_RX12_133 rfl rfl (Nat.le_of_ble_eq_true rfl) ⟨by decide, by decide⟩ dX12_image_9 (fun r_2 m_3 _ => ?_)
  refine V.if_ne (pc := 12) C dX12_image_12 18 (by decide) (fun _ => ?_) (fun _ => ?_)
  · refine V.iconst (pc := 18) C dX12_image_18 (v := 0) (by decide) ?_
    refine V.istore_n (pc := 19) C dX12_image_19 (L2 := [(2, .int 0), (0, .ref 0), (1, .int x1)]) (by decide) rfl ?_
    refine V.wk [1, 2, 0] rfl ?_
    exact v_X12_image_b20 C  FU x1 0 m_3
  · refine V.bipush (pc := 15) C dX12_image_15 (v := (-2)) (by decide) ?_
    exact V.iret C dX12_image_17
theorem c_X12_image (l : Launch)   (x1 : Int32) (m : Mem) : Ct l yX12_image cX12_image 3 (some .int) 2 SM oI 17 17 RM RM [.ref 0, .int x1] m (X12_image  x1 m) :=
  Ct.of (own := RX12) (nm := "image") (by decide) rfl rfl (Nat.le_of_ble_eq_true rfl) (fun _ _ _ _ _ _ _ _ _ _ _ C => v_X12_image C  x1 m)
theorem dX12_isAgain_0 : decode cX12_isAgain 0 = .ok (.iconst 0, 1) := by decide +kernel
theorem dX12_isAgain_1 : decode cX12_isAgain 1 = .ok (.istore_n 1, 1) := by decide +kernel
theorem dX12_isAgain_2 : decode cX12_isAgain 2 = .ok (.iload_n 1, 1) := by decide +kernel
theorem dX12_isAgain_3 : decode cX12_isAgain 3 = .ok (.sipush 129, 3) := by decide +kernel
theorem dX12_isAgain_6 : decode cX12_isAgain 6 = .ok (.if_icmp .ge 24, 3) := by decide +kernel
theorem dX12_isAgain_9 : decode cX12_isAgain 9 = .ok (.aload_n 0, 1) := by decide +kernel
theorem dX12_isAgain_10 : decode cX12_isAgain 10 = .ok (.getfield 13, 3) := by decide +kernel
theorem dX12_isAgain_13 : decode cX12_isAgain 13 = .ok (.bipush 33, 2) := by decide +kernel
theorem dX12_isAgain_15 : decode cX12_isAgain 15 = .ok (.iload_n 1, 1) := by decide +kernel
theorem dX12_isAgain_16 : decode cX12_isAgain 16 = .ok (.iadd, 1) := by decide +kernel
theorem dX12_isAgain_17 : decode cX12_isAgain 17 = .ok (.aload_n 0, 1) := by decide +kernel
theorem dX12_isAgain_18 : decode cX12_isAgain 18 = .ok (.getfield 36, 3) := by decide +kernel
theorem dX12_isAgain_21 : decode cX12_isAgain 21 = .ok (.iload_n 1, 1) := by decide +kernel
theorem dX12_isAgain_22 : decode cX12_isAgain 22 = .ok (.iaload, 1) := by decide +kernel
theorem dX12_isAgain_23 : decode cX12_isAgain 23 = .ok (.iastore, 1) := by decide +kernel
theorem dX12_isAgain_24 : decode cX12_isAgain 24 = .ok (.iinc 1 1, 3) := by decide +kernel
theorem dX12_isAgain_27 : decode cX12_isAgain 27 = .ok (.goto (-25), 3) := by decide +kernel
theorem dX12_isAgain_30 : decode cX12_isAgain 30 = .ok (.return_, 1) := by decide +kernel
set_option maxRecDepth 100000 in
set_option maxHeartbeats 4000000 in
theorem v_X12_isAgain_b2 {l : Launch} {p : Program} {e : Env} {s : State} {mt : MethodId} {args : Array Value} {below : List Frame} {meth : Method} {c : Code} {A : Nat → Prop} {ad0 : Nat → Nat} {G : Gt}  (C : Cx G p s mt args meth c RX12 cX12_isAgain 2 none "isAgain" A)  : ∀ (n : Nat) (y1 : Int32) (m : Mem), V G SM oV l p e s mt args below meth c 2 1 A ad0 17 17 RM 17 RM 2 [(0, .ref 0), (1, .int y1)] [] m (X12_isAgain_b2  n y1 m) := by
  intro n
  induction n with
  | zero =>
    intro y1 m
    rw [X12_isAgain_b2]
    exact V.nil
  | succ n ih =>
    intro y1 m
    rw [X12_isAgain_b2]
    refine V.iload_n (pc := 2) C dX12_isAgain_2 1 rfl ?_
    refine V.sipush (pc := 3) C dX12_isAgain_3 (v := 129) (by decide) ?_
    refine V.icmp_ge (pc := 6) C dX12_isAgain_6 30 (by decide) (fun _ => ?_) (fun _ => ?_)
    · exact V.vret C dX12_isAgain_30
    · refine V.aload_n (pc := 9) C dX12_isAgain_9 0 rfl ?_
      refine V.getr (pc := 10) C fl_RX12_13 sM0 kM0 rfl rM0_1 dX12_isAgain_10 ?_
      refine V.bipush (pc := 13) C dX12_isAgain_13 (v := 33) (by decide) ?_
      refine V.iload_n (pc := 15) C dX12_isAgain_15 1 rfl ?_
      refine V.iadd (pc := 16) C dX12_isAgain_16 ?_
      refine V.aload_n (pc := 17) C dX12_isAgain_17 0 rfl ?_
      refine V.getr (pc := 18) C fl_RX12_36 sM0 kM0 rfl rM0_17 dX12_isAgain_18 ?_
      refine V.iload_n (pc := 21) C dX12_isAgain_21 1 rfl ?_
      refine V.iald (pc := 22) C sM7 kM7 dX12_isAgain_22 (fun _ => ?_)
      refine V.iast (pc := 23) C sM1 kM1 dX12_isAgain_23 (fun _ => ?_)
      refine V.ltm (fun m_1 => ?_)
      refine V.iinc (pc := 24) C dX12_isAgain_24 (v := 1) (L2 := [(1, .int (y1 + 1)), (0, .ref 0)]) 1 rfl (by decide) (by decide) rfl ?_
      refine V.goto (pc := 27) C dX12_isAgain_27 2 (by decide) ?_
      refine V.wk [1, 0] rfl ?_
      exact ih (y1 + 1) m_1
set_option maxRecDepth 100000 in
set_option maxHeartbeats 4000000 in
theorem v_X12_isAgain {l : Launch} {p : Program} {e : Env} {s : State} {mt : MethodId} {args : Array Value} {below : List Frame} {meth : Method} {c : Code} {A : Nat → Prop} {ad0 : Nat → Nat} {G : Gt}  (C : Cx G p s mt args meth c RX12 cX12_isAgain 2 none "isAgain" A)  (m : Mem) : V G SM oV l p e s mt args below meth c 2 1 A ad0 17 17 RM 17 RM 0 [(0, .ref 0)] [] m (X12_isAgain   m) := by
  rw [X12_isAgain]
  refine V.iconst (pc := 0) C dX12_isAgain_0 (v := 0) (by decide) ?_
  refine V.istore_n (pc := 1) C dX12_isAgain_1 (L2 := [(1, .int 0), (0, .ref 0)]) (by decide) rfl ?_
  refine V.wk [1, 0] rfl ?_
  exact v_X12_isAgain_b2 C  FU 0 m
theorem c_X12_isAgain (l : Launch)   (m : Mem) : Ct l yX12_isAgain cX12_isAgain 2 none 1 SM oV 17 17 RM RM [.ref 0] m (X12_isAgain   m) :=
  Ct.of (own := RX12) (nm := "isAgain") (by decide) rfl rfl (Nat.le_of_ble_eq_true rfl) (fun _ _ _ _ _ _ _ _ _ _ _ C => v_X12_isAgain C   m)
theorem dX12_noTray_0 : decode cX12_noTray 0 = .ok (.iload_n 1, 1) := by decide +kernel
theorem dX12_noTray_1 : decode cX12_noTray 1 = .ok (.i2l, 1) := by decide +kernel
theorem dX12_noTray_2 : decode cX12_noTray 2 = .ok (.lconst 0, 1) := by decide +kernel
theorem dX12_noTray_3 : decode cX12_noTray 3 = .ok (.ldc2_w 287, 3) := by decide +kernel
theorem dX12_noTray_6 : decode cX12_noTray 6 = .ok (.invokestatic 133, 3) := by decide +kernel
theorem dX12_noTray_9 : decode cX12_noTray 9 = .ok (.ifCond .ne 8, 3) := by decide +kernel
theorem dX12_noTray_12 : decode cX12_noTray 12 = .ok (.bipush (-2), 2) := by decide +kernel
theorem dX12_noTray_14 : decode cX12_noTray 14 = .ok (.goto 19, 3) := by decide +kernel
theorem dX12_noTray_17 : decode cX12_noTray 17 = .ok (.aload_n 0, 1) := by decide +kernel
theorem dX12_noTray_18 : decode cX12_noTray 18 = .ok (.getfield 57, 3) := by decide +kernel
theorem dX12_noTray_21 : decode cX12_noTray 21 = .ok (.iload_n 1, 1) := by decide +kernel
theorem dX12_noTray_22 : decode cX12_noTray 22 = .ok (.iaload, 1) := by decide +kernel
theorem dX12_noTray_23 : decode cX12_noTray 23 = .ok (.iconst (-1), 1) := by decide +kernel
theorem dX12_noTray_24 : decode cX12_noTray 24 = .ok (.if_icmp .ne 8, 3) := by decide +kernel
theorem dX12_noTray_27 : decode cX12_noTray 27 = .ok (.bipush (-6), 2) := by decide +kernel
theorem dX12_noTray_29 : decode cX12_noTray 29 = .ok (.goto 4, 3) := by decide +kernel
theorem dX12_noTray_32 : decode cX12_noTray 32 = .ok (.iconst 0, 1) := by decide +kernel
theorem dX12_noTray_33 : decode cX12_noTray 33 = .ok (.ireturn, 1) := by decide +kernel
set_option maxRecDepth 100000 in
set_option maxHeartbeats 4000000 in
theorem v_X12_noTray {l : Launch} {p : Program} {e : Env} {s : State} {mt : MethodId} {args : Array Value} {below : List Frame} {meth : Method} {c : Code} {A : Nat → Prop} {ad0 : Nat → Nat} {G : Gt}  (C : Cx G p s mt args meth c RX12 cX12_noTray 2 (some .int) "noTray" A)  (x1 : Int32) (m : Mem) : V G SM oI l p e s mt args below meth c 2 2 A ad0 17 17 RM 17 RM 0 [(0, .ref 0), (1, .int x1)] [] m (X12_noTray  x1 m) := by
  rw [X12_noTray]
  refine V.iload_n (pc := 0) C dX12_noTray_0 1 rfl ?_
  refine V.i2l (pc := 1) C dX12_noTray_1 ?_
  refine V.lconst (pc := 2) C dX12_noTray_2 (v := 0) (by decide) ?_
  refine V.ldc2 (pc := 3) C dX12_noTray_3 (v := 3) cl_RX12_287 ?_
  refine V.callS (pc := 6) (st := []) C (c_X12_within l (Int32.toInt64 x1) 0 3 m) obI ck_X12_within ml_RX12_133 rfl rfl (Nat.le_of_ble_eq_true rfl) ⟨by decide, by decide⟩ dX12_noTray_6 (fun r_1 m_2 _ => ?_)
  refine V.if_ne (pc := 9) C dX12_noTray_9 17 (by decide) (fun _ => ?_) (fun _ => ?_)
  · refine V.aload_n (pc := 17) C dX12_noTray_17 0 rfl ?_
    refine V.getr (pc := 18) C fl_RX12_57 sM0 kM0 rfl rM0_30 dX12_noTray_18 ?_
    refine V.iload_n (pc := 21) C dX12_noTray_21 1 rfl ?_
    refine V.iald (pc := 22) C sM14 kM14 dX12_noTray_22 (fun _ => ?_)
    refine V.iconst (pc := 23) C dX12_noTray_23 (v := (-1)) (by decide) ?_
    refine V.icmp_ne (pc := 24) C dX12_noTray_24 32 (by decide) (fun _ => ?_) (fun _ => ?_)
    · refine V.iconst (pc := 32) C dX12_noTray_32 (v := 0) (by decide) ?_
      exact V.iret C dX12_noTray_33
    · refine V.bipush (pc := 27) C dX12_noTray_27 (v := (-6)) (by decide) ?_
      refine V.goto (pc := 29) C dX12_noTray_29 33 (by decide) ?_
      exact V.iret C dX12_noTray_33
  · refine V.bipush (pc := 12) C dX12_noTray_12 (v := (-2)) (by decide) ?_
    refine V.goto (pc := 14) C dX12_noTray_14 33 (by decide) ?_
    exact V.iret C dX12_noTray_33
theorem c_X12_noTray (l : Launch)   (x1 : Int32) (m : Mem) : Ct l yX12_noTray cX12_noTray 2 (some .int) 2 SM oI 17 17 RM RM [.ref 0, .int x1] m (X12_noTray  x1 m) :=
  Ct.of (own := RX12) (nm := "noTray") (by decide) rfl rfl (Nat.le_of_ble_eq_true rfl) (fun _ _ _ _ _ _ _ _ _ _ _ C => v_X12_noTray C  x1 m)
theorem dX12_whyNot_0 : decode cX12_whyNot 0 = .ok (.lload_n 1, 1) := by decide +kernel
theorem dX12_whyNot_1 : decode cX12_whyNot 1 = .ok (.ldc2_w 248, 3) := by decide +kernel
theorem dX12_whyNot_4 : decode cX12_whyNot 4 = .ok (.lcmp, 1) := by decide +kernel
theorem dX12_whyNot_5 : decode cX12_whyNot 5 = .ok (.ifCond .ne 5, 3) := by decide +kernel
theorem dX12_whyNot_8 : decode cX12_whyNot 8 = .ok (.iconst 0, 1) := by decide +kernel
theorem dX12_whyNot_9 : decode cX12_whyNot 9 = .ok (.ireturn, 1) := by decide +kernel
theorem dX12_whyNot_10 : decode cX12_whyNot 10 = .ok (.lload_n 1, 1) := by decide +kernel
theorem dX12_whyNot_11 : decode cX12_whyNot 11 = .ok (.lconst 0, 1) := by decide +kernel
theorem dX12_whyNot_12 : decode cX12_whyNot 12 = .ok (.ldc2_w 250, 3) := by decide +kernel
theorem dX12_whyNot_15 : decode cX12_whyNot 15 = .ok (.invokestatic 133, 3) := by decide +kernel
theorem dX12_whyNot_18 : decode cX12_whyNot 18 = .ok (.ifCond .ne 5, 3) := by decide +kernel
theorem dX12_whyNot_21 : decode cX12_whyNot 21 = .ok (.iconst 1, 1) := by decide +kernel
theorem dX12_whyNot_22 : decode cX12_whyNot 22 = .ok (.ireturn, 1) := by decide +kernel
theorem dX12_whyNot_23 : decode cX12_whyNot 23 = .ok (.lload_n 1, 1) := by decide +kernel
theorem dX12_whyNot_24 : decode cX12_whyNot 24 = .ok (.l2i, 1) := by decide +kernel
theorem dX12_whyNot_25 : decode cX12_whyNot 25 = .ok (.istore_n 3, 1) := by decide +kernel
theorem dX12_whyNot_26 : decode cX12_whyNot 26 = .ok (.iload_n 3, 1) := by decide +kernel
theorem dX12_whyNot_27 : decode cX12_whyNot 27 = .ok (.bipush 100, 2) := by decide +kernel
theorem dX12_whyNot_29 : decode cX12_whyNot 29 = .ok (.idiv, 1) := by decide +kernel
theorem dX12_whyNot_30 : decode cX12_whyNot 30 = .ok (.bipush 10, 2) := by decide +kernel
theorem dX12_whyNot_32 : decode cX12_whyNot 32 = .ok (.irem, 1) := by decide +kernel
theorem dX12_whyNot_33 : decode cX12_whyNot 33 = .ok (.istore 4, 2) := by decide +kernel
theorem dX12_whyNot_35 : decode cX12_whyNot 35 = .ok (.iload_n 3, 1) := by decide +kernel
theorem dX12_whyNot_36 : decode cX12_whyNot 36 = .ok (.bipush 100, 2) := by decide +kernel
theorem dX12_whyNot_38 : decode cX12_whyNot 38 = .ok (.irem, 1) := by decide +kernel
theorem dX12_whyNot_39 : decode cX12_whyNot 39 = .ok (.istore 5, 2) := by decide +kernel
theorem dX12_whyNot_41 : decode cX12_whyNot 41 = .ok (.iload_n 3, 1) := by decide +kernel
theorem dX12_whyNot_42 : decode cX12_whyNot 42 = .ok (.sipush 1000, 3) := by decide +kernel
theorem dX12_whyNot_45 : decode cX12_whyNot 45 = .ok (.if_icmp .lt 67, 3) := by decide +kernel
theorem dX12_whyNot_48 : decode cX12_whyNot 48 = .ok (.iload_n 3, 1) := by decide +kernel
theorem dX12_whyNot_49 : decode cX12_whyNot 49 = .ok (.sipush 2000, 3) := by decide +kernel
theorem dX12_whyNot_52 : decode cX12_whyNot 52 = .ok (.if_icmp .ge 60, 3) := by decide +kernel
theorem dX12_whyNot_55 : decode cX12_whyNot 55 = .ok (.aload_n 0, 1) := by decide +kernel
theorem dX12_whyNot_56 : decode cX12_whyNot 56 = .ok (.iload 4, 2) := by decide +kernel
theorem dX12_whyNot_58 : decode cX12_whyNot 58 = .ok (.i2l, 1) := by decide +kernel
theorem dX12_whyNot_59 : decode cX12_whyNot 59 = .ok (.invokevirtual 194, 3) := by decide +kernel
theorem dX12_whyNot_62 : decode cX12_whyNot 62 = .ok (.ifCond .eq 13, 3) := by decide +kernel
theorem dX12_whyNot_65 : decode cX12_whyNot 65 = .ok (.aload_n 0, 1) := by decide +kernel
theorem dX12_whyNot_66 : decode cX12_whyNot 66 = .ok (.iload 5, 2) := by decide +kernel
theorem dX12_whyNot_68 : decode cX12_whyNot 68 = .ok (.i2l, 1) := by decide +kernel
theorem dX12_whyNot_69 : decode cX12_whyNot 69 = .ok (.invokevirtual 210, 3) := by decide +kernel
theorem dX12_whyNot_72 : decode cX12_whyNot 72 = .ok (.ifCond .ne 5, 3) := by decide +kernel
theorem dX12_whyNot_75 : decode cX12_whyNot 75 = .ok (.iconst 1, 1) := by decide +kernel
theorem dX12_whyNot_76 : decode cX12_whyNot 76 = .ok (.ireturn, 1) := by decide +kernel
theorem dX12_whyNot_77 : decode cX12_whyNot 77 = .ok (.aload_n 0, 1) := by decide +kernel
theorem dX12_whyNot_78 : decode cX12_whyNot 78 = .ok (.getfield 13, 3) := by decide +kernel
theorem dX12_whyNot_81 : decode cX12_whyNot 81 = .ok (.bipush 41, 2) := by decide +kernel
theorem dX12_whyNot_83 : decode cX12_whyNot 83 = .ok (.bipush 14, 2) := by decide +kernel
theorem dX12_whyNot_85 : decode cX12_whyNot 85 = .ok (.iload 4, 2) := by decide +kernel
theorem dX12_whyNot_87 : decode cX12_whyNot 87 = .ok (.imul, 1) := by decide +kernel
theorem dX12_whyNot_88 : decode cX12_whyNot 88 = .ok (.iadd, 1) := by decide +kernel
theorem dX12_whyNot_89 : decode cX12_whyNot 89 = .ok (.iload 5, 2) := by decide +kernel
theorem dX12_whyNot_91 : decode cX12_whyNot 91 = .ok (.iadd, 1) := by decide +kernel
theorem dX12_whyNot_92 : decode cX12_whyNot 92 = .ok (.iaload, 1) := by decide +kernel
theorem dX12_whyNot_93 : decode cX12_whyNot 93 = .ok (.iconst (-1), 1) := by decide +kernel
theorem dX12_whyNot_94 : decode cX12_whyNot 94 = .ok (.if_icmp .ne 12, 3) := by decide +kernel
theorem dX12_whyNot_97 : decode cX12_whyNot 97 = .ok (.aload_n 0, 1) := by decide +kernel
theorem dX12_whyNot_98 : decode cX12_whyNot 98 = .ok (.iload 4, 2) := by decide +kernel
theorem dX12_whyNot_100 : decode cX12_whyNot 100 = .ok (.invokevirtual 252, 3) := by decide +kernel
theorem dX12_whyNot_103 : decode cX12_whyNot 103 = .ok (.ifCond .eq 7, 3) := by decide +kernel
theorem dX12_whyNot_106 : decode cX12_whyNot 106 = .ok (.iconst 0, 1) := by decide +kernel
theorem dX12_whyNot_107 : decode cX12_whyNot 107 = .ok (.goto 4, 3) := by decide +kernel
theorem dX12_whyNot_110 : decode cX12_whyNot 110 = .ok (.iconst 4, 1) := by decide +kernel
theorem dX12_whyNot_111 : decode cX12_whyNot 111 = .ok (.ireturn, 1) := by decide +kernel
theorem dX12_whyNot_112 : decode cX12_whyNot 112 = .ok (.aload_n 0, 1) := by decide +kernel
theorem dX12_whyNot_113 : decode cX12_whyNot 113 = .ok (.iload 4, 2) := by decide +kernel
theorem dX12_whyNot_115 : decode cX12_whyNot 115 = .ok (.i2l, 1) := by decide +kernel
theorem dX12_whyNot_116 : decode cX12_whyNot 116 = .ok (.iload 5, 2) := by decide +kernel
theorem dX12_whyNot_118 : decode cX12_whyNot 118 = .ok (.i2l, 1) := by decide +kernel
theorem dX12_whyNot_119 : decode cX12_whyNot 119 = .ok (.invokevirtual 234, 3) := by decide +kernel
theorem dX12_whyNot_122 : decode cX12_whyNot 122 = .ok (.ifCond .ne 5, 3) := by decide +kernel
theorem dX12_whyNot_125 : decode cX12_whyNot 125 = .ok (.iconst 1, 1) := by decide +kernel
theorem dX12_whyNot_126 : decode cX12_whyNot 126 = .ok (.ireturn, 1) := by decide +kernel
theorem dX12_whyNot_127 : decode cX12_whyNot 127 = .ok (.iload_n 3, 1) := by decide +kernel
theorem dX12_whyNot_128 : decode cX12_whyNot 128 = .ok (.sipush 2000, 3) := by decide +kernel
theorem dX12_whyNot_131 : decode cX12_whyNot 131 = .ok (.if_icmp .ge 19, 3) := by decide +kernel
theorem dX12_whyNot_134 : decode cX12_whyNot 134 = .ok (.aload_n 0, 1) := by decide +kernel
theorem dX12_whyNot_135 : decode cX12_whyNot 135 = .ok (.getfield 13, 3) := by decide +kernel
theorem dX12_whyNot_138 : decode cX12_whyNot 138 = .ok (.sipush 153, 3) := by decide +kernel
theorem dX12_whyNot_141 : decode cX12_whyNot 141 = .ok (.iload 4, 2) := by decide +kernel
theorem dX12_whyNot_143 : decode cX12_whyNot 143 = .ok (.iadd, 1) := by decide +kernel
theorem dX12_whyNot_144 : decode cX12_whyNot 144 = .ok (.iaload, 1) := by decide +kernel
theorem dX12_whyNot_145 : decode cX12_whyNot 145 = .ok (.iload 5, 2) := by decide +kernel
theorem dX12_whyNot_147 : decode cX12_whyNot 147 = .ok (.if_icmp .ne 5, 3) := by decide +kernel
theorem dX12_whyNot_150 : decode cX12_whyNot 150 = .ok (.iconst 0, 1) := by decide +kernel
theorem dX12_whyNot_151 : decode cX12_whyNot 151 = .ok (.ireturn, 1) := by decide +kernel
theorem dX12_whyNot_152 : decode cX12_whyNot 152 = .ok (.aload_n 0, 1) := by decide +kernel
theorem dX12_whyNot_153 : decode cX12_whyNot 153 = .ok (.getfield 13, 3) := by decide +kernel
theorem dX12_whyNot_156 : decode cX12_whyNot 156 = .ok (.sipush 153, 3) := by decide +kernel
theorem dX12_whyNot_159 : decode cX12_whyNot 159 = .ok (.iload 4, 2) := by decide +kernel
theorem dX12_whyNot_161 : decode cX12_whyNot 161 = .ok (.iadd, 1) := by decide +kernel
theorem dX12_whyNot_162 : decode cX12_whyNot 162 = .ok (.iaload, 1) := by decide +kernel
theorem dX12_whyNot_163 : decode cX12_whyNot 163 = .ok (.iconst (-1), 1) := by decide +kernel
theorem dX12_whyNot_164 : decode cX12_whyNot 164 = .ok (.if_icmp .ne 18, 3) := by decide +kernel
theorem dX12_whyNot_167 : decode cX12_whyNot 167 = .ok (.aload_n 0, 1) := by decide +kernel
theorem dX12_whyNot_168 : decode cX12_whyNot 168 = .ok (.getfield 13, 3) := by decide +kernel
theorem dX12_whyNot_171 : decode cX12_whyNot 171 = .ok (.sipush 153, 3) := by decide +kernel
theorem dX12_whyNot_174 : decode cX12_whyNot 174 = .ok (.iload 5, 2) := by decide +kernel
theorem dX12_whyNot_176 : decode cX12_whyNot 176 = .ok (.iadd, 1) := by decide +kernel
theorem dX12_whyNot_177 : decode cX12_whyNot 177 = .ok (.iaload, 1) := by decide +kernel
theorem dX12_whyNot_178 : decode cX12_whyNot 178 = .ok (.iconst (-1), 1) := by decide +kernel
theorem dX12_whyNot_179 : decode cX12_whyNot 179 = .ok (.if_icmp .eq 7, 3) := by decide +kernel
theorem dX12_whyNot_182 : decode cX12_whyNot 182 = .ok (.iconst 2, 1) := by decide +kernel
theorem dX12_whyNot_183 : decode cX12_whyNot 183 = .ok (.goto 19, 3) := by decide +kernel
theorem dX12_whyNot_186 : decode cX12_whyNot 186 = .ok (.aload_n 0, 1) := by decide +kernel
theorem dX12_whyNot_187 : decode cX12_whyNot 187 = .ok (.iload 4, 2) := by decide +kernel
theorem dX12_whyNot_189 : decode cX12_whyNot 189 = .ok (.iload 5, 2) := by decide +kernel
theorem dX12_whyNot_191 : decode cX12_whyNot 191 = .ok (.invokevirtual 244, 3) := by decide +kernel
theorem dX12_whyNot_194 : decode cX12_whyNot 194 = .ok (.ifCond .eq 7, 3) := by decide +kernel
theorem dX12_whyNot_197 : decode cX12_whyNot 197 = .ok (.iconst 0, 1) := by decide +kernel
theorem dX12_whyNot_198 : decode cX12_whyNot 198 = .ok (.goto 4, 3) := by decide +kernel
theorem dX12_whyNot_201 : decode cX12_whyNot 201 = .ok (.iconst 3, 1) := by decide +kernel
theorem dX12_whyNot_202 : decode cX12_whyNot 202 = .ok (.ireturn, 1) := by decide +kernel
set_option maxRecDepth 100000 in
set_option maxHeartbeats 4000000 in
theorem v_X12_whyNot_b112 {l : Launch} {p : Program} {e : Env} {s : State} {mt : MethodId} {args : Array Value} {below : List Frame} {meth : Method} {c : Code} {A : Nat → Prop} {ad0 : Nat → Nat} {G : Gt}  (C : Cx G p s mt args meth c RX12 cX12_whyNot 6 (some .int) "whyNot" A)  (y3 : Int32) (y4 : Int32) (y5 : Int32) (m : Mem) : V G SM oI l p e s mt args below meth c 6 6 A ad0 17 17 RM 17 RM 112 [(0, .ref 0), (3, .int y3), (4, .int y4), (5, .int y5)] [] m (X12_whyNot_b112  y3 y4 y5 m) := by
  rw [X12_whyNot_b112]
  refine V.aload_n (pc := 112) C dX12_whyNot_112 0 rfl ?_
  refine V.iload (pc := 113) C dX12_whyNot_113 2 rfl ?_
  refine V.i2l (pc := 115) C dX12_whyNot_115 ?_
  refine V.iload (pc := 116) C dX12_whyNot_116 3 rfl ?_
  refine V.i2l (pc := 118) C dX12_whyNot_118 ?_
  refine V.callV (pc := 119) (st := []) C (c_X12_areTwo l (Int32.toInt64 y4) (Int32.toInt64 y5) m) obI ck_X12_areTwo ml_RX12_234 rfl rfl sM0 kM0 rfl rfl (Nat.le_of_ble_eq_true rfl) ⟨by decide, by decide⟩ dX12_whyNot_119 (fun r_6 m_7 _ => ?_)
  refine V.if_ne (pc := 122) C dX12_whyNot_122 127 (by decide) (fun _ => ?_) (fun _ => ?_)
  · refine V.iload_n (pc := 127) C dX12_whyNot_127 1 rfl ?_
    refine V.sipush (pc := 128) C dX12_whyNot_128 (v := 2000) (by decide) ?_
    refine V.icmp_ge (pc := 131) C dX12_whyNot_131 150 (by decide) (fun _ => ?_) (fun _ => ?_)
    · refine V.iconst (pc := 150) C dX12_whyNot_150 (v := 0) (by decide) ?_
      exact V.iret C dX12_whyNot_151
    · refine V.aload_n (pc := 134) C dX12_whyNot_134 0 rfl ?_
      refine V.getr (pc := 135) C fl_RX12_13 sM0 kM0 rfl rM0_1 dX12_whyNot_135 ?_
      refine V.sipush (pc := 138) C dX12_whyNot_138 (v := 153) (by decide) ?_
      refine V.iload (pc := 141) C dX12_whyNot_141 2 rfl ?_
      refine V.iadd (pc := 143) C dX12_whyNot_143 ?_
      refine V.iald (pc := 144) C sM1 kM1 dX12_whyNot_144 (fun _ => ?_)
      refine V.iload (pc := 145) C dX12_whyNot_145 3 rfl ?_
      refine V.icmp_ne (pc := 147) C dX12_whyNot_147 152 (by decide) (fun _ => ?_) (fun _ => ?_)
      · refine V.aload_n (pc := 152) C dX12_whyNot_152 0 rfl ?_
        refine V.getr (pc := 153) C fl_RX12_13 sM0 kM0 rfl rM0_1 dX12_whyNot_153 ?_
        refine V.sipush (pc := 156) C dX12_whyNot_156 (v := 153) (by decide) ?_
        refine V.iload (pc := 159) C dX12_whyNot_159 2 rfl ?_
        refine V.iadd (pc := 161) C dX12_whyNot_161 ?_
        refine V.iald (pc := 162) C sM1 kM1 dX12_whyNot_162 (fun _ => ?_)
        refine V.iconst (pc := 163) C dX12_whyNot_163 (v := (-1)) (by decide) ?_
        refine V.icmp_ne (pc := 164) C dX12_whyNot_164 182 (by decide) (fun _ => ?_) (fun _ => ?_)
        · refine V.iconst (pc := 182) C dX12_whyNot_182 (v := 2) (by decide) ?_
          refine V.goto (pc := 183) C dX12_whyNot_183 202 (by decide) ?_
          exact V.iret C dX12_whyNot_202
        · refine V.aload_n (pc := 167) C dX12_whyNot_167 0 rfl ?_
          refine V.getr (pc := 168) C fl_RX12_13 sM0 kM0 rfl rM0_1 dX12_whyNot_168 ?_
          refine V.sipush (pc := 171) C dX12_whyNot_171 (v := 153) (by decide) ?_
          refine V.iload (pc := 174) C dX12_whyNot_174 3 rfl ?_
          refine V.iadd (pc := 176) C dX12_whyNot_176 ?_
          refine V.iald (pc := 177) C sM1 kM1 dX12_whyNot_177 (fun _ => ?_)
          refine V.iconst (pc := 178) C dX12_whyNot_178 (v := (-1)) (by decide) ?_
          refine V.icmp_eq (pc := 179) C dX12_whyNot_179 186 (by decide) (fun _ => ?_) (fun _ => ?_)
          · refine V.aload_n (pc := 186) C dX12_whyNot_186 0 rfl ?_
            refine V.iload (pc := 187) C dX12_whyNot_187 2 rfl ?_
            refine V.iload (pc := 189) C dX12_whyNot_189 3 rfl ?_
            refine V.callV (pc := 191) (st := []) C (c_X12_mayWed l y4 y5 m_7) obI ck_X12_mayWed ml_RX12_244 rfl rfl sM0 kM0 rfl rfl (Nat.le_of_ble_eq_true rfl) ⟨by decide, by decide⟩ dX12_whyNot_191 (fun r_8 m_9 _ => ?_)
            refine V.if_eq (pc := 194) C dX12_whyNot_194 201 (by decide) (fun _ => ?_) (fun _ => ?_)
            · refine V.iconst (pc := 201) C dX12_whyNot_201 (v := 3) (by decide) ?_
              exact V.iret C dX12_whyNot_202
            · refine V.iconst (pc := 197) C dX12_whyNot_197 (v := 0) (by decide) ?_
              refine V.goto (pc := 198) C dX12_whyNot_198 202 (by decide) ?_
              exact V.iret C dX12_whyNot_202
          · refine V.iconst (pc := 182) C dX12_whyNot_182 (v := 2) (by decide) ?_
            refine V.goto (pc := 183) C dX12_whyNot_183 202 (by decide) ?_
            exact V.iret C dX12_whyNot_202
      · refine V.iconst (pc := 150) C dX12_whyNot_150 (v := 0) (by decide) ?_
        exact V.iret C dX12_whyNot_151
  · refine V.iconst (pc := 125) C dX12_whyNot_125 (v := 1) (by decide) ?_
    exact V.iret C dX12_whyNot_126
set_option maxRecDepth 100000 in
set_option maxHeartbeats 4000000 in
theorem v_X12_whyNot {l : Launch} {p : Program} {e : Env} {s : State} {mt : MethodId} {args : Array Value} {below : List Frame} {meth : Method} {c : Code} {A : Nat → Prop} {ad0 : Nat → Nat} {G : Gt}  (C : Cx G p s mt args meth c RX12 cX12_whyNot 6 (some .int) "whyNot" A)  (x1 : Int64) (m : Mem) : V G SM oI l p e s mt args below meth c 6 6 A ad0 17 17 RM 17 RM 0 [(0, .ref 0), (1, .long x1)] [] m (X12_whyNot  x1 m) := by
  rw [X12_whyNot]
  refine V.lload_n (pc := 0) C dX12_whyNot_0 1 rfl ?_
  refine V.ldc2 (pc := 1) C dX12_whyNot_1 (v := (-1)) cl_RX12_248 ?_
  refine V.lcmp (pc := 4) C dX12_whyNot_4 ?_
  refine V.if_ne (pc := 5) C dX12_whyNot_5 10 (by decide) (fun _ => ?_) (fun _ => ?_)
  · refine V.lload_n (pc := 10) C dX12_whyNot_10 1 rfl ?_
    refine V.lconst (pc := 11) C dX12_whyNot_11 (v := 0) (by decide) ?_
    refine V.ldc2 (pc := 12) C dX12_whyNot_12 (v := 2999) cl_RX12_250 ?_
    refine V.callS (pc := 15) (st := []) C (c_X12_within l x1 0 2999 m) obI ck_X12_within ml_RX12_133 rfl rfl (Nat.le_of_ble_eq_true rfl) ⟨by decide, by decide⟩ dX12_whyNot_15 (fun r_1 m_2 _ => ?_)
    refine V.if_ne (pc := 18) C dX12_whyNot_18 23 (by decide) (fun _ => ?_) (fun _ => ?_)
    · refine V.lload_n (pc := 23) C dX12_whyNot_23 1 rfl ?_
      refine V.l2i (pc := 24) C dX12_whyNot_24 ?_
      refine V.lti (fun x_3 _ => ?_)
      refine V.istore_n (pc := 25) C dX12_whyNot_25 (L2 := [(3, .int x_3), (0, .ref 0), (1, .long x1)]) (by decide) rfl ?_
      refine V.iload_n (pc := 26) C dX12_whyNot_26 0 rfl ?_
      refine V.bipush (pc := 27) C dX12_whyNot_27 (v := 100) (by decide) ?_
      refine V.idiv (pc := 29) C dX12_whyNot_29 (by decide) ?_
      refine V.bipush (pc := 30) C dX12_whyNot_30 (v := 10) (by decide) ?_
      refine V.irem (pc := 32) C dX12_whyNot_32 (by decide) ?_
      refine V.lti (fun x_4 _ => ?_)
      refine V.istore (pc := 33) C dX12_whyNot_33 (L2 := [(4, .int x_4), (3, .int x_3), (0, .ref 0), (1, .long x1)]) (by decide) rfl ?_
      refine V.iload_n (pc := 35) C dX12_whyNot_35 1 rfl ?_
      refine V.bipush (pc := 36) C dX12_whyNot_36 (v := 100) (by decide) ?_
      refine V.irem (pc := 38) C dX12_whyNot_38 (by decide) ?_
      refine V.lti (fun x_5 _ => ?_)
      refine V.istore (pc := 39) C dX12_whyNot_39 (L2 := [(5, .int x_5), (4, .int x_4), (3, .int x_3), (0, .ref 0), (1, .long x1)]) (by decide) rfl ?_
      refine V.iload_n (pc := 41) C dX12_whyNot_41 2 rfl ?_
      refine V.sipush (pc := 42) C dX12_whyNot_42 (v := 1000) (by decide) ?_
      refine V.icmp_lt (pc := 45) C dX12_whyNot_45 112 (by decide) (fun _ => ?_) (fun _ => ?_)
      · refine V.wk [3, 2, 1, 0] rfl ?_
        exact v_X12_whyNot_b112 C  x_3 x_4 x_5 m_2
      · refine V.iload_n (pc := 48) C dX12_whyNot_48 2 rfl ?_
        refine V.sipush (pc := 49) C dX12_whyNot_49 (v := 2000) (by decide) ?_
        refine V.icmp_ge (pc := 52) C dX12_whyNot_52 112 (by decide) (fun _ => ?_) (fun _ => ?_)
        · refine V.wk [3, 2, 1, 0] rfl ?_
          exact v_X12_whyNot_b112 C  x_3 x_4 x_5 m_2
        · refine V.aload_n (pc := 55) C dX12_whyNot_55 3 rfl ?_
          refine V.iload (pc := 56) C dX12_whyNot_56 1 rfl ?_
          refine V.i2l (pc := 58) C dX12_whyNot_58 ?_
          refine V.callV (pc := 59) (st := []) C (c_X12_isPerson l (Int32.toInt64 x_4) m_2) obI ck_X12_isPerson ml_RX12_194 rfl rfl sM0 kM0 rfl rfl (Nat.le_of_ble_eq_true rfl) ⟨by decide, by decide⟩ dX12_whyNot_59 (fun r_10 m_11 _ => ?_)
          refine V.if_eq (pc := 62) C dX12_whyNot_62 75 (by decide) (fun _ => ?_) (fun _ => ?_)
          · refine V.iconst (pc := 75) C dX12_whyNot_75 (v := 1) (by decide) ?_
            exact V.iret C dX12_whyNot_76
          · refine V.aload_n (pc := 65) C dX12_whyNot_65 3 rfl ?_
            refine V.iload (pc := 66) C dX12_whyNot_66 0 rfl ?_
            refine V.i2l (pc := 68) C dX12_whyNot_68 ?_
            refine V.callV (pc := 69) (st := []) C (c_X12_isThing l (Int32.toInt64 x_5) m_11) obI ck_X12_isThing ml_RX12_210 rfl rfl sM0 kM0 rfl rfl (Nat.le_of_ble_eq_true rfl) ⟨by decide, by decide⟩ dX12_whyNot_69 (fun r_12 m_13 _ => ?_)
            refine V.if_ne (pc := 72) C dX12_whyNot_72 77 (by decide) (fun _ => ?_) (fun _ => ?_)
            · refine V.aload_n (pc := 77) C dX12_whyNot_77 3 rfl ?_
              refine V.getr (pc := 78) C fl_RX12_13 sM0 kM0 rfl rM0_1 dX12_whyNot_78 ?_
              refine V.bipush (pc := 81) C dX12_whyNot_81 (v := 41) (by decide) ?_
              refine V.bipush (pc := 83) C dX12_whyNot_83 (v := 14) (by decide) ?_
              refine V.iload (pc := 85) C dX12_whyNot_85 1 rfl ?_
              refine V.imul (pc := 87) C dX12_whyNot_87 ?_
              refine V.iadd (pc := 88) C dX12_whyNot_88 ?_
              refine V.iload (pc := 89) C dX12_whyNot_89 0 rfl ?_
              refine V.iadd (pc := 91) C dX12_whyNot_91 ?_
              refine V.iald (pc := 92) C sM1 kM1 dX12_whyNot_92 (fun _ => ?_)
              refine V.iconst (pc := 93) C dX12_whyNot_93 (v := (-1)) (by decide) ?_
              refine V.icmp_ne (pc := 94) C dX12_whyNot_94 106 (by decide) (fun _ => ?_) (fun _ => ?_)
              · refine V.iconst (pc := 106) C dX12_whyNot_106 (v := 0) (by decide) ?_
                refine V.goto (pc := 107) C dX12_whyNot_107 111 (by decide) ?_
                exact V.iret C dX12_whyNot_111
              · refine V.aload_n (pc := 97) C dX12_whyNot_97 3 rfl ?_
                refine V.iload (pc := 98) C dX12_whyNot_98 1 rfl ?_
                refine V.callV (pc := 100) (st := []) C (c_X12_hasRoom l x_4 m_13) obI ck_X12_hasRoom ml_RX12_252 rfl rfl sM0 kM0 rfl rfl (Nat.le_of_ble_eq_true rfl) ⟨by decide, by decide⟩ dX12_whyNot_100 (fun r_14 m_15 _ => ?_)
                refine V.if_eq (pc := 103) C dX12_whyNot_103 110 (by decide) (fun _ => ?_) (fun _ => ?_)
                · refine V.iconst (pc := 110) C dX12_whyNot_110 (v := 4) (by decide) ?_
                  exact V.iret C dX12_whyNot_111
                · refine V.iconst (pc := 106) C dX12_whyNot_106 (v := 0) (by decide) ?_
                  refine V.goto (pc := 107) C dX12_whyNot_107 111 (by decide) ?_
                  exact V.iret C dX12_whyNot_111
            · refine V.iconst (pc := 75) C dX12_whyNot_75 (v := 1) (by decide) ?_
              exact V.iret C dX12_whyNot_76
    · refine V.iconst (pc := 21) C dX12_whyNot_21 (v := 1) (by decide) ?_
      exact V.iret C dX12_whyNot_22
  · refine V.iconst (pc := 8) C dX12_whyNot_8 (v := 0) (by decide) ?_
    exact V.iret C dX12_whyNot_9
theorem c_X12_whyNot (l : Launch)   (x1 : Int64) (m : Mem) : Ct l yX12_whyNot cX12_whyNot 6 (some .int) 6 SM oI 17 17 RM RM [.ref 0, .long x1] m (X12_whyNot  x1 m) :=
  Ct.of (own := RX12) (nm := "whyNot") (by decide) rfl rfl (Nat.le_of_ble_eq_true rfl) (fun _ _ _ _ _ _ _ _ _ _ _ C => v_X12_whyNot C  x1 m)
