theorem dX12_readPerson_0 : decode cX12_readPerson 0 = .ok (.aload_n 0, 1) := by decide +kernel
theorem dX12_readPerson_1 : decode cX12_readPerson 1 = .ok (.getfield 24, 3) := by decide +kernel
theorem dX12_readPerson_4 : decode cX12_readPerson 4 = .ok (.iconst 2, 1) := by decide +kernel
theorem dX12_readPerson_5 : decode cX12_readPerson 5 = .ok (.iaload, 1) := by decide +kernel
theorem dX12_readPerson_6 : decode cX12_readPerson 6 = .ok (.istore_n 1, 1) := by decide +kernel
theorem dX12_readPerson_7 : decode cX12_readPerson 7 = .ok (.iload_n 1, 1) := by decide +kernel
theorem dX12_readPerson_8 : decode cX12_readPerson 8 = .ok (.bipush 8, 2) := by decide +kernel
theorem dX12_readPerson_10 : decode cX12_readPerson 10 = .ok (.if_icmp .ne 8, 3) := by decide +kernel
theorem dX12_readPerson_13 : decode cX12_readPerson 13 = .ok (.aload_n 0, 1) := by decide +kernel
theorem dX12_readPerson_14 : decode cX12_readPerson 14 = .ok (.iconst 4, 1) := by decide +kernel
theorem dX12_readPerson_15 : decode cX12_readPerson 15 = .ok (.invokevirtual 129, 3) := by decide +kernel
theorem dX12_readPerson_18 : decode cX12_readPerson 18 = .ok (.aload_n 0, 1) := by decide +kernel
theorem dX12_readPerson_19 : decode cX12_readPerson 19 = .ok (.getfield 117, 3) := by decide +kernel
theorem dX12_readPerson_22 : decode cX12_readPerson 22 = .ok (.ifCond .eq 4, 3) := by decide +kernel
theorem dX12_readPerson_25 : decode cX12_readPerson 25 = .ok (.return_, 1) := by decide +kernel
theorem dX12_readPerson_26 : decode cX12_readPerson 26 = .ok (.aload_n 0, 1) := by decide +kernel
theorem dX12_readPerson_27 : decode cX12_readPerson 27 = .ok (.invokevirtual 126, 3) := by decide +kernel
theorem dX12_readPerson_30 : decode cX12_readPerson 30 = .ok (.aload_n 0, 1) := by decide +kernel
theorem dX12_readPerson_31 : decode cX12_readPerson 31 = .ok (.iconst 3, 1) := by decide +kernel
theorem dX12_readPerson_32 : decode cX12_readPerson 32 = .ok (.invokevirtual 150, 3) := by decide +kernel
theorem dX12_readPerson_35 : decode cX12_readPerson 35 = .ok (.ifCond .ne 8, 3) := by decide +kernel
theorem dX12_readPerson_38 : decode cX12_readPerson 38 = .ok (.aload_n 0, 1) := by decide +kernel
theorem dX12_readPerson_39 : decode cX12_readPerson 39 = .ok (.iconst 2, 1) := by decide +kernel
theorem dX12_readPerson_40 : decode cX12_readPerson 40 = .ok (.invokevirtual 129, 3) := by decide +kernel
theorem dX12_readPerson_43 : decode cX12_readPerson 43 = .ok (.aload_n 0, 1) := by decide +kernel
theorem dX12_readPerson_44 : decode cX12_readPerson 44 = .ok (.iconst 0, 1) := by decide +kernel
theorem dX12_readPerson_45 : decode cX12_readPerson 45 = .ok (.bipush 99, 2) := by decide +kernel
theorem dX12_readPerson_47 : decode cX12_readPerson 47 = .ok (.invokevirtual 168, 3) := by decide +kernel
theorem dX12_readPerson_50 : decode cX12_readPerson 50 = .ok (.istore_n 2, 1) := by decide +kernel
theorem dX12_readPerson_51 : decode cX12_readPerson 51 = .ok (.aload_n 0, 1) := by decide +kernel
theorem dX12_readPerson_52 : decode cX12_readPerson 52 = .ok (.iconst 4, 1) := by decide +kernel
theorem dX12_readPerson_53 : decode cX12_readPerson 53 = .ok (.invokevirtual 150, 3) := by decide +kernel
theorem dX12_readPerson_56 : decode cX12_readPerson 56 = .ok (.ifCond .eq 10, 3) := by decide +kernel
theorem dX12_readPerson_59 : decode cX12_readPerson 59 = .ok (.aload_n 0, 1) := by decide +kernel
theorem dX12_readPerson_60 : decode cX12_readPerson 60 = .ok (.invokevirtual 172, 3) := by decide +kernel
theorem dX12_readPerson_63 : decode cX12_readPerson 63 = .ok (.goto 4, 3) := by decide +kernel
theorem dX12_readPerson_66 : decode cX12_readPerson 66 = .ok (.iconst 0, 1) := by decide +kernel
theorem dX12_readPerson_67 : decode cX12_readPerson 67 = .ok (.istore_n 3, 1) := by decide +kernel
theorem dX12_readPerson_68 : decode cX12_readPerson 68 = .ok (.aload_n 0, 1) := by decide +kernel
theorem dX12_readPerson_69 : decode cX12_readPerson 69 = .ok (.iconst 5, 1) := by decide +kernel
theorem dX12_readPerson_70 : decode cX12_readPerson 70 = .ok (.invokevirtual 150, 3) := by decide +kernel
theorem dX12_readPerson_73 : decode cX12_readPerson 73 = .ok (.ifCond .eq 10, 3) := by decide +kernel
theorem dX12_readPerson_76 : decode cX12_readPerson 76 = .ok (.aload_n 0, 1) := by decide +kernel
theorem dX12_readPerson_77 : decode cX12_readPerson 77 = .ok (.invokevirtual 172, 3) := by decide +kernel
theorem dX12_readPerson_80 : decode cX12_readPerson 80 = .ok (.goto 4, 3) := by decide +kernel
theorem dX12_readPerson_83 : decode cX12_readPerson 83 = .ok (.iconst 0, 1) := by decide +kernel
theorem dX12_readPerson_84 : decode cX12_readPerson 84 = .ok (.istore 4, 2) := by decide +kernel
theorem dX12_readPerson_86 : decode cX12_readPerson 86 = .ok (.aload_n 0, 1) := by decide +kernel
theorem dX12_readPerson_87 : decode cX12_readPerson 87 = .ok (.getfield 117, 3) := by decide +kernel
theorem dX12_readPerson_90 : decode cX12_readPerson 90 = .ok (.ifCond .eq 4, 3) := by decide +kernel
theorem dX12_readPerson_93 : decode cX12_readPerson 93 = .ok (.return_, 1) := by decide +kernel
theorem dX12_readPerson_94 : decode cX12_readPerson 94 = .ok (.aload_n 0, 1) := by decide +kernel
theorem dX12_readPerson_95 : decode cX12_readPerson 95 = .ok (.getfield 24, 3) := by decide +kernel
theorem dX12_readPerson_98 : decode cX12_readPerson 98 = .ok (.bipush 33, 2) := by decide +kernel
theorem dX12_readPerson_100 : decode cX12_readPerson 100 = .ok (.iload_n 1, 1) := by decide +kernel
theorem dX12_readPerson_101 : decode cX12_readPerson 101 = .ok (.iadd, 1) := by decide +kernel
theorem dX12_readPerson_102 : decode cX12_readPerson 102 = .ok (.iload_n 2, 1) := by decide +kernel
theorem dX12_readPerson_103 : decode cX12_readPerson 103 = .ok (.iastore, 1) := by decide +kernel
theorem dX12_readPerson_104 : decode cX12_readPerson 104 = .ok (.aload_n 0, 1) := by decide +kernel
theorem dX12_readPerson_105 : decode cX12_readPerson 105 = .ok (.getfield 24, 3) := by decide +kernel
theorem dX12_readPerson_108 : decode cX12_readPerson 108 = .ok (.bipush 25, 2) := by decide +kernel
theorem dX12_readPerson_110 : decode cX12_readPerson 110 = .ok (.iload_n 1, 1) := by decide +kernel
theorem dX12_readPerson_111 : decode cX12_readPerson 111 = .ok (.iadd, 1) := by decide +kernel
theorem dX12_readPerson_112 : decode cX12_readPerson 112 = .ok (.iload_n 3, 1) := by decide +kernel
theorem dX12_readPerson_113 : decode cX12_readPerson 113 = .ok (.iastore, 1) := by decide +kernel
theorem dX12_readPerson_114 : decode cX12_readPerson 114 = .ok (.iconst 0, 1) := by decide +kernel
theorem dX12_readPerson_115 : decode cX12_readPerson 115 = .ok (.istore 5, 2) := by decide +kernel
theorem dX12_readPerson_117 : decode cX12_readPerson 117 = .ok (.iload 5, 2) := by decide +kernel
theorem dX12_readPerson_119 : decode cX12_readPerson 119 = .ok (.bipush 14, 2) := by decide +kernel
theorem dX12_readPerson_121 : decode cX12_readPerson 121 = .ok (.if_icmp .ge 36, 3) := by decide +kernel
theorem dX12_readPerson_124 : decode cX12_readPerson 124 = .ok (.iload 4, 2) := by decide +kernel
theorem dX12_readPerson_126 : decode cX12_readPerson 126 = .ok (.i2l, 1) := by decide +kernel
theorem dX12_readPerson_127 : decode cX12_readPerson 127 = .ok (.iload 5, 2) := by decide +kernel
theorem dX12_readPerson_129 : decode cX12_readPerson 129 = .ok (.invokestatic 175, 3) := by decide +kernel
theorem dX12_readPerson_132 : decode cX12_readPerson 132 = .ok (.ifCond .eq 19, 3) := by decide +kernel
theorem dX12_readPerson_135 : decode cX12_readPerson 135 = .ok (.aload_n 0, 1) := by decide +kernel
theorem dX12_readPerson_136 : decode cX12_readPerson 136 = .ok (.getfield 24, 3) := by decide +kernel
theorem dX12_readPerson_139 : decode cX12_readPerson 139 = .ok (.bipush 41, 2) := by decide +kernel
theorem dX12_readPerson_141 : decode cX12_readPerson 141 = .ok (.bipush 14, 2) := by decide +kernel
theorem dX12_readPerson_143 : decode cX12_readPerson 143 = .ok (.iload_n 1, 1) := by decide +kernel
theorem dX12_readPerson_144 : decode cX12_readPerson 144 = .ok (.imul, 1) := by decide +kernel
theorem dX12_readPerson_145 : decode cX12_readPerson 145 = .ok (.iadd, 1) := by decide +kernel
theorem dX12_readPerson_146 : decode cX12_readPerson 146 = .ok (.iload 5, 2) := by decide +kernel
theorem dX12_readPerson_148 : decode cX12_readPerson 148 = .ok (.iadd, 1) := by decide +kernel
theorem dX12_readPerson_149 : decode cX12_readPerson 149 = .ok (.iconst 0, 1) := by decide +kernel
theorem dX12_readPerson_150 : decode cX12_readPerson 150 = .ok (.iastore, 1) := by decide +kernel
theorem dX12_readPerson_151 : decode cX12_readPerson 151 = .ok (.iinc 5 1, 3) := by decide +kernel
theorem dX12_readPerson_154 : decode cX12_readPerson 154 = .ok (.goto (-37), 3) := by decide +kernel
theorem dX12_readPerson_157 : decode cX12_readPerson 157 = .ok (.aload_n 0, 1) := by decide +kernel
theorem dX12_readPerson_158 : decode cX12_readPerson 158 = .ok (.getfield 24, 3) := by decide +kernel
theorem dX12_readPerson_161 : decode cX12_readPerson 161 = .ok (.iconst 2, 1) := by decide +kernel
theorem dX12_readPerson_162 : decode cX12_readPerson 162 = .ok (.dup2, 1) := by decide +kernel
theorem dX12_readPerson_163 : decode cX12_readPerson 163 = .ok (.iaload, 1) := by decide +kernel
theorem dX12_readPerson_164 : decode cX12_readPerson 164 = .ok (.iconst 1, 1) := by decide +kernel
theorem dX12_readPerson_165 : decode cX12_readPerson 165 = .ok (.iadd, 1) := by decide +kernel
theorem dX12_readPerson_166 : decode cX12_readPerson 166 = .ok (.iastore, 1) := by decide +kernel
theorem dX12_readPerson_167 : decode cX12_readPerson 167 = .ok (.return_, 1) := by decide +kernel
set_option maxRecDepth 100000 in
set_option maxHeartbeats 4000000 in
theorem v_X12_readPerson_b117 {l : Launch} {p : Program} {e : Env} {s : State} {mt : MethodId} {args : Array Value} {below : List Frame} {meth : Method} {c : Code} {A : Nat → Prop} {ad0 : Nat → Nat} {G : Gt}  (C : Cx G p s mt args meth c RX12 cX12_readPerson 6 none "readPerson" A)  : ∀ (n : Nat) (y1 : Int32) (y4 : Int32) (y5 : Int32) (m : Mem), V G SM oV l p e s mt args below meth c 6 9 A ad0 17 17 RM 17 RM 117 [(0, .ref 0), (1, .int y1), (4, .int y4), (5, .int y5)] [] m (X12_readPerson_b117  n y1 y4 y5 m) := by
  intro n
  induction n with
  | zero =>
    intro y1 y4 y5 m
    rw [X12_readPerson_b117]
    exact V.nil
  | succ n ih =>
    intro y1 y4 y5 m
    rw [X12_readPerson_b117]
    refine V.iload (pc := 117) C dX12_readPerson_117 3 rfl ?_
    refine V.bipush (pc := 119) C dX12_readPerson_119 (v := 14) (by decide) ?_
    refine V.icmp_ge (pc := 121) C dX12_readPerson_121 157 (by decide) (fun _ => ?_) (fun _ => ?_)
    · refine V.aload_n (pc := 157) C dX12_readPerson_157 0 rfl ?_
      refine V.getr (pc := 158) C fl_RX12_24 sM0 kM0 rfl rM0_4 dX12_readPerson_158 ?_
      refine V.iconst (pc := 161) C dX12_readPerson_161 (v := 2) (by decide) ?_
      refine V.dup2 (pc := 162) C dX12_readPerson_162 rfl rfl ?_
      refine V.iald (pc := 163) C sM4 kM4 dX12_readPerson_163 (fun _ => ?_)
      refine V.iconst (pc := 164) C dX12_readPerson_164 (v := 1) (by decide) ?_
      refine V.iadd (pc := 165) C dX12_readPerson_165 ?_
      refine V.iast (pc := 166) C sM4 kM4 dX12_readPerson_166 (fun _ => ?_)
      refine V.ltm (fun m_14 => ?_)
      exact V.vret C dX12_readPerson_167
    · refine V.iload (pc := 124) C dX12_readPerson_124 2 rfl ?_
      refine V.i2l (pc := 126) C dX12_readPerson_126 ?_
      refine V.iload (pc := 127) C dX12_readPerson_127 3 rfl ?_
      refine V.callS (pc := 129) (st := []) C (c_X12_isIn l (Int32.toInt64 y4) y5 m) obI ck_X12_isIn ml_RX12_175 rfl rfl (Nat.le_of_ble_eq_true rfl) ⟨by decide, by decide⟩ dX12_readPerson_129 (fun r_15 m_16 _ => ?_)
      refine V.if_eq (pc := 132) C dX12_readPerson_132 151 (by decide) (fun _ => ?_) (fun _ => ?_)
      · refine V.iinc (pc := 151) C dX12_readPerson_151 (v := 1) (L2 := [(5, .int (y5 + 1)), (0, .ref 0), (1, .int y1), (4, .int y4)]) 3 rfl (by decide) (by decide) rfl ?_
        refine V.goto (pc := 154) C dX12_readPerson_154 117 (by decide) ?_
        refine V.wk [1, 2, 3, 0] rfl ?_
        exact ih y1 y4 (y5 + 1) m_16
      · refine V.aload_n (pc := 135) C dX12_readPerson_135 0 rfl ?_
        refine V.getr (pc := 136) C fl_RX12_24 sM0 kM0 rfl rM0_4 dX12_readPerson_136 ?_
        refine V.bipush (pc := 139) C dX12_readPerson_139 (v := 41) (by decide) ?_
        refine V.bipush (pc := 141) C dX12_readPerson_141 (v := 14) (by decide) ?_
        refine V.iload_n (pc := 143) C dX12_readPerson_143 1 rfl ?_
        refine V.imul (pc := 144) C dX12_readPerson_144 ?_
        refine V.iadd (pc := 145) C dX12_readPerson_145 ?_
        refine V.iload (pc := 146) C dX12_readPerson_146 3 rfl ?_
        refine V.iadd (pc := 148) C dX12_readPerson_148 ?_
        refine V.iconst (pc := 149) C dX12_readPerson_149 (v := 0) (by decide) ?_
        refine V.iast (pc := 150) C sM4 kM4 dX12_readPerson_150 (fun _ => ?_)
        refine V.ltm (fun m_17 => ?_)
        refine V.iinc (pc := 151) C dX12_readPerson_151 (v := 1) (L2 := [(5, .int (y5 + 1)), (0, .ref 0), (1, .int y1), (4, .int y4)]) 3 rfl (by decide) (by decide) rfl ?_
        refine V.goto (pc := 154) C dX12_readPerson_154 117 (by decide) ?_
        refine V.wk [1, 2, 3, 0] rfl ?_
        exact ih y1 y4 (y5 + 1) m_17
set_option maxRecDepth 100000 in
set_option maxHeartbeats 4000000 in
theorem v_X12_readPerson_b84 {l : Launch} {p : Program} {e : Env} {s : State} {mt : MethodId} {args : Array Value} {below : List Frame} {meth : Method} {c : Code} {A : Nat → Prop} {ad0 : Nat → Nat} {G : Gt}  (C : Cx G p s mt args meth c RX12 cX12_readPerson 6 none "readPerson" A)  (y1 : Int32) (y2 : Int32) (y3 : Int32) (z0 : Int32) (m : Mem) : V G SM oV l p e s mt args below meth c 6 9 A ad0 17 17 RM 17 RM 84 [(0, .ref 0), (1, .int y1), (2, .int y2), (3, .int y3)] [.int z0] m (X12_readPerson_b84  y1 y2 y3 z0 m) := by
  rw [X12_readPerson_b84]
  refine V.istore (pc := 84) C dX12_readPerson_84 (L2 := [(4, .int z0), (0, .ref 0), (1, .int y1), (2, .int y2), (3, .int y3)]) (by decide) rfl ?_
  refine V.aload_n (pc := 86) C dX12_readPerson_86 1 rfl ?_
  refine V.geti (pc := 87) C fl_RX12_117 sM0 kM0 rfl dX12_readPerson_87 ?_
  refine V.if_eq (pc := 90) C dX12_readPerson_90 94 (by decide) (fun _ => ?_) (fun _ => ?_)
  · refine V.aload_n (pc := 94) C dX12_readPerson_94 1 rfl ?_
    refine V.getr (pc := 95) C fl_RX12_24 sM0 kM0 rfl rM0_4 dX12_readPerson_95 ?_
    refine V.bipush (pc := 98) C dX12_readPerson_98 (v := 33) (by decide) ?_
    refine V.iload_n (pc := 100) C dX12_readPerson_100 2 rfl ?_
    refine V.iadd (pc := 101) C dX12_readPerson_101 ?_
    refine V.iload_n (pc := 102) C dX12_readPerson_102 3 rfl ?_
    refine V.iast (pc := 103) C sM4 kM4 dX12_readPerson_103 (fun _ => ?_)
    refine V.ltm (fun m_12 => ?_)
    refine V.aload_n (pc := 104) C dX12_readPerson_104 1 rfl ?_
    refine V.getr (pc := 105) C fl_RX12_24 sM0 kM0 rfl rM0_4 dX12_readPerson_105 ?_
    refine V.bipush (pc := 108) C dX12_readPerson_108 (v := 25) (by decide) ?_
    refine V.iload_n (pc := 110) C dX12_readPerson_110 2 rfl ?_
    refine V.iadd (pc := 111) C dX12_readPerson_111 ?_
    refine V.iload_n (pc := 112) C dX12_readPerson_112 4 rfl ?_
    refine V.iast (pc := 113) C sM4 kM4 dX12_readPerson_113 (fun _ => ?_)
    refine V.ltm (fun m_13 => ?_)
    refine V.iconst (pc := 114) C dX12_readPerson_114 (v := 0) (by decide) ?_
    refine V.istore (pc := 115) C dX12_readPerson_115 (L2 := [(5, .int 0), (4, .int z0), (0, .ref 0), (1, .int y1), (2, .int y2), (3, .int y3)]) (by decide) rfl ?_
    refine V.wk [2, 3, 1, 0] rfl ?_
    exact v_X12_readPerson_b117 C  FU y1 z0 0 m_13
  · exact V.vret C dX12_readPerson_93
set_option maxRecDepth 100000 in
set_option maxHeartbeats 4000000 in
theorem v_X12_readPerson_b67 {l : Launch} {p : Program} {e : Env} {s : State} {mt : MethodId} {args : Array Value} {below : List Frame} {meth : Method} {c : Code} {A : Nat → Prop} {ad0 : Nat → Nat} {G : Gt}  (C : Cx G p s mt args meth c RX12 cX12_readPerson 6 none "readPerson" A)  (y1 : Int32) (y2 : Int32) (z0 : Int32) (m : Mem) : V G SM oV l p e s mt args below meth c 6 9 A ad0 17 17 RM 17 RM 67 [(0, .ref 0), (1, .int y1), (2, .int y2)] [.int z0] m (X12_readPerson_b67  y1 y2 z0 m) := by
  rw [X12_readPerson_b67]
  refine V.istore_n (pc := 67) C dX12_readPerson_67 (L2 := [(3, .int z0), (0, .ref 0), (1, .int y1), (2, .int y2)]) (by decide) rfl ?_
  refine V.aload_n (pc := 68) C dX12_readPerson_68 1 rfl ?_
  refine V.iconst (pc := 69) C dX12_readPerson_69 (v := 5) (by decide) ?_
  refine V.callV (pc := 70) (st := []) C (c_X12_eats l 5 m) obI ck_X12_eats ml_RX12_150 rfl rfl sM0 kM0 rfl rfl (Nat.le_of_ble_eq_true rfl) ⟨by decide, by decide⟩ dX12_readPerson_70 (fun r_10 m_11 _ => ?_)
  refine V.if_eq (pc := 73) C dX12_readPerson_73 83 (by decide) (fun _ => ?_) (fun _ => ?_)
  · refine V.iconst (pc := 83) C dX12_readPerson_83 (v := 0) (by decide) ?_
    refine V.wk [1, 2, 3, 0] rfl ?_
    exact v_X12_readPerson_b84 C  y1 y2 z0 0 m_11
  · refine V.aload_n (pc := 76) C dX12_readPerson_76 1 rfl ?_
    refine V.callV (pc := 77) (st := []) C (c_X12_takesThings l  m_11) obI ck_X12_takesThings ml_RX12_172 rfl rfl sM0 kM0 rfl rfl (Nat.le_of_ble_eq_true rfl) ⟨by decide, by decide⟩ dX12_readPerson_77 (fun r_18 m_19 _ => ?_)
    refine V.goto (pc := 80) C dX12_readPerson_80 84 (by decide) ?_
    refine V.wk [1, 2, 3, 0] rfl ?_
    exact v_X12_readPerson_b84 C  y1 y2 z0 r_18 m_19
set_option maxRecDepth 100000 in
set_option maxHeartbeats 4000000 in
theorem v_X12_readPerson_b43 {l : Launch} {p : Program} {e : Env} {s : State} {mt : MethodId} {args : Array Value} {below : List Frame} {meth : Method} {c : Code} {A : Nat → Prop} {ad0 : Nat → Nat} {G : Gt}  (C : Cx G p s mt args meth c RX12 cX12_readPerson 6 none "readPerson" A)  (y1 : Int32) (m : Mem) : V G SM oV l p e s mt args below meth c 6 9 A ad0 17 17 RM 17 RM 43 [(0, .ref 0), (1, .int y1)] [] m (X12_readPerson_b43  y1 m) := by
  rw [X12_readPerson_b43]
  refine V.aload_n (pc := 43) C dX12_readPerson_43 0 rfl ?_
  refine V.iconst (pc := 44) C dX12_readPerson_44 (v := 0) (by decide) ?_
  refine V.bipush (pc := 45) C dX12_readPerson_45 (v := 99) (by decide) ?_
  refine V.callV (pc := 47) (st := []) C (c_X12_takesOne l 0 99 m) obI ck_X12_takesOne ml_RX12_168 rfl rfl sM0 kM0 rfl rfl (Nat.le_of_ble_eq_true rfl) ⟨by decide, by decide⟩ dX12_readPerson_47 (fun r_6 m_7 _ => ?_)
  refine V.istore_n (pc := 50) C dX12_readPerson_50 (L2 := [(2, .int r_6), (0, .ref 0), (1, .int y1)]) (by decide) rfl ?_
  refine V.aload_n (pc := 51) C dX12_readPerson_51 1 rfl ?_
  refine V.iconst (pc := 52) C dX12_readPerson_52 (v := 4) (by decide) ?_
  refine V.callV (pc := 53) (st := []) C (c_X12_eats l 4 m_7) obI ck_X12_eats ml_RX12_150 rfl rfl sM0 kM0 rfl rfl (Nat.le_of_ble_eq_true rfl) ⟨by decide, by decide⟩ dX12_readPerson_53 (fun r_8 m_9 _ => ?_)
  refine V.if_eq (pc := 56) C dX12_readPerson_56 66 (by decide) (fun _ => ?_) (fun _ => ?_)
  · refine V.iconst (pc := 66) C dX12_readPerson_66 (v := 0) (by decide) ?_
    refine V.wk [1, 2, 0] rfl ?_
    exact v_X12_readPerson_b67 C  y1 r_6 0 m_9
  · refine V.aload_n (pc := 59) C dX12_readPerson_59 1 rfl ?_
    refine V.callV (pc := 60) (st := []) C (c_X12_takesThings l  m_9) obI ck_X12_takesThings ml_RX12_172 rfl rfl sM0 kM0 rfl rfl (Nat.le_of_ble_eq_true rfl) ⟨by decide, by decide⟩ dX12_readPerson_60 (fun r_20 m_21 _ => ?_)
    refine V.goto (pc := 63) C dX12_readPerson_63 67 (by decide) ?_
    refine V.wk [1, 2, 0] rfl ?_
    exact v_X12_readPerson_b67 C  y1 r_6 r_20 m_21
set_option maxRecDepth 100000 in
set_option maxHeartbeats 4000000 in
theorem v_X12_readPerson_b18 {l : Launch} {p : Program} {e : Env} {s : State} {mt : MethodId} {args : Array Value} {below : List Frame} {meth : Method} {c : Code} {A : Nat → Prop} {ad0 : Nat → Nat} {G : Gt}  (C : Cx G p s mt args meth c RX12 cX12_readPerson 6 none "readPerson" A)  (y1 : Int32) (m : Mem) : V G SM oV l p e s mt args below meth c 6 9 A ad0 17 17 RM 17 RM 18 [(0, .ref 0), (1, .int y1)] [] m (X12_readPerson_b18  y1 m) := by
  rw [X12_readPerson_b18]
  refine V.aload_n (pc := 18) C dX12_readPerson_18 0 rfl ?_
  refine V.geti (pc := 19) C fl_RX12_117 sM0 kM0 rfl dX12_readPerson_19 ?_
  refine V.if_eq (pc := 22) C dX12_readPerson_22 26 (by decide) (fun _ => ?_) (fun _ => ?_)
  · refine V.aload_n (pc := 26) C dX12_readPerson_26 0 rfl ?_
    refine V.callV (pc := 27) (st := []) C (c_X12_next l  m) obV ck_X12_next ml_RX12_126 rfl rfl sM0 kM0 rfl rfl (Nat.le_of_ble_eq_true rfl) ⟨by decide, by decide⟩ dX12_readPerson_27 (fun r_2 m_3 _ => ?_)
    refine V.aload_n (pc := 30) C dX12_readPerson_30 0 rfl ?_
    refine V.iconst (pc := 31) C dX12_readPerson_31 (v := 3) (by decide) ?_
    refine V.callV (pc := 32) (st := []) C (c_X12_eats l 3 m_3) obI ck_X12_eats ml_RX12_150 rfl rfl sM0 kM0 rfl rfl (Nat.le_of_ble_eq_true rfl) ⟨by decide, by decide⟩ dX12_readPerson_32 (fun r_4 m_5 _ => ?_)
    refine V.if_ne (pc := 35) C dX12_readPerson_35 43 (by decide) (fun _ => ?_) (fun _ => ?_)
    · refine V.wk [0, 1] rfl ?_
      exact v_X12_readPerson_b43 C  y1 m_5
    · refine V.aload_n (pc := 38) C dX12_readPerson_38 0 rfl ?_
      refine V.iconst (pc := 39) C dX12_readPerson_39 (v := 2) (by decide) ?_
      refine V.callV (pc := 40) (st := []) C (c_X12_fails l 2 m_5) obV ck_X12_fails ml_RX12_129 rfl rfl sM0 kM0 rfl rfl (Nat.le_of_ble_eq_true rfl) ⟨by decide, by decide⟩ dX12_readPerson_40 (fun r_22 m_23 _ => ?_)
      refine V.wk [0, 1] rfl ?_
      exact v_X12_readPerson_b43 C  y1 m_23
  · exact V.vret C dX12_readPerson_25
set_option maxRecDepth 100000 in
set_option maxHeartbeats 4000000 in
theorem v_X12_readPerson {l : Launch} {p : Program} {e : Env} {s : State} {mt : MethodId} {args : Array Value} {below : List Frame} {meth : Method} {c : Code} {A : Nat → Prop} {ad0 : Nat → Nat} {G : Gt}  (C : Cx G p s mt args meth c RX12 cX12_readPerson 6 none "readPerson" A)  (m : Mem) : V G SM oV l p e s mt args below meth c 6 9 A ad0 17 17 RM 17 RM 0 [(0, .ref 0)] [] m (X12_readPerson   m) := by
  rw [X12_readPerson]
  refine V.aload_n (pc := 0) C dX12_readPerson_0 0 rfl ?_
  refine V.getr (pc := 1) C fl_RX12_24 sM0 kM0 rfl rM0_4 dX12_readPerson_1 ?_
  refine V.iconst (pc := 4) C dX12_readPerson_4 (v := 2) (by decide) ?_
  refine V.iald (pc := 5) C sM4 kM4 dX12_readPerson_5 (fun _ => ?_)
  refine V.lti (fun x_1 _ => ?_)
  refine V.istore_n (pc := 6) C dX12_readPerson_6 (L2 := [(1, .int x_1), (0, .ref 0)]) (by decide) rfl ?_
  refine V.iload_n (pc := 7) C dX12_readPerson_7 0 rfl ?_
  refine V.bipush (pc := 8) C dX12_readPerson_8 (v := 8) (by decide) ?_
  refine V.icmp_ne (pc := 10) C dX12_readPerson_10 18 (by decide) (fun _ => ?_) (fun _ => ?_)
  · refine V.wk [1, 0] rfl ?_
    exact v_X12_readPerson_b18 C  x_1 m
  · refine V.aload_n (pc := 13) C dX12_readPerson_13 1 rfl ?_
    refine V.iconst (pc := 14) C dX12_readPerson_14 (v := 4) (by decide) ?_
    refine V.callV (pc := 15) (st := []) C (c_X12_fails l 4 m) obV ck_X12_fails ml_RX12_129 rfl rfl sM0 kM0 rfl rfl (Nat.le_of_ble_eq_true rfl) ⟨by decide, by decide⟩ dX12_readPerson_15 (fun r_24 m_25 _ => ?_)
    refine V.wk [1, 0] rfl ?_
    exact v_X12_readPerson_b18 C  x_1 m_25
theorem c_X12_readPerson (l : Launch)   (m : Mem) : Ct l yX12_readPerson cX12_readPerson 6 none 9 SM oV 17 17 RM RM [.ref 0] m (X12_readPerson   m) :=
  Ct.of (own := RX12) (nm := "readPerson") (by decide) rfl rfl (Nat.le_of_ble_eq_true rfl) (fun _ _ _ _ _ _ _ _ _ _ _ C => v_X12_readPerson C   m)
theorem dX12_codes_0 : decode cX12_codes 0 = .ok (.aload_n 0, 1) := by decide +kernel
theorem dX12_codes_1 : decode cX12_codes 1 = .ok (.getfield 117, 3) := by decide +kernel
theorem dX12_codes_4 : decode cX12_codes 4 = .ok (.ifCond .eq 4, 3) := by decide +kernel
theorem dX12_codes_7 : decode cX12_codes 7 = .ok (.return_, 1) := by decide +kernel
theorem dX12_codes_8 : decode cX12_codes 8 = .ok (.aload_n 0, 1) := by decide +kernel
theorem dX12_codes_9 : decode cX12_codes 9 = .ok (.getfield 24, 3) := by decide +kernel
theorem dX12_codes_12 : decode cX12_codes 12 = .ok (.sipush 1196, 3) := by decide +kernel
theorem dX12_codes_15 : decode cX12_codes 15 = .ok (.aload_n 0, 1) := by decide +kernel
theorem dX12_codes_16 : decode cX12_codes 16 = .ok (.getfield 24, 3) := by decide +kernel
theorem dX12_codes_19 : decode cX12_codes 19 = .ok (.sipush 1195, 3) := by decide +kernel
theorem dX12_codes_22 : decode cX12_codes 22 = .ok (.iaload, 1) := by decide +kernel
theorem dX12_codes_23 : decode cX12_codes 23 = .ok (.iadd, 1) := by decide +kernel
theorem dX12_codes_24 : decode cX12_codes 24 = .ok (.iload_n 1, 1) := by decide +kernel
theorem dX12_codes_25 : decode cX12_codes 25 = .ok (.iastore, 1) := by decide +kernel
theorem dX12_codes_26 : decode cX12_codes 26 = .ok (.aload_n 0, 1) := by decide +kernel
theorem dX12_codes_27 : decode cX12_codes 27 = .ok (.getfield 24, 3) := by decide +kernel
theorem dX12_codes_30 : decode cX12_codes 30 = .ok (.sipush 1195, 3) := by decide +kernel
theorem dX12_codes_33 : decode cX12_codes 33 = .ok (.dup2, 1) := by decide +kernel
theorem dX12_codes_34 : decode cX12_codes 34 = .ok (.iaload, 1) := by decide +kernel
theorem dX12_codes_35 : decode cX12_codes 35 = .ok (.iconst 1, 1) := by decide +kernel
theorem dX12_codes_36 : decode cX12_codes 36 = .ok (.iadd, 1) := by decide +kernel
theorem dX12_codes_37 : decode cX12_codes 37 = .ok (.iastore, 1) := by decide +kernel
theorem dX12_codes_38 : decode cX12_codes 38 = .ok (.return_, 1) := by decide +kernel
set_option maxRecDepth 100000 in
set_option maxHeartbeats 4000000 in
theorem v_X12_codes {l : Launch} {p : Program} {e : Env} {s : State} {mt : MethodId} {args : Array Value} {below : List Frame} {meth : Method} {c : Code} {A : Nat → Prop} {ad0 : Nat → Nat} {G : Gt}  (C : Cx G p s mt args meth c RX12 cX12_codes 2 none "codes" A)  (x1 : Int32) (m : Mem) : V G SM oV l p e s mt args below meth c 2 1 A ad0 17 17 RM 17 RM 0 [(0, .ref 0), (1, .int x1)] [] m (X12_codes  x1 m) := by
  rw [X12_codes]
  refine V.aload_n (pc := 0) C dX12_codes_0 0 rfl ?_
  refine V.geti (pc := 1) C fl_RX12_117 sM0 kM0 rfl dX12_codes_1 ?_
  refine V.if_eq (pc := 4) C dX12_codes_4 8 (by decide) (fun _ => ?_) (fun _ => ?_)
  · refine V.aload_n (pc := 8) C dX12_codes_8 0 rfl ?_
    refine V.getr (pc := 9) C fl_RX12_24 sM0 kM0 rfl rM0_4 dX12_codes_9 ?_
    refine V.sipush (pc := 12) C dX12_codes_12 (v := 1196) (by decide) ?_
    refine V.aload_n (pc := 15) C dX12_codes_15 0 rfl ?_
    refine V.getr (pc := 16) C fl_RX12_24 sM0 kM0 rfl rM0_4 dX12_codes_16 ?_
    refine V.sipush (pc := 19) C dX12_codes_19 (v := 1195) (by decide) ?_
    refine V.iald (pc := 22) C sM4 kM4 dX12_codes_22 (fun _ => ?_)
    refine V.iadd (pc := 23) C dX12_codes_23 ?_
    refine V.iload_n (pc := 24) C dX12_codes_24 1 rfl ?_
    refine V.iast (pc := 25) C sM4 kM4 dX12_codes_25 (fun _ => ?_)
    refine V.ltm (fun m_1 => ?_)
    refine V.aload_n (pc := 26) C dX12_codes_26 0 rfl ?_
    refine V.getr (pc := 27) C fl_RX12_24 sM0 kM0 rfl rM0_4 dX12_codes_27 ?_
    refine V.sipush (pc := 30) C dX12_codes_30 (v := 1195) (by decide) ?_
    refine V.dup2 (pc := 33) C dX12_codes_33 rfl rfl ?_
    refine V.iald (pc := 34) C sM4 kM4 dX12_codes_34 (fun _ => ?_)
    refine V.iconst (pc := 35) C dX12_codes_35 (v := 1) (by decide) ?_
    refine V.iadd (pc := 36) C dX12_codes_36 ?_
    refine V.iast (pc := 37) C sM4 kM4 dX12_codes_37 (fun _ => ?_)
    refine V.ltm (fun m_2 => ?_)
    exact V.vret C dX12_codes_38
  · exact V.vret C dX12_codes_7
theorem c_X12_codes (l : Launch)   (x1 : Int32) (m : Mem) : Ct l yX12_codes cX12_codes 2 none 1 SM oV 17 17 RM RM [.ref 0, .int x1] m (X12_codes  x1 m) :=
  Ct.of (own := RX12) (nm := "codes") (by decide) rfl rfl (Nat.le_of_ble_eq_true rfl) (fun _ _ _ _ _ _ _ _ _ _ _ C => v_X12_codes C  x1 m)
theorem dX12_goesIn_0 : decode cX12_goesIn 0 = .ok (.iload_n 1, 1) := by decide +kernel
theorem dX12_goesIn_1 : decode cX12_goesIn 1 = .ok (.bipush 6, 2) := by decide +kernel
theorem dX12_goesIn_3 : decode cX12_goesIn 3 = .ok (.if_icmp .ne 8, 3) := by decide +kernel
theorem dX12_goesIn_6 : decode cX12_goesIn 6 = .ok (.aload_n 0, 1) := by decide +kernel
theorem dX12_goesIn_7 : decode cX12_goesIn 7 = .ok (.iconst 4, 1) := by decide +kernel
theorem dX12_goesIn_8 : decode cX12_goesIn 8 = .ok (.invokevirtual 129, 3) := by decide +kernel
theorem dX12_goesIn_11 : decode cX12_goesIn 11 = .ok (.aload_n 0, 1) := by decide +kernel
theorem dX12_goesIn_12 : decode cX12_goesIn 12 = .ok (.getfield 117, 3) := by decide +kernel
theorem dX12_goesIn_15 : decode cX12_goesIn 15 = .ok (.ifCond .ne 7, 3) := by decide +kernel
theorem dX12_goesIn_18 : decode cX12_goesIn 18 = .ok (.aload_n 0, 1) := by decide +kernel
theorem dX12_goesIn_19 : decode cX12_goesIn 19 = .ok (.invokevirtual 126, 3) := by decide +kernel
theorem dX12_goesIn_22 : decode cX12_goesIn 22 = .ok (.aload_n 0, 1) := by decide +kernel
theorem dX12_goesIn_23 : decode cX12_goesIn 23 = .ok (.getfield 117, 3) := by decide +kernel
theorem dX12_goesIn_26 : decode cX12_goesIn 26 = .ok (.ifCond .ne 7, 3) := by decide +kernel
theorem dX12_goesIn_29 : decode cX12_goesIn 29 = .ok (.iconst 1, 1) := by decide +kernel
theorem dX12_goesIn_30 : decode cX12_goesIn 30 = .ok (.goto 4, 3) := by decide +kernel
theorem dX12_goesIn_33 : decode cX12_goesIn 33 = .ok (.iconst 0, 1) := by decide +kernel
theorem dX12_goesIn_34 : decode cX12_goesIn 34 = .ok (.ireturn, 1) := by decide +kernel
set_option maxRecDepth 100000 in
set_option maxHeartbeats 4000000 in
theorem v_X12_goesIn_b22 {l : Launch} {p : Program} {e : Env} {s : State} {mt : MethodId} {args : Array Value} {below : List Frame} {meth : Method} {c : Code} {A : Nat → Prop} {ad0 : Nat → Nat} {G : Gt}  (C : Cx G p s mt args meth c RX12 cX12_goesIn 2 (some .boolean) "goesIn" A)  (m : Mem) : V G SM oI l p e s mt args below meth c 2 7 A ad0 17 17 RM 17 RM 22 [(0, .ref 0)] [] m (X12_goesIn_b22   m) := by
  rw [X12_goesIn_b22]
  refine V.aload_n (pc := 22) C dX12_goesIn_22 0 rfl ?_
  refine V.geti (pc := 23) C fl_RX12_117 sM0 kM0 rfl dX12_goesIn_23 ?_
  refine V.if_ne (pc := 26) C dX12_goesIn_26 33 (by decide) (fun _ => ?_) (fun _ => ?_)
  · refine V.iconst (pc := 33) C dX12_goesIn_33 (v := 0) (by decide) ?_
    exact V.zret rfl C dX12_goesIn_34
  · refine V.iconst (pc := 29) C dX12_goesIn_29 (v := 1) (by decide) ?_
    refine V.goto (pc := 30) C dX12_goesIn_30 34 (by decide) ?_
    exact V.zret rfl C dX12_goesIn_34
set_option maxRecDepth 100000 in
set_option maxHeartbeats 4000000 in
theorem v_X12_goesIn_b11 {l : Launch} {p : Program} {e : Env} {s : State} {mt : MethodId} {args : Array Value} {below : List Frame} {meth : Method} {c : Code} {A : Nat → Prop} {ad0 : Nat → Nat} {G : Gt}  (C : Cx G p s mt args meth c RX12 cX12_goesIn 2 (some .boolean) "goesIn" A)  (m : Mem) : V G SM oI l p e s mt args below meth c 2 7 A ad0 17 17 RM 17 RM 11 [(0, .ref 0)] [] m (X12_goesIn_b11   m) := by
  rw [X12_goesIn_b11]
  refine V.aload_n (pc := 11) C dX12_goesIn_11 0 rfl ?_
  refine V.geti (pc := 12) C fl_RX12_117 sM0 kM0 rfl dX12_goesIn_12 ?_
  refine V.if_ne (pc := 15) C dX12_goesIn_15 22 (by decide) (fun _ => ?_) (fun _ => ?_)
  · refine V.wk [0] rfl ?_
    exact v_X12_goesIn_b22 C   m
  · refine V.aload_n (pc := 18) C dX12_goesIn_18 0 rfl ?_
    refine V.callV (pc := 19) (st := []) C (c_X12_next l  m) obV ck_X12_next ml_RX12_126 rfl rfl sM0 kM0 rfl rfl (Nat.le_of_ble_eq_true rfl) ⟨by decide, by decide⟩ dX12_goesIn_19 (fun r_1 m_2 _ => ?_)
    refine V.wk [0] rfl ?_
    exact v_X12_goesIn_b22 C   m_2
set_option maxRecDepth 100000 in
set_option maxHeartbeats 4000000 in
theorem v_X12_goesIn {l : Launch} {p : Program} {e : Env} {s : State} {mt : MethodId} {args : Array Value} {below : List Frame} {meth : Method} {c : Code} {A : Nat → Prop} {ad0 : Nat → Nat} {G : Gt}  (C : Cx G p s mt args meth c RX12 cX12_goesIn 2 (some .boolean) "goesIn" A)  (x1 : Int32) (m : Mem) : V G SM oI l p e s mt args below meth c 2 7 A ad0 17 17 RM 17 RM 0 [(0, .ref 0), (1, .int x1)] [] m (X12_goesIn  x1 m) := by
  rw [X12_goesIn]
  refine V.iload_n (pc := 0) C dX12_goesIn_0 1 rfl ?_
  refine V.bipush (pc := 1) C dX12_goesIn_1 (v := 6) (by decide) ?_
  refine V.icmp_ne (pc := 3) C dX12_goesIn_3 11 (by decide) (fun _ => ?_) (fun _ => ?_)
  · refine V.wk [0] rfl ?_
    exact v_X12_goesIn_b11 C   m
  · refine V.aload_n (pc := 6) C dX12_goesIn_6 0 rfl ?_
    refine V.iconst (pc := 7) C dX12_goesIn_7 (v := 4) (by decide) ?_
    refine V.callV (pc := 8) (st := []) C (c_X12_fails l 4 m) obV ck_X12_fails ml_RX12_129 rfl rfl sM0 kM0 rfl rfl (Nat.le_of_ble_eq_true rfl) ⟨by decide, by decide⟩ dX12_goesIn_8 (fun r_3 m_4 _ => ?_)
    refine V.wk [0] rfl ?_
    exact v_X12_goesIn_b11 C   m_4
theorem c_X12_goesIn (l : Launch)   (x1 : Int32) (m : Mem) : Ct l yX12_goesIn cX12_goesIn 2 (some .boolean) 7 SM oI 17 17 RM RM [.ref 0, .int x1] m (X12_goesIn  x1 m) :=
  Ct.of (own := RX12) (nm := "goesIn") (by decide) rfl rfl (Nat.le_of_ble_eq_true rfl) (fun _ _ _ _ _ _ _ _ _ _ _ C => v_X12_goesIn C  x1 m)
theorem dX12_readTruth_0 : decode cX12_readTruth 0 = .ok (.aload_n 0, 1) := by decide +kernel
theorem dX12_readTruth_1 : decode cX12_readTruth 1 = .ok (.iload_n 1, 1) := by decide +kernel
theorem dX12_readTruth_2 : decode cX12_readTruth 2 = .ok (.invokevirtual 165, 3) := by decide +kernel
theorem dX12_readTruth_5 : decode cX12_readTruth 5 = .ok (.aload_n 0, 1) := by decide +kernel
theorem dX12_readTruth_6 : decode cX12_readTruth 6 = .ok (.bipush 10, 2) := by decide +kernel
theorem dX12_readTruth_8 : decode cX12_readTruth 8 = .ok (.invokevirtual 150, 3) := by decide +kernel
theorem dX12_readTruth_11 : decode cX12_readTruth 11 = .ok (.ifCond .eq 18, 3) := by decide +kernel
theorem dX12_readTruth_14 : decode cX12_readTruth 14 = .ok (.aload_n 0, 1) := by decide +kernel
theorem dX12_readTruth_15 : decode cX12_readTruth 15 = .ok (.iload_n 1, 1) := by decide +kernel
theorem dX12_readTruth_16 : decode cX12_readTruth 16 = .ok (.invokevirtual 165, 3) := by decide +kernel
theorem dX12_readTruth_19 : decode cX12_readTruth 19 = .ok (.aload_n 0, 1) := by decide +kernel
theorem dX12_readTruth_20 : decode cX12_readTruth 20 = .ok (.sipush 3007, 3) := by decide +kernel
theorem dX12_readTruth_23 : decode cX12_readTruth 23 = .ok (.invokevirtual 137, 3) := by decide +kernel
theorem dX12_readTruth_26 : decode cX12_readTruth 26 = .ok (.goto (-21), 3) := by decide +kernel
theorem dX12_readTruth_29 : decode cX12_readTruth 29 = .ok (.return_, 1) := by decide +kernel
set_option maxRecDepth 100000 in
set_option maxHeartbeats 4000000 in
theorem v_X12_readTruth_b5 {l : Launch} {p : Program} {e : Env} {s : State} {mt : MethodId} {args : Array Value} {below : List Frame} {meth : Method} {c : Code} {A : Nat → Prop} {ad0 : Nat → Nat} {G : Gt}  {fr fr1 : Nat} (hfr : fr1 + 1 ≤ fr ∧ 8 ≤ fr) (C : Cx G p s mt args meth c RX12 cX12_readTruth 2 none "readTruth" A) (f_X12_readBoth : Int32 → Mem → Option (Unit × Mem)) (h_X12_readBoth : ∀ (x1 : Int32) (m : Mem), Ct l yX12_readBoth cX12_readBoth 2 none fr1 SM oV 17 17 RM RM [.ref 0, .int x1] m (f_X12_readBoth x1 m)) : ∀ (n : Nat) (y1 : Int32) (m : Mem), V G SM oV l p e s mt args below meth c 2 fr A ad0 17 17 RM 17 RM 5 [(0, .ref 0), (1, .int y1)] [] m (X12_readTruth_b5 f_X12_readBoth n y1 m) := by
  intro n
  induction n with
  | zero =>
    intro y1 m
    rw [X12_readTruth_b5]
    exact V.nil
  | succ n ih =>
    intro y1 m
    rw [X12_readTruth_b5]
    refine V.aload_n (pc := 5) C dX12_readTruth_5 0 rfl ?_
    refine V.bipush (pc := 6) C dX12_readTruth_6 (v := 10) (by decide) ?_
    refine V.callV (pc := 8) (st := []) C (c_X12_eats l 10 m) obI ck_X12_eats ml_RX12_150 rfl rfl sM0 kM0 rfl rfl (Nat.le_of_ble_eq_true rfl) ⟨by omega, by decide⟩ dX12_readTruth_8 (fun r_3 m_4 _ => ?_)
    refine V.if_eq (pc := 11) C dX12_readTruth_11 29 (by decide) (fun _ => ?_) (fun _ => ?_)
    · exact V.vret C dX12_readTruth_29
    · refine V.aload_n (pc := 14) C dX12_readTruth_14 0 rfl ?_
      refine V.iload_n (pc := 15) C dX12_readTruth_15 1 rfl ?_
      refine V.callV (pc := 16) (st := []) C (h_X12_readBoth y1 m_4) obV ck_X12_readBoth ml_RX12_165 rfl rfl sM0 kM0 rfl rfl (Nat.le_of_ble_eq_true rfl) ⟨by omega, by decide⟩ dX12_readTruth_16 (fun r_5 m_6 _ => ?_)
      refine V.aload_n (pc := 19) C dX12_readTruth_19 0 rfl ?_
      refine V.sipush (pc := 20) C dX12_readTruth_20 (v := 3007) (by decide) ?_
      refine V.callV (pc := 23) (st := []) C (c_X12_codes l 3007 m_6) obV ck_X12_codes ml_RX12_137 rfl rfl sM0 kM0 rfl rfl (Nat.le_of_ble_eq_true rfl) ⟨by omega, by decide⟩ dX12_readTruth_23 (fun r_7 m_8 _ => ?_)
      refine V.goto (pc := 26) C dX12_readTruth_26 5 (by decide) ?_
      refine V.wk [0, 1] rfl ?_
      exact ih y1 m_8
set_option maxRecDepth 100000 in
set_option maxHeartbeats 4000000 in
theorem v_X12_readTruth {l : Launch} {p : Program} {e : Env} {s : State} {mt : MethodId} {args : Array Value} {below : List Frame} {meth : Method} {c : Code} {A : Nat → Prop} {ad0 : Nat → Nat} {G : Gt}  {fr fr1 : Nat} (hfr : fr1 + 1 ≤ fr ∧ 8 ≤ fr) (C : Cx G p s mt args meth c RX12 cX12_readTruth 2 none "readTruth" A) (f_X12_readBoth : Int32 → Mem → Option (Unit × Mem)) (h_X12_readBoth : ∀ (x1 : Int32) (m : Mem), Ct l yX12_readBoth cX12_readBoth 2 none fr1 SM oV 17 17 RM RM [.ref 0, .int x1] m (f_X12_readBoth x1 m)) (x1 : Int32) (m : Mem) : V G SM oV l p e s mt args below meth c 2 fr A ad0 17 17 RM 17 RM 0 [(0, .ref 0), (1, .int x1)] [] m (X12_readTruth f_X12_readBoth x1 m) := by
  rw [X12_readTruth]
  refine V.aload_n (pc := 0) C dX12_readTruth_0 0 rfl ?_
  refine V.iload_n (pc := 1) C dX12_readTruth_1 1 rfl ?_
  refine V.callV (pc := 2) (st := []) C (h_X12_readBoth x1 m) obV ck_X12_readBoth ml_RX12_165 rfl rfl sM0 kM0 rfl rfl (Nat.le_of_ble_eq_true rfl) ⟨by omega, by decide⟩ dX12_readTruth_2 (fun r_1 m_2 _ => ?_)
  refine V.wk [0, 1] rfl ?_
  exact v_X12_readTruth_b5 hfr C f_X12_readBoth h_X12_readBoth FU x1 m_2
theorem c_X12_readTruth (l : Launch)  {fr fr1 : Nat} (hfr : fr1 + 1 ≤ fr ∧ 8 ≤ fr) (f_X12_readBoth : Int32 → Mem → Option (Unit × Mem)) (h_X12_readBoth : ∀ (x1 : Int32) (m : Mem), Ct l yX12_readBoth cX12_readBoth 2 none fr1 SM oV 17 17 RM RM [.ref 0, .int x1] m (f_X12_readBoth x1 m)) (x1 : Int32) (m : Mem) : Ct l yX12_readTruth cX12_readTruth 2 none fr SM oV 17 17 RM RM [.ref 0, .int x1] m (X12_readTruth f_X12_readBoth x1 m) :=
  Ct.of (own := RX12) (nm := "readTruth") (by decide) rfl rfl (Nat.le_of_ble_eq_true rfl) (fun _ _ _ _ _ _ _ _ _ _ _ C => v_X12_readTruth hfr C f_X12_readBoth h_X12_readBoth x1 m)
theorem dX12_readBoth_0 : decode cX12_readBoth 0 = .ok (.aload_n 0, 1) := by decide +kernel
theorem dX12_readBoth_1 : decode cX12_readBoth 1 = .ok (.iload_n 1, 1) := by decide +kernel
theorem dX12_readBoth_2 : decode cX12_readBoth 2 = .ok (.invokevirtual 159, 3) := by decide +kernel
theorem dX12_readBoth_5 : decode cX12_readBoth 5 = .ok (.aload_n 0, 1) := by decide +kernel
theorem dX12_readBoth_6 : decode cX12_readBoth 6 = .ok (.bipush 11, 2) := by decide +kernel
theorem dX12_readBoth_8 : decode cX12_readBoth 8 = .ok (.invokevirtual 150, 3) := by decide +kernel
theorem dX12_readBoth_11 : decode cX12_readBoth 11 = .ok (.ifCond .eq 18, 3) := by decide +kernel
theorem dX12_readBoth_14 : decode cX12_readBoth 14 = .ok (.aload_n 0, 1) := by decide +kernel
theorem dX12_readBoth_15 : decode cX12_readBoth 15 = .ok (.iload_n 1, 1) := by decide +kernel
theorem dX12_readBoth_16 : decode cX12_readBoth 16 = .ok (.invokevirtual 159, 3) := by decide +kernel
theorem dX12_readBoth_19 : decode cX12_readBoth 19 = .ok (.aload_n 0, 1) := by decide +kernel
theorem dX12_readBoth_20 : decode cX12_readBoth 20 = .ok (.sipush 3006, 3) := by decide +kernel
theorem dX12_readBoth_23 : decode cX12_readBoth 23 = .ok (.invokevirtual 137, 3) := by decide +kernel
theorem dX12_readBoth_26 : decode cX12_readBoth 26 = .ok (.goto (-21), 3) := by decide +kernel
theorem dX12_readBoth_29 : decode cX12_readBoth 29 = .ok (.return_, 1) := by decide +kernel
set_option maxRecDepth 100000 in
set_option maxHeartbeats 4000000 in
theorem v_X12_readBoth_b5 {l : Launch} {p : Program} {e : Env} {s : State} {mt : MethodId} {args : Array Value} {below : List Frame} {meth : Method} {c : Code} {A : Nat → Prop} {ad0 : Nat → Nat} {G : Gt}  {fr fr1 : Nat} (hfr : fr1 + 1 ≤ fr ∧ 8 ≤ fr) (C : Cx G p s mt args meth c RX12 cX12_readBoth 2 none "readBoth" A) (f_X12_readUnit : Int32 → Mem → Option (Unit × Mem)) (h_X12_readUnit : ∀ (x1 : Int32) (m : Mem), Ct l yX12_readUnit cX12_readUnit 3 none fr1 SM oV 17 17 RM RM [.ref 0, .int x1] m (f_X12_readUnit x1 m)) : ∀ (n : Nat) (y1 : Int32) (m : Mem), V G SM oV l p e s mt args below meth c 2 fr A ad0 17 17 RM 17 RM 5 [(0, .ref 0), (1, .int y1)] [] m (X12_readBoth_b5 f_X12_readUnit n y1 m) := by
  intro n
  induction n with
  | zero =>
    intro y1 m
    rw [X12_readBoth_b5]
    exact V.nil
  | succ n ih =>
    intro y1 m
    rw [X12_readBoth_b5]
    refine V.aload_n (pc := 5) C dX12_readBoth_5 0 rfl ?_
    refine V.bipush (pc := 6) C dX12_readBoth_6 (v := 11) (by decide) ?_
    refine V.callV (pc := 8) (st := []) C (c_X12_eats l 11 m) obI ck_X12_eats ml_RX12_150 rfl rfl sM0 kM0 rfl rfl (Nat.le_of_ble_eq_true rfl) ⟨by omega, by decide⟩ dX12_readBoth_8 (fun r_3 m_4 _ => ?_)
    refine V.if_eq (pc := 11) C dX12_readBoth_11 29 (by decide) (fun _ => ?_) (fun _ => ?_)
    · exact V.vret C dX12_readBoth_29
    · refine V.aload_n (pc := 14) C dX12_readBoth_14 0 rfl ?_
      refine V.iload_n (pc := 15) C dX12_readBoth_15 1 rfl ?_
      refine V.callV (pc := 16) (st := []) C (h_X12_readUnit y1 m_4) obV ck_X12_readUnit ml_RX12_159 rfl rfl sM0 kM0 rfl rfl (Nat.le_of_ble_eq_true rfl) ⟨by omega, by decide⟩ dX12_readBoth_16 (fun r_5 m_6 _ => ?_)
      refine V.aload_n (pc := 19) C dX12_readBoth_19 0 rfl ?_
      refine V.sipush (pc := 20) C dX12_readBoth_20 (v := 3006) (by decide) ?_
      refine V.callV (pc := 23) (st := []) C (c_X12_codes l 3006 m_6) obV ck_X12_codes ml_RX12_137 rfl rfl sM0 kM0 rfl rfl (Nat.le_of_ble_eq_true rfl) ⟨by omega, by decide⟩ dX12_readBoth_23 (fun r_7 m_8 _ => ?_)
      refine V.goto (pc := 26) C dX12_readBoth_26 5 (by decide) ?_
      refine V.wk [0, 1] rfl ?_
      exact ih y1 m_8
set_option maxRecDepth 100000 in
set_option maxHeartbeats 4000000 in
theorem v_X12_readBoth {l : Launch} {p : Program} {e : Env} {s : State} {mt : MethodId} {args : Array Value} {below : List Frame} {meth : Method} {c : Code} {A : Nat → Prop} {ad0 : Nat → Nat} {G : Gt}  {fr fr1 : Nat} (hfr : fr1 + 1 ≤ fr ∧ 8 ≤ fr) (C : Cx G p s mt args meth c RX12 cX12_readBoth 2 none "readBoth" A) (f_X12_readUnit : Int32 → Mem → Option (Unit × Mem)) (h_X12_readUnit : ∀ (x1 : Int32) (m : Mem), Ct l yX12_readUnit cX12_readUnit 3 none fr1 SM oV 17 17 RM RM [.ref 0, .int x1] m (f_X12_readUnit x1 m)) (x1 : Int32) (m : Mem) : V G SM oV l p e s mt args below meth c 2 fr A ad0 17 17 RM 17 RM 0 [(0, .ref 0), (1, .int x1)] [] m (X12_readBoth f_X12_readUnit x1 m) := by
  rw [X12_readBoth]
  refine V.aload_n (pc := 0) C dX12_readBoth_0 0 rfl ?_
  refine V.iload_n (pc := 1) C dX12_readBoth_1 1 rfl ?_
  refine V.callV (pc := 2) (st := []) C (h_X12_readUnit x1 m) obV ck_X12_readUnit ml_RX12_159 rfl rfl sM0 kM0 rfl rfl (Nat.le_of_ble_eq_true rfl) ⟨by omega, by decide⟩ dX12_readBoth_2 (fun r_1 m_2 _ => ?_)
  refine V.wk [0, 1] rfl ?_
  exact v_X12_readBoth_b5 hfr C f_X12_readUnit h_X12_readUnit FU x1 m_2
theorem c_X12_readBoth (l : Launch)  {fr fr1 : Nat} (hfr : fr1 + 1 ≤ fr ∧ 8 ≤ fr) (f_X12_readUnit : Int32 → Mem → Option (Unit × Mem)) (h_X12_readUnit : ∀ (x1 : Int32) (m : Mem), Ct l yX12_readUnit cX12_readUnit 3 none fr1 SM oV 17 17 RM RM [.ref 0, .int x1] m (f_X12_readUnit x1 m)) (x1 : Int32) (m : Mem) : Ct l yX12_readBoth cX12_readBoth 2 none fr SM oV 17 17 RM RM [.ref 0, .int x1] m (X12_readBoth f_X12_readUnit x1 m) :=
  Ct.of (own := RX12) (nm := "readBoth") (by decide) rfl rfl (Nat.le_of_ble_eq_true rfl) (fun _ _ _ _ _ _ _ _ _ _ _ C => v_X12_readBoth hfr C f_X12_readUnit h_X12_readUnit x1 m)
theorem dX12_readUnit_0 : decode cX12_readUnit 0 = .ok (.aload_n 0, 1) := by decide +kernel
theorem dX12_readUnit_1 : decode cX12_readUnit 1 = .ok (.bipush 12, 2) := by decide +kernel
theorem dX12_readUnit_3 : decode cX12_readUnit 3 = .ok (.invokevirtual 123, 3) := by decide +kernel
theorem dX12_readUnit_6 : decode cX12_readUnit 6 = .ok (.ifCond .eq 27, 3) := by decide +kernel
theorem dX12_readUnit_9 : decode cX12_readUnit 9 = .ok (.aload_n 0, 1) := by decide +kernel
theorem dX12_readUnit_10 : decode cX12_readUnit 10 = .ok (.iload_n 1, 1) := by decide +kernel
theorem dX12_readUnit_11 : decode cX12_readUnit 11 = .ok (.invokevirtual 144, 3) := by decide +kernel
theorem dX12_readUnit_14 : decode cX12_readUnit 14 = .ok (.ifCond .ne 4, 3) := by decide +kernel
theorem dX12_readUnit_17 : decode cX12_readUnit 17 = .ok (.return_, 1) := by decide +kernel
theorem dX12_readUnit_18 : decode cX12_readUnit 18 = .ok (.aload_n 0, 1) := by decide +kernel
theorem dX12_readUnit_19 : decode cX12_readUnit 19 = .ok (.iload_n 1, 1) := by decide +kernel
theorem dX12_readUnit_20 : decode cX12_readUnit 20 = .ok (.iconst 1, 1) := by decide +kernel
theorem dX12_readUnit_21 : decode cX12_readUnit 21 = .ok (.iadd, 1) := by decide +kernel
theorem dX12_readUnit_22 : decode cX12_readUnit 22 = .ok (.invokevirtual 159, 3) := by decide +kernel
theorem dX12_readUnit_25 : decode cX12_readUnit 25 = .ok (.aload_n 0, 1) := by decide +kernel
theorem dX12_readUnit_26 : decode cX12_readUnit 26 = .ok (.sipush 3008, 3) := by decide +kernel
theorem dX12_readUnit_29 : decode cX12_readUnit 29 = .ok (.invokevirtual 137, 3) := by decide +kernel
theorem dX12_readUnit_32 : decode cX12_readUnit 32 = .ok (.return_, 1) := by decide +kernel
theorem dX12_readUnit_33 : decode cX12_readUnit 33 = .ok (.aload_n 0, 1) := by decide +kernel
theorem dX12_readUnit_34 : decode cX12_readUnit 34 = .ok (.bipush 37, 2) := by decide +kernel
theorem dX12_readUnit_36 : decode cX12_readUnit 36 = .ok (.invokevirtual 123, 3) := by decide +kernel
theorem dX12_readUnit_39 : decode cX12_readUnit 39 = .ok (.ifCond .eq 34, 3) := by decide +kernel
theorem dX12_readUnit_42 : decode cX12_readUnit 42 = .ok (.aload_n 0, 1) := by decide +kernel
theorem dX12_readUnit_43 : decode cX12_readUnit 43 = .ok (.iload_n 1, 1) := by decide +kernel
theorem dX12_readUnit_44 : decode cX12_readUnit 44 = .ok (.invokevirtual 144, 3) := by decide +kernel
theorem dX12_readUnit_47 : decode cX12_readUnit 47 = .ok (.ifCond .ne 4, 3) := by decide +kernel
theorem dX12_readUnit_50 : decode cX12_readUnit 50 = .ok (.return_, 1) := by decide +kernel
theorem dX12_readUnit_51 : decode cX12_readUnit 51 = .ok (.aload_n 0, 1) := by decide +kernel
theorem dX12_readUnit_52 : decode cX12_readUnit 52 = .ok (.iload_n 1, 1) := by decide +kernel
theorem dX12_readUnit_53 : decode cX12_readUnit 53 = .ok (.iconst 1, 1) := by decide +kernel
theorem dX12_readUnit_54 : decode cX12_readUnit 54 = .ok (.iadd, 1) := by decide +kernel
theorem dX12_readUnit_55 : decode cX12_readUnit 55 = .ok (.invokevirtual 162, 3) := by decide +kernel
theorem dX12_readUnit_58 : decode cX12_readUnit 58 = .ok (.aload_n 0, 1) := by decide +kernel
theorem dX12_readUnit_59 : decode cX12_readUnit 59 = .ok (.bipush 38, 2) := by decide +kernel
theorem dX12_readUnit_61 : decode cX12_readUnit 61 = .ok (.invokevirtual 150, 3) := by decide +kernel
theorem dX12_readUnit_64 : decode cX12_readUnit 64 = .ok (.ifCond .ne 8, 3) := by decide +kernel
theorem dX12_readUnit_67 : decode cX12_readUnit 67 = .ok (.aload_n 0, 1) := by decide +kernel
theorem dX12_readUnit_68 : decode cX12_readUnit 68 = .ok (.iconst 2, 1) := by decide +kernel
theorem dX12_readUnit_69 : decode cX12_readUnit 69 = .ok (.invokevirtual 129, 3) := by decide +kernel
theorem dX12_readUnit_72 : decode cX12_readUnit 72 = .ok (.return_, 1) := by decide +kernel
theorem dX12_readUnit_73 : decode cX12_readUnit 73 = .ok (.aload_n 0, 1) := by decide +kernel
theorem dX12_readUnit_74 : decode cX12_readUnit 74 = .ok (.iload_n 1, 1) := by decide +kernel
theorem dX12_readUnit_75 : decode cX12_readUnit 75 = .ok (.invokevirtual 147, 3) := by decide +kernel
theorem dX12_readUnit_78 : decode cX12_readUnit 78 = .ok (.aload_n 0, 1) := by decide +kernel
theorem dX12_readUnit_79 : decode cX12_readUnit 79 = .ok (.bipush 39, 2) := by decide +kernel
theorem dX12_readUnit_81 : decode cX12_readUnit 81 = .ok (.invokevirtual 123, 3) := by decide +kernel
theorem dX12_readUnit_84 : decode cX12_readUnit 84 = .ok (.ifCond .eq 9, 3) := by decide +kernel
theorem dX12_readUnit_87 : decode cX12_readUnit 87 = .ok (.sipush 3003, 3) := by decide +kernel
theorem dX12_readUnit_90 : decode cX12_readUnit 90 = .ok (.goto 21, 3) := by decide +kernel
theorem dX12_readUnit_93 : decode cX12_readUnit 93 = .ok (.aload_n 0, 1) := by decide +kernel
theorem dX12_readUnit_94 : decode cX12_readUnit 94 = .ok (.bipush 40, 2) := by decide +kernel
theorem dX12_readUnit_96 : decode cX12_readUnit 96 = .ok (.invokevirtual 123, 3) := by decide +kernel
theorem dX12_readUnit_99 : decode cX12_readUnit 99 = .ok (.ifCond .eq 9, 3) := by decide +kernel
theorem dX12_readUnit_102 : decode cX12_readUnit 102 = .ok (.sipush 3004, 3) := by decide +kernel
theorem dX12_readUnit_105 : decode cX12_readUnit 105 = .ok (.goto 6, 3) := by decide +kernel
theorem dX12_readUnit_108 : decode cX12_readUnit 108 = .ok (.sipush 3005, 3) := by decide +kernel
theorem dX12_readUnit_111 : decode cX12_readUnit 111 = .ok (.istore_n 2, 1) := by decide +kernel
theorem dX12_readUnit_112 : decode cX12_readUnit 112 = .ok (.aload_n 0, 1) := by decide +kernel
theorem dX12_readUnit_113 : decode cX12_readUnit 113 = .ok (.bipush 39, 2) := by decide +kernel
theorem dX12_readUnit_115 : decode cX12_readUnit 115 = .ok (.invokevirtual 123, 3) := by decide +kernel
theorem dX12_readUnit_118 : decode cX12_readUnit 118 = .ok (.ifCond .ne 21, 3) := by decide +kernel
theorem dX12_readUnit_121 : decode cX12_readUnit 121 = .ok (.aload_n 0, 1) := by decide +kernel
theorem dX12_readUnit_122 : decode cX12_readUnit 122 = .ok (.bipush 40, 2) := by decide +kernel
theorem dX12_readUnit_124 : decode cX12_readUnit 124 = .ok (.invokevirtual 123, 3) := by decide +kernel
theorem dX12_readUnit_127 : decode cX12_readUnit 127 = .ok (.ifCond .ne 12, 3) := by decide +kernel
theorem dX12_readUnit_130 : decode cX12_readUnit 130 = .ok (.aload_n 0, 1) := by decide +kernel
theorem dX12_readUnit_131 : decode cX12_readUnit 131 = .ok (.bipush 41, 2) := by decide +kernel
theorem dX12_readUnit_133 : decode cX12_readUnit 133 = .ok (.invokevirtual 123, 3) := by decide +kernel
theorem dX12_readUnit_136 : decode cX12_readUnit 136 = .ok (.ifCond .eq 10, 3) := by decide +kernel
theorem dX12_readUnit_139 : decode cX12_readUnit 139 = .ok (.aload_n 0, 1) := by decide +kernel
theorem dX12_readUnit_140 : decode cX12_readUnit 140 = .ok (.invokevirtual 126, 3) := by decide +kernel
theorem dX12_readUnit_143 : decode cX12_readUnit 143 = .ok (.goto 8, 3) := by decide +kernel
theorem dX12_readUnit_146 : decode cX12_readUnit 146 = .ok (.aload_n 0, 1) := by decide +kernel
theorem dX12_readUnit_147 : decode cX12_readUnit 147 = .ok (.iconst 2, 1) := by decide +kernel
theorem dX12_readUnit_148 : decode cX12_readUnit 148 = .ok (.invokevirtual 129, 3) := by decide +kernel
theorem dX12_readUnit_151 : decode cX12_readUnit 151 = .ok (.aload_n 0, 1) := by decide +kernel
theorem dX12_readUnit_152 : decode cX12_readUnit 152 = .ok (.iload_n 1, 1) := by decide +kernel
theorem dX12_readUnit_153 : decode cX12_readUnit 153 = .ok (.invokevirtual 147, 3) := by decide +kernel
theorem dX12_readUnit_156 : decode cX12_readUnit 156 = .ok (.aload_n 0, 1) := by decide +kernel
theorem dX12_readUnit_157 : decode cX12_readUnit 157 = .ok (.iload_n 2, 1) := by decide +kernel
theorem dX12_readUnit_158 : decode cX12_readUnit 158 = .ok (.invokevirtual 137, 3) := by decide +kernel
theorem dX12_readUnit_161 : decode cX12_readUnit 161 = .ok (.return_, 1) := by decide +kernel
set_option maxRecDepth 100000 in
set_option maxHeartbeats 4000000 in
theorem v_X12_readUnit_b151 {l : Launch} {p : Program} {e : Env} {s : State} {mt : MethodId} {args : Array Value} {below : List Frame} {meth : Method} {c : Code} {A : Nat → Prop} {ad0 : Nat → Nat} {G : Gt}  {fr fr1 : Nat} (hfr : fr1 + 1 ≤ fr ∧ 8 ≤ fr) (C : Cx G p s mt args meth c RX12 cX12_readUnit 3 none "readUnit" A) (f_X12_readTruth : Int32 → Mem → Option (Unit × Mem)) (h_X12_readTruth : ∀ (x1 : Int32) (m : Mem), Ct l yX12_readTruth cX12_readTruth 2 none fr1 SM oV 17 17 RM RM [.ref 0, .int x1] m (f_X12_readTruth x1 m)) (f_X12_readUnit : Int32 → Mem → Option (Unit × Mem)) (h_X12_readUnit : ∀ (x1 : Int32) (m : Mem), Ct l yX12_readUnit cX12_readUnit 3 none fr1 SM oV 17 17 RM RM [.ref 0, .int x1] m (f_X12_readUnit x1 m)) (f_X12_readSum : Int32 → Mem → Option (Unit × Mem)) (h_X12_readSum : ∀ (x1 : Int32) (m : Mem), Ct l yX12_readSum cX12_readSum 3 none fr1 SM oV 17 17 RM RM [.ref 0, .int x1] m (f_X12_readSum x1 m)) (y1 : Int32) (y2 : Int32) (m : Mem) : V G SM oV l p e s mt args below meth c 3 fr A ad0 17 17 RM 17 RM 151 [(0, .ref 0), (1, .int y1), (2, .int y2)] [] m (X12_readUnit_b151 f_X12_readTruth f_X12_readUnit f_X12_readSum y1 y2 m) := by
  rw [X12_readUnit_b151]
  refine V.aload_n (pc := 151) C dX12_readUnit_151 0 rfl ?_
  refine V.iload_n (pc := 152) C dX12_readUnit_152 1 rfl ?_
  refine V.callV (pc := 153) (st := []) C (h_X12_readSum y1 m) obV ck_X12_readSum ml_RX12_147 rfl rfl sM0 kM0 rfl rfl (Nat.le_of_ble_eq_true rfl) ⟨by omega, by decide⟩ dX12_readUnit_153 (fun r_15 m_16 _ => ?_)
  refine V.aload_n (pc := 156) C dX12_readUnit_156 0 rfl ?_
  refine V.iload_n (pc := 157) C dX12_readUnit_157 2 rfl ?_
  refine V.callV (pc := 158) (st := []) C (c_X12_codes l y2 m_16) obV ck_X12_codes ml_RX12_137 rfl rfl sM0 kM0 rfl rfl (Nat.le_of_ble_eq_true rfl) ⟨by omega, by decide⟩ dX12_readUnit_158 (fun r_17 m_18 _ => ?_)
  exact V.vret C dX12_readUnit_161
set_option maxRecDepth 100000 in
set_option maxHeartbeats 4000000 in
theorem v_X12_readUnit_b111 {l : Launch} {p : Program} {e : Env} {s : State} {mt : MethodId} {args : Array Value} {below : List Frame} {meth : Method} {c : Code} {A : Nat → Prop} {ad0 : Nat → Nat} {G : Gt}  {fr fr1 : Nat} (hfr : fr1 + 1 ≤ fr ∧ 8 ≤ fr) (C : Cx G p s mt args meth c RX12 cX12_readUnit 3 none "readUnit" A) (f_X12_readTruth : Int32 → Mem → Option (Unit × Mem)) (h_X12_readTruth : ∀ (x1 : Int32) (m : Mem), Ct l yX12_readTruth cX12_readTruth 2 none fr1 SM oV 17 17 RM RM [.ref 0, .int x1] m (f_X12_readTruth x1 m)) (f_X12_readUnit : Int32 → Mem → Option (Unit × Mem)) (h_X12_readUnit : ∀ (x1 : Int32) (m : Mem), Ct l yX12_readUnit cX12_readUnit 3 none fr1 SM oV 17 17 RM RM [.ref 0, .int x1] m (f_X12_readUnit x1 m)) (f_X12_readSum : Int32 → Mem → Option (Unit × Mem)) (h_X12_readSum : ∀ (x1 : Int32) (m : Mem), Ct l yX12_readSum cX12_readSum 3 none fr1 SM oV 17 17 RM RM [.ref 0, .int x1] m (f_X12_readSum x1 m)) (y1 : Int32) (z0 : Int32) (m : Mem) : V G SM oV l p e s mt args below meth c 3 fr A ad0 17 17 RM 17 RM 111 [(0, .ref 0), (1, .int y1)] [.int z0] m (X12_readUnit_b111 f_X12_readTruth f_X12_readUnit f_X12_readSum y1 z0 m) := by
  rw [X12_readUnit_b111]
  refine V.istore_n (pc := 111) C dX12_readUnit_111 (L2 := [(2, .int z0), (0, .ref 0), (1, .int y1)]) (by decide) rfl ?_
  refine V.aload_n (pc := 112) C dX12_readUnit_112 1 rfl ?_
  refine V.bipush (pc := 113) C dX12_readUnit_113 (v := 39) (by decide) ?_
  refine V.callV (pc := 115) (st := []) C (c_X12_is l 39 m) obI ck_X12_is ml_RX12_123 rfl rfl sM0 kM0 rfl rfl (Nat.le_of_ble_eq_true rfl) ⟨by omega, by decide⟩ dX12_readUnit_115 (fun r_11 m_12 _ => ?_)
  refine V.if_ne (pc := 118) C dX12_readUnit_118 139 (by decide) (fun _ => ?_) (fun _ => ?_)
  · refine V.aload_n (pc := 139) C dX12_readUnit_139 1 rfl ?_
    refine V.callV (pc := 140) (st := []) C (c_X12_next l  m_12) obV ck_X12_next ml_RX12_126 rfl rfl sM0 kM0 rfl rfl (Nat.le_of_ble_eq_true rfl) ⟨by omega, by decide⟩ dX12_readUnit_140 (fun r_13 m_14 _ => ?_)
    refine V.goto (pc := 143) C dX12_readUnit_143 151 (by decide) ?_
    refine V.wk [1, 2, 0] rfl ?_
    exact v_X12_readUnit_b151 hfr C f_X12_readTruth h_X12_readTruth f_X12_readUnit h_X12_readUnit f_X12_readSum h_X12_readSum y1 z0 m_14
  · refine V.aload_n (pc := 121) C dX12_readUnit_121 1 rfl ?_
    refine V.bipush (pc := 122) C dX12_readUnit_122 (v := 40) (by decide) ?_
    refine V.callV (pc := 124) (st := []) C (c_X12_is l 40 m_12) obI ck_X12_is ml_RX12_123 rfl rfl sM0 kM0 rfl rfl (Nat.le_of_ble_eq_true rfl) ⟨by omega, by decide⟩ dX12_readUnit_124 (fun r_19 m_20 _ => ?_)
    refine V.if_ne (pc := 127) C dX12_readUnit_127 139 (by decide) (fun _ => ?_) (fun _ => ?_)
    · refine V.aload_n (pc := 139) C dX12_readUnit_139 1 rfl ?_
      refine V.callV (pc := 140) (st := []) C (c_X12_next l  m_20) obV ck_X12_next ml_RX12_126 rfl rfl sM0 kM0 rfl rfl (Nat.le_of_ble_eq_true rfl) ⟨by omega, by decide⟩ dX12_readUnit_140 (fun r_21 m_22 _ => ?_)
      refine V.goto (pc := 143) C dX12_readUnit_143 151 (by decide) ?_
      refine V.wk [1, 2, 0] rfl ?_
      exact v_X12_readUnit_b151 hfr C f_X12_readTruth h_X12_readTruth f_X12_readUnit h_X12_readUnit f_X12_readSum h_X12_readSum y1 z0 m_22
    · refine V.aload_n (pc := 130) C dX12_readUnit_130 1 rfl ?_
      refine V.bipush (pc := 131) C dX12_readUnit_131 (v := 41) (by decide) ?_
      refine V.callV (pc := 133) (st := []) C (c_X12_is l 41 m_20) obI ck_X12_is ml_RX12_123 rfl rfl sM0 kM0 rfl rfl (Nat.le_of_ble_eq_true rfl) ⟨by omega, by decide⟩ dX12_readUnit_133 (fun r_23 m_24 _ => ?_)
      refine V.if_eq (pc := 136) C dX12_readUnit_136 146 (by decide) (fun _ => ?_) (fun _ => ?_)
      · refine V.aload_n (pc := 146) C dX12_readUnit_146 1 rfl ?_
        refine V.iconst (pc := 147) C dX12_readUnit_147 (v := 2) (by decide) ?_
        refine V.callV (pc := 148) (st := []) C (c_X12_fails l 2 m_24) obV ck_X12_fails ml_RX12_129 rfl rfl sM0 kM0 rfl rfl (Nat.le_of_ble_eq_true rfl) ⟨by omega, by decide⟩ dX12_readUnit_148 (fun r_25 m_26 _ => ?_)
        refine V.wk [1, 2, 0] rfl ?_
        exact v_X12_readUnit_b151 hfr C f_X12_readTruth h_X12_readTruth f_X12_readUnit h_X12_readUnit f_X12_readSum h_X12_readSum y1 z0 m_26
      · refine V.aload_n (pc := 139) C dX12_readUnit_139 1 rfl ?_
        refine V.callV (pc := 140) (st := []) C (c_X12_next l  m_24) obV ck_X12_next ml_RX12_126 rfl rfl sM0 kM0 rfl rfl (Nat.le_of_ble_eq_true rfl) ⟨by omega, by decide⟩ dX12_readUnit_140 (fun r_27 m_28 _ => ?_)
        refine V.goto (pc := 143) C dX12_readUnit_143 151 (by decide) ?_
        refine V.wk [1, 2, 0] rfl ?_
        exact v_X12_readUnit_b151 hfr C f_X12_readTruth h_X12_readTruth f_X12_readUnit h_X12_readUnit f_X12_readSum h_X12_readSum y1 z0 m_28
set_option maxRecDepth 100000 in
set_option maxHeartbeats 4000000 in
theorem v_X12_readUnit {l : Launch} {p : Program} {e : Env} {s : State} {mt : MethodId} {args : Array Value} {below : List Frame} {meth : Method} {c : Code} {A : Nat → Prop} {ad0 : Nat → Nat} {G : Gt}  {fr fr1 : Nat} (hfr : fr1 + 1 ≤ fr ∧ 8 ≤ fr) (C : Cx G p s mt args meth c RX12 cX12_readUnit 3 none "readUnit" A) (f_X12_readTruth : Int32 → Mem → Option (Unit × Mem)) (h_X12_readTruth : ∀ (x1 : Int32) (m : Mem), Ct l yX12_readTruth cX12_readTruth 2 none fr1 SM oV 17 17 RM RM [.ref 0, .int x1] m (f_X12_readTruth x1 m)) (f_X12_readUnit : Int32 → Mem → Option (Unit × Mem)) (h_X12_readUnit : ∀ (x1 : Int32) (m : Mem), Ct l yX12_readUnit cX12_readUnit 3 none fr1 SM oV 17 17 RM RM [.ref 0, .int x1] m (f_X12_readUnit x1 m)) (f_X12_readSum : Int32 → Mem → Option (Unit × Mem)) (h_X12_readSum : ∀ (x1 : Int32) (m : Mem), Ct l yX12_readSum cX12_readSum 3 none fr1 SM oV 17 17 RM RM [.ref 0, .int x1] m (f_X12_readSum x1 m)) (x1 : Int32) (m : Mem) : V G SM oV l p e s mt args below meth c 3 fr A ad0 17 17 RM 17 RM 0 [(0, .ref 0), (1, .int x1)] [] m (X12_readUnit f_X12_readTruth f_X12_readUnit f_X12_readSum x1 m) := by
  rw [X12_readUnit]
  refine V.aload_n (pc := 0) C dX12_readUnit_0 0 rfl ?_
  refine V.bipush (pc := 1) C dX12_readUnit_1 (v := 12) (by decide) ?_
  refine V.callV (pc := 3) (st := []) C (c_X12_is l 12 m) obI ck_X12_is ml_RX12_123 rfl rfl sM0 kM0 rfl rfl (Nat.le_of_ble_eq_true rfl) ⟨by omega, by decide⟩ dX12_readUnit_3 (fun r_1 m_2 _ => ?_)
  refine V.if_eq (pc := 6) C dX12_readUnit_6 33 (by decide) (fun _ => ?_) (fun _ => ?_)
  · refine V.aload_n (pc := 33) C dX12_readUnit_33 0 rfl ?_
    refine V.bipush (pc := 34) C dX12_readUnit_34 (v := 37) (by decide) ?_
    refine V.callV (pc := 36) (st := []) C (c_X12_is l 37 m_2) obI ck_X12_is ml_RX12_123 rfl rfl sM0 kM0 rfl rfl (Nat.le_of_ble_eq_true rfl) ⟨by omega, by decide⟩ dX12_readUnit_36 (fun r_3 m_4 _ => ?_)
    refine V.if_eq (pc := 39) C dX12_readUnit_39 73 (by decide) (fun _ => ?_) (fun _ => ?_)
    · refine V.aload_n (pc := 73) C dX12_readUnit_73 0 rfl ?_
      refine V.iload_n (pc := 74) C dX12_readUnit_74 1 rfl ?_
      refine V.callV (pc := 75) (st := []) C (h_X12_readSum x1 m_4) obV ck_X12_readSum ml_RX12_147 rfl rfl sM0 kM0 rfl rfl (Nat.le_of_ble_eq_true rfl) ⟨by omega, by decide⟩ dX12_readUnit_75 (fun r_5 m_6 _ => ?_)
      refine V.aload_n (pc := 78) C dX12_readUnit_78 0 rfl ?_
      refine V.bipush (pc := 79) C dX12_readUnit_79 (v := 39) (by decide) ?_
      refine V.callV (pc := 81) (st := []) C (c_X12_is l 39 m_6) obI ck_X12_is ml_RX12_123 rfl rfl sM0 kM0 rfl rfl (Nat.le_of_ble_eq_true rfl) ⟨by omega, by decide⟩ dX12_readUnit_81 (fun r_7 m_8 _ => ?_)
      refine V.if_eq (pc := 84) C dX12_readUnit_84 93 (by decide) (fun _ => ?_) (fun _ => ?_)
      · refine V.aload_n (pc := 93) C dX12_readUnit_93 0 rfl ?_
        refine V.bipush (pc := 94) C dX12_readUnit_94 (v := 40) (by decide) ?_
        refine V.callV (pc := 96) (st := []) C (c_X12_is l 40 m_8) obI ck_X12_is ml_RX12_123 rfl rfl sM0 kM0 rfl rfl (Nat.le_of_ble_eq_true rfl) ⟨by omega, by decide⟩ dX12_readUnit_96 (fun r_9 m_10 _ => ?_)
        refine V.if_eq (pc := 99) C dX12_readUnit_99 108 (by decide) (fun _ => ?_) (fun _ => ?_)
        · refine V.sipush (pc := 108) C dX12_readUnit_108 (v := 3005) (by decide) ?_
          refine V.wk [0, 1] rfl ?_
          exact v_X12_readUnit_b111 hfr C f_X12_readTruth h_X12_readTruth f_X12_readUnit h_X12_readUnit f_X12_readSum h_X12_readSum x1 3005 m_10
        · refine V.sipush (pc := 102) C dX12_readUnit_102 (v := 3004) (by decide) ?_
          refine V.goto (pc := 105) C dX12_readUnit_105 111 (by decide) ?_
          refine V.wk [0, 1] rfl ?_
          exact v_X12_readUnit_b111 hfr C f_X12_readTruth h_X12_readTruth f_X12_readUnit h_X12_readUnit f_X12_readSum h_X12_readSum x1 3004 m_10
      · refine V.sipush (pc := 87) C dX12_readUnit_87 (v := 3003) (by decide) ?_
        refine V.goto (pc := 90) C dX12_readUnit_90 111 (by decide) ?_
        refine V.wk [0, 1] rfl ?_
        exact v_X12_readUnit_b111 hfr C f_X12_readTruth h_X12_readTruth f_X12_readUnit h_X12_readUnit f_X12_readSum h_X12_readSum x1 3003 m_8
    · refine V.aload_n (pc := 42) C dX12_readUnit_42 0 rfl ?_
      refine V.iload_n (pc := 43) C dX12_readUnit_43 1 rfl ?_
      refine V.callV (pc := 44) (st := []) C (c_X12_goesIn l x1 m_4) obI ck_X12_goesIn ml_RX12_144 rfl rfl sM0 kM0 rfl rfl (Nat.le_of_ble_eq_true rfl) ⟨by omega, by decide⟩ dX12_readUnit_44 (fun r_29 m_30 _ => ?_)
      refine V.if_ne (pc := 47) C dX12_readUnit_47 51 (by decide) (fun _ => ?_) (fun _ => ?_)
      · refine V.aload_n (pc := 51) C dX12_readUnit_51 0 rfl ?_
        refine V.iload_n (pc := 52) C dX12_readUnit_52 1 rfl ?_
        refine V.iconst (pc := 53) C dX12_readUnit_53 (v := 1) (by decide) ?_
        refine V.iadd (pc := 54) C dX12_readUnit_54 ?_
        refine V.callV (pc := 55) (st := []) C (h_X12_readTruth (x1 + 1) m_30) obV ck_X12_readTruth ml_RX12_162 rfl rfl sM0 kM0 rfl rfl (Nat.le_of_ble_eq_true rfl) ⟨by omega, by decide⟩ dX12_readUnit_55 (fun r_31 m_32 _ => ?_)
        refine V.aload_n (pc := 58) C dX12_readUnit_58 0 rfl ?_
        refine V.bipush (pc := 59) C dX12_readUnit_59 (v := 38) (by decide) ?_
        refine V.callV (pc := 61) (st := []) C (c_X12_eats l 38 m_32) obI ck_X12_eats ml_RX12_150 rfl rfl sM0 kM0 rfl rfl (Nat.le_of_ble_eq_true rfl) ⟨by omega, by decide⟩ dX12_readUnit_61 (fun r_33 m_34 _ => ?_)
        refine V.if_ne (pc := 64) C dX12_readUnit_64 72 (by decide) (fun _ => ?_) (fun _ => ?_)
        · exact V.vret C dX12_readUnit_72
        · refine V.aload_n (pc := 67) C dX12_readUnit_67 0 rfl ?_
          refine V.iconst (pc := 68) C dX12_readUnit_68 (v := 2) (by decide) ?_
          refine V.callV (pc := 69) (st := []) C (c_X12_fails l 2 m_34) obV ck_X12_fails ml_RX12_129 rfl rfl sM0 kM0 rfl rfl (Nat.le_of_ble_eq_true rfl) ⟨by omega, by decide⟩ dX12_readUnit_69 (fun r_35 m_36 _ => ?_)
          exact V.vret C dX12_readUnit_72
      · exact V.vret C dX12_readUnit_50
  · refine V.aload_n (pc := 9) C dX12_readUnit_9 0 rfl ?_
    refine V.iload_n (pc := 10) C dX12_readUnit_10 1 rfl ?_
    refine V.callV (pc := 11) (st := []) C (c_X12_goesIn l x1 m_2) obI ck_X12_goesIn ml_RX12_144 rfl rfl sM0 kM0 rfl rfl (Nat.le_of_ble_eq_true rfl) ⟨by omega, by decide⟩ dX12_readUnit_11 (fun r_37 m_38 _ => ?_)
    refine V.if_ne (pc := 14) C dX12_readUnit_14 18 (by decide) (fun _ => ?_) (fun _ => ?_)
    · refine V.aload_n (pc := 18) C dX12_readUnit_18 0 rfl ?_
      refine V.iload_n (pc := 19) C dX12_readUnit_19 1 rfl ?_
      refine V.iconst (pc := 20) C dX12_readUnit_20 (v := 1) (by decide) ?_
      refine V.iadd (pc := 21) C dX12_readUnit_21 ?_
      refine V.callV (pc := 22) (st := []) C (h_X12_readUnit (x1 + 1) m_38) obV ck_X12_readUnit ml_RX12_159 rfl rfl sM0 kM0 rfl rfl (Nat.le_of_ble_eq_true rfl) ⟨by omega, by decide⟩ dX12_readUnit_22 (fun r_39 m_40 _ => ?_)
      refine V.aload_n (pc := 25) C dX12_readUnit_25 0 rfl ?_
      refine V.sipush (pc := 26) C dX12_readUnit_26 (v := 3008) (by decide) ?_
      refine V.callV (pc := 29) (st := []) C (c_X12_codes l 3008 m_40) obV ck_X12_codes ml_RX12_137 rfl rfl sM0 kM0 rfl rfl (Nat.le_of_ble_eq_true rfl) ⟨by omega, by decide⟩ dX12_readUnit_29 (fun r_41 m_42 _ => ?_)
      exact V.vret C dX12_readUnit_32
    · exact V.vret C dX12_readUnit_17
theorem c_X12_readUnit (l : Launch)  {fr fr1 : Nat} (hfr : fr1 + 1 ≤ fr ∧ 8 ≤ fr) (f_X12_readTruth : Int32 → Mem → Option (Unit × Mem)) (h_X12_readTruth : ∀ (x1 : Int32) (m : Mem), Ct l yX12_readTruth cX12_readTruth 2 none fr1 SM oV 17 17 RM RM [.ref 0, .int x1] m (f_X12_readTruth x1 m)) (f_X12_readUnit : Int32 → Mem → Option (Unit × Mem)) (h_X12_readUnit : ∀ (x1 : Int32) (m : Mem), Ct l yX12_readUnit cX12_readUnit 3 none fr1 SM oV 17 17 RM RM [.ref 0, .int x1] m (f_X12_readUnit x1 m)) (f_X12_readSum : Int32 → Mem → Option (Unit × Mem)) (h_X12_readSum : ∀ (x1 : Int32) (m : Mem), Ct l yX12_readSum cX12_readSum 3 none fr1 SM oV 17 17 RM RM [.ref 0, .int x1] m (f_X12_readSum x1 m)) (x1 : Int32) (m : Mem) : Ct l yX12_readUnit cX12_readUnit 3 none fr SM oV 17 17 RM RM [.ref 0, .int x1] m (X12_readUnit f_X12_readTruth f_X12_readUnit f_X12_readSum x1 m) :=
  Ct.of (own := RX12) (nm := "readUnit") (by decide) rfl rfl (Nat.le_of_ble_eq_true rfl) (fun _ _ _ _ _ _ _ _ _ _ _ C => v_X12_readUnit hfr C f_X12_readTruth h_X12_readTruth f_X12_readUnit h_X12_readUnit f_X12_readSum h_X12_readSum x1 m)
theorem dX12_readSum_0 : decode cX12_readSum 0 = .ok (.aload_n 0, 1) := by decide +kernel
theorem dX12_readSum_1 : decode cX12_readSum 1 = .ok (.iload_n 1, 1) := by decide +kernel
theorem dX12_readSum_2 : decode cX12_readSum 2 = .ok (.invokevirtual 156, 3) := by decide +kernel
theorem dX12_readSum_5 : decode cX12_readSum 5 = .ok (.aload_n 0, 1) := by decide +kernel
theorem dX12_readSum_6 : decode cX12_readSum 6 = .ok (.bipush 32, 2) := by decide +kernel
theorem dX12_readSum_8 : decode cX12_readSum 8 = .ok (.invokevirtual 123, 3) := by decide +kernel
theorem dX12_readSum_11 : decode cX12_readSum 11 = .ok (.ifCond .ne 12, 3) := by decide +kernel
theorem dX12_readSum_14 : decode cX12_readSum 14 = .ok (.aload_n 0, 1) := by decide +kernel
theorem dX12_readSum_15 : decode cX12_readSum 15 = .ok (.bipush 33, 2) := by decide +kernel
theorem dX12_readSum_17 : decode cX12_readSum 17 = .ok (.invokevirtual 123, 3) := by decide +kernel
theorem dX12_readSum_20 : decode cX12_readSum 20 = .ok (.ifCond .eq 39, 3) := by decide +kernel
theorem dX12_readSum_23 : decode cX12_readSum 23 = .ok (.aload_n 0, 1) := by decide +kernel
theorem dX12_readSum_24 : decode cX12_readSum 24 = .ok (.getfield 99, 3) := by decide +kernel
theorem dX12_readSum_27 : decode cX12_readSum 27 = .ok (.bipush 32, 2) := by decide +kernel
theorem dX12_readSum_29 : decode cX12_readSum 29 = .ok (.if_icmp .ne 9, 3) := by decide +kernel
theorem dX12_readSum_32 : decode cX12_readSum 32 = .ok (.sipush 3000, 3) := by decide +kernel
theorem dX12_readSum_35 : decode cX12_readSum 35 = .ok (.goto 6, 3) := by decide +kernel
theorem dX12_readSum_38 : decode cX12_readSum 38 = .ok (.sipush 3001, 3) := by decide +kernel
theorem dX12_readSum_41 : decode cX12_readSum 41 = .ok (.istore_n 2, 1) := by decide +kernel
theorem dX12_readSum_42 : decode cX12_readSum 42 = .ok (.aload_n 0, 1) := by decide +kernel
theorem dX12_readSum_43 : decode cX12_readSum 43 = .ok (.invokevirtual 126, 3) := by decide +kernel
theorem dX12_readSum_46 : decode cX12_readSum 46 = .ok (.aload_n 0, 1) := by decide +kernel
theorem dX12_readSum_47 : decode cX12_readSum 47 = .ok (.iload_n 1, 1) := by decide +kernel
theorem dX12_readSum_48 : decode cX12_readSum 48 = .ok (.invokevirtual 156, 3) := by decide +kernel
theorem dX12_readSum_51 : decode cX12_readSum 51 = .ok (.aload_n 0, 1) := by decide +kernel
theorem dX12_readSum_52 : decode cX12_readSum 52 = .ok (.iload_n 2, 1) := by decide +kernel
theorem dX12_readSum_53 : decode cX12_readSum 53 = .ok (.invokevirtual 137, 3) := by decide +kernel
theorem dX12_readSum_56 : decode cX12_readSum 56 = .ok (.goto (-51), 3) := by decide +kernel
theorem dX12_readSum_59 : decode cX12_readSum 59 = .ok (.return_, 1) := by decide +kernel
set_option maxRecDepth 100000 in
set_option maxHeartbeats 4000000 in
theorem v_X12_readSum_b41 {l : Launch} {p : Program} {e : Env} {s : State} {mt : MethodId} {args : Array Value} {below : List Frame} {meth : Method} {c : Code} {A : Nat → Prop} {ad0 : Nat → Nat} {G : Gt}  {fr fr1 : Nat} (hfr : fr1 + 1 ≤ fr ∧ 7 ≤ fr) (C : Cx G p s mt args meth c RX12 cX12_readSum 3 none "readSum" A) (f_X12_readTerm : Int32 → Mem → Option (Unit × Mem)) (h_X12_readTerm : ∀ (x1 : Int32) (m : Mem), Ct l yX12_readTerm cX12_readTerm 2 none fr1 SM oV 17 17 RM RM [.ref 0, .int x1] m (f_X12_readTerm x1 m)) (k5 : Int32 → Mem → Option (Unit × Mem)) (h5 : ∀ (y1 : Int32) (m : Mem), V G SM oV l p e s mt args below meth c 3 fr A ad0 17 17 RM 17 RM 5 [(0, .ref 0), (1, .int y1)] [] m (k5 y1 m)) (y1 : Int32) (z0 : Int32) (m : Mem) : V G SM oV l p e s mt args below meth c 3 fr A ad0 17 17 RM 17 RM 41 [(0, .ref 0), (1, .int y1)] [.int z0] m (X12_readSum_b41 f_X12_readTerm k5 y1 z0 m) := by
  rw [X12_readSum_b41]
  refine V.istore_n (pc := 41) C dX12_readSum_41 (L2 := [(2, .int z0), (0, .ref 0), (1, .int y1)]) (by decide) rfl ?_
  refine V.aload_n (pc := 42) C dX12_readSum_42 1 rfl ?_
  refine V.callV (pc := 43) (st := []) C (c_X12_next l  m) obV ck_X12_next ml_RX12_126 rfl rfl sM0 kM0 rfl rfl (Nat.le_of_ble_eq_true rfl) ⟨by omega, by decide⟩ dX12_readSum_43 (fun r_5 m_6 _ => ?_)
  refine V.aload_n (pc := 46) C dX12_readSum_46 1 rfl ?_
  refine V.iload_n (pc := 47) C dX12_readSum_47 2 rfl ?_
  refine V.callV (pc := 48) (st := []) C (h_X12_readTerm y1 m_6) obV ck_X12_readTerm ml_RX12_156 rfl rfl sM0 kM0 rfl rfl (Nat.le_of_ble_eq_true rfl) ⟨by omega, by decide⟩ dX12_readSum_48 (fun r_7 m_8 _ => ?_)
  refine V.aload_n (pc := 51) C dX12_readSum_51 1 rfl ?_
  refine V.iload_n (pc := 52) C dX12_readSum_52 0 rfl ?_
  refine V.callV (pc := 53) (st := []) C (c_X12_codes l z0 m_8) obV ck_X12_codes ml_RX12_137 rfl rfl sM0 kM0 rfl rfl (Nat.le_of_ble_eq_true rfl) ⟨by omega, by decide⟩ dX12_readSum_53 (fun r_9 m_10 _ => ?_)
  refine V.goto (pc := 56) C dX12_readSum_56 5 (by decide) ?_
  refine V.wk [1, 2] rfl ?_
  exact h5 y1 m_10
set_option maxRecDepth 100000 in
set_option maxHeartbeats 4000000 in
theorem v_X12_readSum_b23 {l : Launch} {p : Program} {e : Env} {s : State} {mt : MethodId} {args : Array Value} {below : List Frame} {meth : Method} {c : Code} {A : Nat → Prop} {ad0 : Nat → Nat} {G : Gt}  {fr fr1 : Nat} (hfr : fr1 + 1 ≤ fr ∧ 7 ≤ fr) (C : Cx G p s mt args meth c RX12 cX12_readSum 3 none "readSum" A) (f_X12_readTerm : Int32 → Mem → Option (Unit × Mem)) (h_X12_readTerm : ∀ (x1 : Int32) (m : Mem), Ct l yX12_readTerm cX12_readTerm 2 none fr1 SM oV 17 17 RM RM [.ref 0, .int x1] m (f_X12_readTerm x1 m)) (k5 : Int32 → Mem → Option (Unit × Mem)) (h5 : ∀ (y1 : Int32) (m : Mem), V G SM oV l p e s mt args below meth c 3 fr A ad0 17 17 RM 17 RM 5 [(0, .ref 0), (1, .int y1)] [] m (k5 y1 m)) (y1 : Int32) (m : Mem) : V G SM oV l p e s mt args below meth c 3 fr A ad0 17 17 RM 17 RM 23 [(0, .ref 0), (1, .int y1)] [] m (X12_readSum_b23 f_X12_readTerm k5 y1 m) := by
  rw [X12_readSum_b23]
  refine V.aload_n (pc := 23) C dX12_readSum_23 0 rfl ?_
  refine V.geti (pc := 24) C fl_RX12_99 sM0 kM0 rfl dX12_readSum_24 ?_
  refine V.bipush (pc := 27) C dX12_readSum_27 (v := 32) (by decide) ?_
  refine V.icmp_ne (pc := 29) C dX12_readSum_29 38 (by decide) (fun _ => ?_) (fun _ => ?_)
  · refine V.sipush (pc := 38) C dX12_readSum_38 (v := 3001) (by decide) ?_
    refine V.wk [0, 1] rfl ?_
    exact v_X12_readSum_b41 hfr C f_X12_readTerm h_X12_readTerm k5 h5 y1 3001 m
  · refine V.sipush (pc := 32) C dX12_readSum_32 (v := 3000) (by decide) ?_
    refine V.goto (pc := 35) C dX12_readSum_35 41 (by decide) ?_
    refine V.wk [0, 1] rfl ?_
    exact v_X12_readSum_b41 hfr C f_X12_readTerm h_X12_readTerm k5 h5 y1 3000 m
set_option maxRecDepth 100000 in
set_option maxHeartbeats 4000000 in
theorem v_X12_readSum_b5 {l : Launch} {p : Program} {e : Env} {s : State} {mt : MethodId} {args : Array Value} {below : List Frame} {meth : Method} {c : Code} {A : Nat → Prop} {ad0 : Nat → Nat} {G : Gt}  {fr fr1 : Nat} (hfr : fr1 + 1 ≤ fr ∧ 7 ≤ fr) (C : Cx G p s mt args meth c RX12 cX12_readSum 3 none "readSum" A) (f_X12_readTerm : Int32 → Mem → Option (Unit × Mem)) (h_X12_readTerm : ∀ (x1 : Int32) (m : Mem), Ct l yX12_readTerm cX12_readTerm 2 none fr1 SM oV 17 17 RM RM [.ref 0, .int x1] m (f_X12_readTerm x1 m)) : ∀ (n : Nat) (y1 : Int32) (m : Mem), V G SM oV l p e s mt args below meth c 3 fr A ad0 17 17 RM 17 RM 5 [(0, .ref 0), (1, .int y1)] [] m (X12_readSum_b5 f_X12_readTerm n y1 m) := by
  intro n
  induction n with
  | zero =>
    intro y1 m
    rw [X12_readSum_b5]
    exact V.nil
  | succ n ih =>
    intro y1 m
    rw [X12_readSum_b5]
    refine V.aload_n (pc := 5) C dX12_readSum_5 0 rfl ?_
    refine V.bipush (pc := 6) C dX12_readSum_6 (v := 32) (by decide) ?_
    refine V.callV (pc := 8) (st := []) C (c_X12_is l 32 m) obI ck_X12_is ml_RX12_123 rfl rfl sM0 kM0 rfl rfl (Nat.le_of_ble_eq_true rfl) ⟨by omega, by decide⟩ dX12_readSum_8 (fun r_3 m_4 _ => ?_)
    refine V.if_ne (pc := 11) C dX12_readSum_11 23 (by decide) (fun _ => ?_) (fun _ => ?_)
    · refine V.wk [0, 1] rfl ?_
      exact v_X12_readSum_b23 hfr C f_X12_readTerm h_X12_readTerm (X12_readSum_b5 f_X12_readTerm n) ih y1 m_4
    · refine V.aload_n (pc := 14) C dX12_readSum_14 0 rfl ?_
      refine V.bipush (pc := 15) C dX12_readSum_15 (v := 33) (by decide) ?_
      refine V.callV (pc := 17) (st := []) C (c_X12_is l 33 m_4) obI ck_X12_is ml_RX12_123 rfl rfl sM0 kM0 rfl rfl (Nat.le_of_ble_eq_true rfl) ⟨by omega, by decide⟩ dX12_readSum_17 (fun r_11 m_12 _ => ?_)
      refine V.if_eq (pc := 20) C dX12_readSum_20 59 (by decide) (fun _ => ?_) (fun _ => ?_)
      · exact V.vret C dX12_readSum_59
      · refine V.wk [0, 1] rfl ?_
        exact v_X12_readSum_b23 hfr C f_X12_readTerm h_X12_readTerm (X12_readSum_b5 f_X12_readTerm n) ih y1 m_12
set_option maxRecDepth 100000 in
set_option maxHeartbeats 4000000 in
theorem v_X12_readSum {l : Launch} {p : Program} {e : Env} {s : State} {mt : MethodId} {args : Array Value} {below : List Frame} {meth : Method} {c : Code} {A : Nat → Prop} {ad0 : Nat → Nat} {G : Gt}  {fr fr1 : Nat} (hfr : fr1 + 1 ≤ fr ∧ 7 ≤ fr) (C : Cx G p s mt args meth c RX12 cX12_readSum 3 none "readSum" A) (f_X12_readTerm : Int32 → Mem → Option (Unit × Mem)) (h_X12_readTerm : ∀ (x1 : Int32) (m : Mem), Ct l yX12_readTerm cX12_readTerm 2 none fr1 SM oV 17 17 RM RM [.ref 0, .int x1] m (f_X12_readTerm x1 m)) (x1 : Int32) (m : Mem) : V G SM oV l p e s mt args below meth c 3 fr A ad0 17 17 RM 17 RM 0 [(0, .ref 0), (1, .int x1)] [] m (X12_readSum f_X12_readTerm x1 m) := by
  rw [X12_readSum]
  refine V.aload_n (pc := 0) C dX12_readSum_0 0 rfl ?_
  refine V.iload_n (pc := 1) C dX12_readSum_1 1 rfl ?_
  refine V.callV (pc := 2) (st := []) C (h_X12_readTerm x1 m) obV ck_X12_readTerm ml_RX12_156 rfl rfl sM0 kM0 rfl rfl (Nat.le_of_ble_eq_true rfl) ⟨by omega, by decide⟩ dX12_readSum_2 (fun r_1 m_2 _ => ?_)
  refine V.wk [0, 1] rfl ?_
  exact v_X12_readSum_b5 hfr C f_X12_readTerm h_X12_readTerm FU x1 m_2
theorem c_X12_readSum (l : Launch)  {fr fr1 : Nat} (hfr : fr1 + 1 ≤ fr ∧ 7 ≤ fr) (f_X12_readTerm : Int32 → Mem → Option (Unit × Mem)) (h_X12_readTerm : ∀ (x1 : Int32) (m : Mem), Ct l yX12_readTerm cX12_readTerm 2 none fr1 SM oV 17 17 RM RM [.ref 0, .int x1] m (f_X12_readTerm x1 m)) (x1 : Int32) (m : Mem) : Ct l yX12_readSum cX12_readSum 3 none fr SM oV 17 17 RM RM [.ref 0, .int x1] m (X12_readSum f_X12_readTerm x1 m) :=
  Ct.of (own := RX12) (nm := "readSum") (by decide) rfl rfl (Nat.le_of_ble_eq_true rfl) (fun _ _ _ _ _ _ _ _ _ _ _ C => v_X12_readSum hfr C f_X12_readTerm h_X12_readTerm x1 m)
theorem dX12_readTerm_0 : decode cX12_readTerm 0 = .ok (.aload_n 0, 1) := by decide +kernel
theorem dX12_readTerm_1 : decode cX12_readTerm 1 = .ok (.iload_n 1, 1) := by decide +kernel
theorem dX12_readTerm_2 : decode cX12_readTerm 2 = .ok (.invokevirtual 153, 3) := by decide +kernel
theorem dX12_readTerm_5 : decode cX12_readTerm 5 = .ok (.aload_n 0, 1) := by decide +kernel
theorem dX12_readTerm_6 : decode cX12_readTerm 6 = .ok (.bipush 34, 2) := by decide +kernel
theorem dX12_readTerm_8 : decode cX12_readTerm 8 = .ok (.invokevirtual 150, 3) := by decide +kernel
theorem dX12_readTerm_11 : decode cX12_readTerm 11 = .ok (.ifCond .eq 18, 3) := by decide +kernel
theorem dX12_readTerm_14 : decode cX12_readTerm 14 = .ok (.aload_n 0, 1) := by decide +kernel
theorem dX12_readTerm_15 : decode cX12_readTerm 15 = .ok (.iload_n 1, 1) := by decide +kernel
theorem dX12_readTerm_16 : decode cX12_readTerm 16 = .ok (.invokevirtual 153, 3) := by decide +kernel
theorem dX12_readTerm_19 : decode cX12_readTerm 19 = .ok (.aload_n 0, 1) := by decide +kernel
theorem dX12_readTerm_20 : decode cX12_readTerm 20 = .ok (.sipush 3002, 3) := by decide +kernel
theorem dX12_readTerm_23 : decode cX12_readTerm 23 = .ok (.invokevirtual 137, 3) := by decide +kernel
theorem dX12_readTerm_26 : decode cX12_readTerm 26 = .ok (.goto (-21), 3) := by decide +kernel
theorem dX12_readTerm_29 : decode cX12_readTerm 29 = .ok (.return_, 1) := by decide +kernel
set_option maxRecDepth 100000 in
set_option maxHeartbeats 4000000 in
theorem v_X12_readTerm_b5 {l : Launch} {p : Program} {e : Env} {s : State} {mt : MethodId} {args : Array Value} {below : List Frame} {meth : Method} {c : Code} {A : Nat → Prop} {ad0 : Nat → Nat} {G : Gt}  {fr fr1 : Nat} (hfr : fr1 + 1 ≤ fr ∧ 8 ≤ fr) (C : Cx G p s mt args meth c RX12 cX12_readTerm 2 none "readTerm" A) (f_X12_readAtom : Int32 → Mem → Option (Unit × Mem)) (h_X12_readAtom : ∀ (x1 : Int32) (m : Mem), Ct l yX12_readAtom cX12_readAtom 2 none fr1 SM oV 17 17 RM RM [.ref 0, .int x1] m (f_X12_readAtom x1 m)) : ∀ (n : Nat) (y1 : Int32) (m : Mem), V G SM oV l p e s mt args below meth c 2 fr A ad0 17 17 RM 17 RM 5 [(0, .ref 0), (1, .int y1)] [] m (X12_readTerm_b5 f_X12_readAtom n y1 m) := by
  intro n
  induction n with
  | zero =>
    intro y1 m
    rw [X12_readTerm_b5]
    exact V.nil
  | succ n ih =>
    intro y1 m
    rw [X12_readTerm_b5]
    refine V.aload_n (pc := 5) C dX12_readTerm_5 0 rfl ?_
    refine V.bipush (pc := 6) C dX12_readTerm_6 (v := 34) (by decide) ?_
    refine V.callV (pc := 8) (st := []) C (c_X12_eats l 34 m) obI ck_X12_eats ml_RX12_150 rfl rfl sM0 kM0 rfl rfl (Nat.le_of_ble_eq_true rfl) ⟨by omega, by decide⟩ dX12_readTerm_8 (fun r_3 m_4 _ => ?_)
    refine V.if_eq (pc := 11) C dX12_readTerm_11 29 (by decide) (fun _ => ?_) (fun _ => ?_)
    · exact V.vret C dX12_readTerm_29
    · refine V.aload_n (pc := 14) C dX12_readTerm_14 0 rfl ?_
      refine V.iload_n (pc := 15) C dX12_readTerm_15 1 rfl ?_
      refine V.callV (pc := 16) (st := []) C (h_X12_readAtom y1 m_4) obV ck_X12_readAtom ml_RX12_153 rfl rfl sM0 kM0 rfl rfl (Nat.le_of_ble_eq_true rfl) ⟨by omega, by decide⟩ dX12_readTerm_16 (fun r_5 m_6 _ => ?_)
      refine V.aload_n (pc := 19) C dX12_readTerm_19 0 rfl ?_
      refine V.sipush (pc := 20) C dX12_readTerm_20 (v := 3002) (by decide) ?_
      refine V.callV (pc := 23) (st := []) C (c_X12_codes l 3002 m_6) obV ck_X12_codes ml_RX12_137 rfl rfl sM0 kM0 rfl rfl (Nat.le_of_ble_eq_true rfl) ⟨by omega, by decide⟩ dX12_readTerm_23 (fun r_7 m_8 _ => ?_)
      refine V.goto (pc := 26) C dX12_readTerm_26 5 (by decide) ?_
      refine V.wk [0, 1] rfl ?_
      exact ih y1 m_8
set_option maxRecDepth 100000 in
set_option maxHeartbeats 4000000 in
theorem v_X12_readTerm {l : Launch} {p : Program} {e : Env} {s : State} {mt : MethodId} {args : Array Value} {below : List Frame} {meth : Method} {c : Code} {A : Nat → Prop} {ad0 : Nat → Nat} {G : Gt}  {fr fr1 : Nat} (hfr : fr1 + 1 ≤ fr ∧ 8 ≤ fr) (C : Cx G p s mt args meth c RX12 cX12_readTerm 2 none "readTerm" A) (f_X12_readAtom : Int32 → Mem → Option (Unit × Mem)) (h_X12_readAtom : ∀ (x1 : Int32) (m : Mem), Ct l yX12_readAtom cX12_readAtom 2 none fr1 SM oV 17 17 RM RM [.ref 0, .int x1] m (f_X12_readAtom x1 m)) (x1 : Int32) (m : Mem) : V G SM oV l p e s mt args below meth c 2 fr A ad0 17 17 RM 17 RM 0 [(0, .ref 0), (1, .int x1)] [] m (X12_readTerm f_X12_readAtom x1 m) := by
  rw [X12_readTerm]
  refine V.aload_n (pc := 0) C dX12_readTerm_0 0 rfl ?_
  refine V.iload_n (pc := 1) C dX12_readTerm_1 1 rfl ?_
  refine V.callV (pc := 2) (st := []) C (h_X12_readAtom x1 m) obV ck_X12_readAtom ml_RX12_153 rfl rfl sM0 kM0 rfl rfl (Nat.le_of_ble_eq_true rfl) ⟨by omega, by decide⟩ dX12_readTerm_2 (fun r_1 m_2 _ => ?_)
  refine V.wk [0, 1] rfl ?_
  exact v_X12_readTerm_b5 hfr C f_X12_readAtom h_X12_readAtom FU x1 m_2
theorem c_X12_readTerm (l : Launch)  {fr fr1 : Nat} (hfr : fr1 + 1 ≤ fr ∧ 8 ≤ fr) (f_X12_readAtom : Int32 → Mem → Option (Unit × Mem)) (h_X12_readAtom : ∀ (x1 : Int32) (m : Mem), Ct l yX12_readAtom cX12_readAtom 2 none fr1 SM oV 17 17 RM RM [.ref 0, .int x1] m (f_X12_readAtom x1 m)) (x1 : Int32) (m : Mem) : Ct l yX12_readTerm cX12_readTerm 2 none fr SM oV 17 17 RM RM [.ref 0, .int x1] m (X12_readTerm f_X12_readAtom x1 m) :=
  Ct.of (own := RX12) (nm := "readTerm") (by decide) rfl rfl (Nat.le_of_ble_eq_true rfl) (fun _ _ _ _ _ _ _ _ _ _ _ C => v_X12_readTerm hfr C f_X12_readAtom h_X12_readAtom x1 m)
theorem dX12_readAtom_0 : decode cX12_readAtom 0 = .ok (.aload_n 0, 1) := by decide +kernel
theorem dX12_readAtom_1 : decode cX12_readAtom 1 = .ok (.bipush 23, 2) := by decide +kernel
theorem dX12_readAtom_3 : decode cX12_readAtom 3 = .ok (.invokevirtual 123, 3) := by decide +kernel
theorem dX12_readAtom_6 : decode cX12_readAtom 6 = .ok (.ifCond .eq 18, 3) := by decide +kernel
theorem dX12_readAtom_9 : decode cX12_readAtom 9 = .ok (.aload_n 0, 1) := by decide +kernel
theorem dX12_readAtom_10 : decode cX12_readAtom 10 = .ok (.aload_n 0, 1) := by decide +kernel
theorem dX12_readAtom_11 : decode cX12_readAtom 11 = .ok (.getfield 112, 3) := by decide +kernel
theorem dX12_readAtom_14 : decode cX12_readAtom 14 = .ok (.invokevirtual 137, 3) := by decide +kernel
theorem dX12_readAtom_17 : decode cX12_readAtom 17 = .ok (.aload_n 0, 1) := by decide +kernel
theorem dX12_readAtom_18 : decode cX12_readAtom 18 = .ok (.invokevirtual 126, 3) := by decide +kernel
theorem dX12_readAtom_21 : decode cX12_readAtom 21 = .ok (.goto 96, 3) := by decide +kernel
theorem dX12_readAtom_24 : decode cX12_readAtom 24 = .ok (.aload_n 0, 1) := by decide +kernel
theorem dX12_readAtom_25 : decode cX12_readAtom 25 = .ok (.getfield 117, 3) := by decide +kernel
theorem dX12_readAtom_28 : decode cX12_readAtom 28 = .ok (.ifCond .ne 42, 3) := by decide +kernel
theorem dX12_readAtom_31 : decode cX12_readAtom 31 = .ok (.aload_n 0, 1) := by decide +kernel
theorem dX12_readAtom_32 : decode cX12_readAtom 32 = .ok (.getfield 99, 3) := by decide +kernel
theorem dX12_readAtom_35 : decode cX12_readAtom 35 = .ok (.i2l, 1) := by decide +kernel
theorem dX12_readAtom_36 : decode cX12_readAtom 36 = .ok (.ldc2_w 140, 3) := by decide +kernel
theorem dX12_readAtom_39 : decode cX12_readAtom 39 = .ok (.ldc2_w 142, 3) := by decide +kernel
theorem dX12_readAtom_42 : decode cX12_readAtom 42 = .ok (.invokestatic 133, 3) := by decide +kernel
theorem dX12_readAtom_45 : decode cX12_readAtom 45 = .ok (.ifCond .eq 25, 3) := by decide +kernel
theorem dX12_readAtom_48 : decode cX12_readAtom 48 = .ok (.aload_n 0, 1) := by decide +kernel
theorem dX12_readAtom_49 : decode cX12_readAtom 49 = .ok (.sipush 1000, 3) := by decide +kernel
theorem dX12_readAtom_52 : decode cX12_readAtom 52 = .ok (.aload_n 0, 1) := by decide +kernel
theorem dX12_readAtom_53 : decode cX12_readAtom 53 = .ok (.getfield 99, 3) := by decide +kernel
theorem dX12_readAtom_56 : decode cX12_readAtom 56 = .ok (.iadd, 1) := by decide +kernel
theorem dX12_readAtom_57 : decode cX12_readAtom 57 = .ok (.bipush 13, 2) := by decide +kernel
theorem dX12_readAtom_59 : decode cX12_readAtom 59 = .ok (.isub, 1) := by decide +kernel
theorem dX12_readAtom_60 : decode cX12_readAtom 60 = .ok (.invokevirtual 137, 3) := by decide +kernel
theorem dX12_readAtom_63 : decode cX12_readAtom 63 = .ok (.aload_n 0, 1) := by decide +kernel
theorem dX12_readAtom_64 : decode cX12_readAtom 64 = .ok (.invokevirtual 126, 3) := by decide +kernel
theorem dX12_readAtom_67 : decode cX12_readAtom 67 = .ok (.goto 50, 3) := by decide +kernel
theorem dX12_readAtom_70 : decode cX12_readAtom 70 = .ok (.aload_n 0, 1) := by decide +kernel
theorem dX12_readAtom_71 : decode cX12_readAtom 71 = .ok (.bipush 35, 2) := by decide +kernel
theorem dX12_readAtom_73 : decode cX12_readAtom 73 = .ok (.invokevirtual 123, 3) := by decide +kernel
theorem dX12_readAtom_76 : decode cX12_readAtom 76 = .ok (.ifCond .eq 36, 3) := by decide +kernel
theorem dX12_readAtom_79 : decode cX12_readAtom 79 = .ok (.aload_n 0, 1) := by decide +kernel
theorem dX12_readAtom_80 : decode cX12_readAtom 80 = .ok (.iload_n 1, 1) := by decide +kernel
theorem dX12_readAtom_81 : decode cX12_readAtom 81 = .ok (.invokevirtual 144, 3) := by decide +kernel
theorem dX12_readAtom_84 : decode cX12_readAtom 84 = .ok (.ifCond .ne 4, 3) := by decide +kernel
theorem dX12_readAtom_87 : decode cX12_readAtom 87 = .ok (.return_, 1) := by decide +kernel
theorem dX12_readAtom_88 : decode cX12_readAtom 88 = .ok (.aload_n 0, 1) := by decide +kernel
theorem dX12_readAtom_89 : decode cX12_readAtom 89 = .ok (.iload_n 1, 1) := by decide +kernel
theorem dX12_readAtom_90 : decode cX12_readAtom 90 = .ok (.iconst 1, 1) := by decide +kernel
theorem dX12_readAtom_91 : decode cX12_readAtom 91 = .ok (.iadd, 1) := by decide +kernel
theorem dX12_readAtom_92 : decode cX12_readAtom 92 = .ok (.invokevirtual 147, 3) := by decide +kernel
theorem dX12_readAtom_95 : decode cX12_readAtom 95 = .ok (.aload_n 0, 1) := by decide +kernel
theorem dX12_readAtom_96 : decode cX12_readAtom 96 = .ok (.bipush 36, 2) := by decide +kernel
theorem dX12_readAtom_98 : decode cX12_readAtom 98 = .ok (.invokevirtual 150, 3) := by decide +kernel
theorem dX12_readAtom_101 : decode cX12_readAtom 101 = .ok (.ifCond .ne 16, 3) := by decide +kernel
theorem dX12_readAtom_104 : decode cX12_readAtom 104 = .ok (.aload_n 0, 1) := by decide +kernel
theorem dX12_readAtom_105 : decode cX12_readAtom 105 = .ok (.iconst 2, 1) := by decide +kernel
theorem dX12_readAtom_106 : decode cX12_readAtom 106 = .ok (.invokevirtual 129, 3) := by decide +kernel
theorem dX12_readAtom_109 : decode cX12_readAtom 109 = .ok (.goto 8, 3) := by decide +kernel
theorem dX12_readAtom_112 : decode cX12_readAtom 112 = .ok (.aload_n 0, 1) := by decide +kernel
theorem dX12_readAtom_113 : decode cX12_readAtom 113 = .ok (.iconst 2, 1) := by decide +kernel
theorem dX12_readAtom_114 : decode cX12_readAtom 114 = .ok (.invokevirtual 129, 3) := by decide +kernel
theorem dX12_readAtom_117 : decode cX12_readAtom 117 = .ok (.return_, 1) := by decide +kernel
set_option maxRecDepth 100000 in
set_option maxHeartbeats 4000000 in
theorem v_X12_readAtom_b70 {l : Launch} {p : Program} {e : Env} {s : State} {mt : MethodId} {args : Array Value} {below : List Frame} {meth : Method} {c : Code} {A : Nat → Prop} {ad0 : Nat → Nat} {G : Gt}  {fr fr1 : Nat} (hfr : fr1 + 1 ≤ fr ∧ 8 ≤ fr) (C : Cx G p s mt args meth c RX12 cX12_readAtom 2 none "readAtom" A) (f_X12_readSum : Int32 → Mem → Option (Unit × Mem)) (h_X12_readSum : ∀ (x1 : Int32) (m : Mem), Ct l yX12_readSum cX12_readSum 3 none fr1 SM oV 17 17 RM RM [.ref 0, .int x1] m (f_X12_readSum x1 m)) (y1 : Int32) (m : Mem) : V G SM oV l p e s mt args below meth c 2 fr A ad0 17 17 RM 17 RM 70 [(0, .ref 0), (1, .int y1)] [] m (X12_readAtom_b70 f_X12_readSum y1 m) := by
  rw [X12_readAtom_b70]
  refine V.aload_n (pc := 70) C dX12_readAtom_70 0 rfl ?_
  refine V.bipush (pc := 71) C dX12_readAtom_71 (v := 35) (by decide) ?_
  refine V.callV (pc := 73) (st := []) C (c_X12_is l 35 m) obI ck_X12_is ml_RX12_123 rfl rfl sM0 kM0 rfl rfl (Nat.le_of_ble_eq_true rfl) ⟨by omega, by decide⟩ dX12_readAtom_73 (fun r_3 m_4 _ => ?_)
  refine V.if_eq (pc := 76) C dX12_readAtom_76 112 (by decide) (fun _ => ?_) (fun _ => ?_)
  · refine V.aload_n (pc := 112) C dX12_readAtom_112 0 rfl ?_
    refine V.iconst (pc := 113) C dX12_readAtom_113 (v := 2) (by decide) ?_
    refine V.callV (pc := 114) (st := []) C (c_X12_fails l 2 m_4) obV ck_X12_fails ml_RX12_129 rfl rfl sM0 kM0 rfl rfl (Nat.le_of_ble_eq_true rfl) ⟨by omega, by decide⟩ dX12_readAtom_114 (fun r_5 m_6 _ => ?_)
    exact V.vret C dX12_readAtom_117
  · refine V.aload_n (pc := 79) C dX12_readAtom_79 0 rfl ?_
    refine V.iload_n (pc := 80) C dX12_readAtom_80 1 rfl ?_
    refine V.callV (pc := 81) (st := []) C (c_X12_goesIn l y1 m_4) obI ck_X12_goesIn ml_RX12_144 rfl rfl sM0 kM0 rfl rfl (Nat.le_of_ble_eq_true rfl) ⟨by omega, by decide⟩ dX12_readAtom_81 (fun r_7 m_8 _ => ?_)
    refine V.if_ne (pc := 84) C dX12_readAtom_84 88 (by decide) (fun _ => ?_) (fun _ => ?_)
    · refine V.aload_n (pc := 88) C dX12_readAtom_88 0 rfl ?_
      refine V.iload_n (pc := 89) C dX12_readAtom_89 1 rfl ?_
      refine V.iconst (pc := 90) C dX12_readAtom_90 (v := 1) (by decide) ?_
      refine V.iadd (pc := 91) C dX12_readAtom_91 ?_
      refine V.callV (pc := 92) (st := []) C (h_X12_readSum (y1 + 1) m_8) obV ck_X12_readSum ml_RX12_147 rfl rfl sM0 kM0 rfl rfl (Nat.le_of_ble_eq_true rfl) ⟨by omega, by decide⟩ dX12_readAtom_92 (fun r_9 m_10 _ => ?_)
      refine V.aload_n (pc := 95) C dX12_readAtom_95 0 rfl ?_
      refine V.bipush (pc := 96) C dX12_readAtom_96 (v := 36) (by decide) ?_
      refine V.callV (pc := 98) (st := []) C (c_X12_eats l 36 m_10) obI ck_X12_eats ml_RX12_150 rfl rfl sM0 kM0 rfl rfl (Nat.le_of_ble_eq_true rfl) ⟨by omega, by decide⟩ dX12_readAtom_98 (fun r_11 m_12 _ => ?_)
      refine V.if_ne (pc := 101) C dX12_readAtom_101 117 (by decide) (fun _ => ?_) (fun _ => ?_)
      · exact V.vret C dX12_readAtom_117
      · refine V.aload_n (pc := 104) C dX12_readAtom_104 0 rfl ?_
        refine V.iconst (pc := 105) C dX12_readAtom_105 (v := 2) (by decide) ?_
        refine V.callV (pc := 106) (st := []) C (c_X12_fails l 2 m_12) obV ck_X12_fails ml_RX12_129 rfl rfl sM0 kM0 rfl rfl (Nat.le_of_ble_eq_true rfl) ⟨by omega, by decide⟩ dX12_readAtom_106 (fun r_13 m_14 _ => ?_)
        refine V.goto (pc := 109) C dX12_readAtom_109 117 (by decide) ?_
        exact V.vret C dX12_readAtom_117
    · exact V.vret C dX12_readAtom_87
set_option maxRecDepth 100000 in
set_option maxHeartbeats 4000000 in
theorem v_X12_readAtom {l : Launch} {p : Program} {e : Env} {s : State} {mt : MethodId} {args : Array Value} {below : List Frame} {meth : Method} {c : Code} {A : Nat → Prop} {ad0 : Nat → Nat} {G : Gt}  {fr fr1 : Nat} (hfr : fr1 + 1 ≤ fr ∧ 8 ≤ fr) (C : Cx G p s mt args meth c RX12 cX12_readAtom 2 none "readAtom" A) (f_X12_readSum : Int32 → Mem → Option (Unit × Mem)) (h_X12_readSum : ∀ (x1 : Int32) (m : Mem), Ct l yX12_readSum cX12_readSum 3 none fr1 SM oV 17 17 RM RM [.ref 0, .int x1] m (f_X12_readSum x1 m)) (x1 : Int32) (m : Mem) : V G SM oV l p e s mt args below meth c 2 fr A ad0 17 17 RM 17 RM 0 [(0, .ref 0), (1, .int x1)] [] m (X12_readAtom f_X12_readSum x1 m) := by
  rw [X12_readAtom]
  refine V.aload_n (pc := 0) C dX12_readAtom_0 0 rfl ?_
  refine V.bipush (pc := 1) C dX12_readAtom_1 (v := 23) (by decide) ?_
  refine V.callV (pc := 3) (st := []) C (c_X12_is l 23 m) obI ck_X12_is ml_RX12_123 rfl rfl sM0 kM0 rfl rfl (Nat.le_of_ble_eq_true rfl) ⟨by omega, by decide⟩ dX12_readAtom_3 (fun r_1 m_2 _ => ?_)
  refine V.if_eq (pc := 6) C dX12_readAtom_6 24 (by decide) (fun _ => ?_) (fun _ => ?_)
  · refine V.aload_n (pc := 24) C dX12_readAtom_24 0 rfl ?_
    refine V.geti (pc := 25) C fl_RX12_117 sM0 kM0 rfl dX12_readAtom_25 ?_
    refine V.if_ne (pc := 28) C dX12_readAtom_28 70 (by decide) (fun _ => ?_) (fun _ => ?_)
    · refine V.wk [0, 1] rfl ?_
      exact v_X12_readAtom_b70 hfr C f_X12_readSum h_X12_readSum x1 m_2
    · refine V.aload_n (pc := 31) C dX12_readAtom_31 0 rfl ?_
      refine V.geti (pc := 32) C fl_RX12_99 sM0 kM0 rfl dX12_readAtom_32 ?_
      refine V.i2l (pc := 35) C dX12_readAtom_35 ?_
      refine V.ldc2 (pc := 36) C dX12_readAtom_36 (v := 13) cl_RX12_140 ?_
      refine V.ldc2 (pc := 39) C dX12_readAtom_39 (v := 19) cl_RX12_142 ?_
      refine V.callS (pc := 42) (st := []) C (c_X12_within l (Int32.toInt64 (gi m_2 0 9)) 13 19 m_2) obI ck_X12_within ml_RX12_133 rfl rfl (Nat.le_of_ble_eq_true rfl) ⟨by omega, by decide⟩ dX12_readAtom_42 (fun r_15 m_16 _ => ?_)
      refine V.if_eq (pc := 45) C dX12_readAtom_45 70 (by decide) (fun _ => ?_) (fun _ => ?_)
      · refine V.wk [0, 1] rfl ?_
        exact v_X12_readAtom_b70 hfr C f_X12_readSum h_X12_readSum x1 m_16
      · refine V.aload_n (pc := 48) C dX12_readAtom_48 0 rfl ?_
        refine V.sipush (pc := 49) C dX12_readAtom_49 (v := 1000) (by decide) ?_
        refine V.aload_n (pc := 52) C dX12_readAtom_52 0 rfl ?_
        refine V.geti (pc := 53) C fl_RX12_99 sM0 kM0 rfl dX12_readAtom_53 ?_
        refine V.iadd (pc := 56) C dX12_readAtom_56 ?_
        refine V.bipush (pc := 57) C dX12_readAtom_57 (v := 13) (by decide) ?_
        refine V.isub (pc := 59) C dX12_readAtom_59 ?_
        refine V.callV (pc := 60) (st := []) C (c_X12_codes l ((1000 + (gi m_16 0 9)) - 13) m_16) obV ck_X12_codes ml_RX12_137 rfl rfl sM0 kM0 rfl rfl (Nat.le_of_ble_eq_true rfl) ⟨by omega, by decide⟩ dX12_readAtom_60 (fun r_17 m_18 _ => ?_)
        refine V.aload_n (pc := 63) C dX12_readAtom_63 0 rfl ?_
        refine V.callV (pc := 64) (st := []) C (c_X12_next l  m_18) obV ck_X12_next ml_RX12_126 rfl rfl sM0 kM0 rfl rfl (Nat.le_of_ble_eq_true rfl) ⟨by omega, by decide⟩ dX12_readAtom_64 (fun r_19 m_20 _ => ?_)
        refine V.goto (pc := 67) C dX12_readAtom_67 117 (by decide) ?_
        exact V.vret C dX12_readAtom_117
  · refine V.aload_n (pc := 9) C dX12_readAtom_9 0 rfl ?_
    refine V.aload_n (pc := 10) C dX12_readAtom_10 0 rfl ?_
    refine V.geti (pc := 11) C fl_RX12_112 sM0 kM0 rfl dX12_readAtom_11 ?_
    refine V.callV (pc := 14) (st := []) C (c_X12_codes l (gi m_2 0 10) m_2) obV ck_X12_codes ml_RX12_137 rfl rfl sM0 kM0 rfl rfl (Nat.le_of_ble_eq_true rfl) ⟨by omega, by decide⟩ dX12_readAtom_14 (fun r_21 m_22 _ => ?_)
    refine V.aload_n (pc := 17) C dX12_readAtom_17 0 rfl ?_
    refine V.callV (pc := 18) (st := []) C (c_X12_next l  m_22) obV ck_X12_next ml_RX12_126 rfl rfl sM0 kM0 rfl rfl (Nat.le_of_ble_eq_true rfl) ⟨by omega, by decide⟩ dX12_readAtom_18 (fun r_23 m_24 _ => ?_)
    refine V.goto (pc := 21) C dX12_readAtom_21 117 (by decide) ?_
    exact V.vret C dX12_readAtom_117
theorem c_X12_readAtom (l : Launch)  {fr fr1 : Nat} (hfr : fr1 + 1 ≤ fr ∧ 8 ≤ fr) (f_X12_readSum : Int32 → Mem → Option (Unit × Mem)) (h_X12_readSum : ∀ (x1 : Int32) (m : Mem), Ct l yX12_readSum cX12_readSum 3 none fr1 SM oV 17 17 RM RM [.ref 0, .int x1] m (f_X12_readSum x1 m)) (x1 : Int32) (m : Mem) : Ct l yX12_readAtom cX12_readAtom 2 none fr SM oV 17 17 RM RM [.ref 0, .int x1] m (X12_readAtom f_X12_readSum x1 m) :=
  Ct.of (own := RX12) (nm := "readAtom") (by decide) rfl rfl (Nat.le_of_ble_eq_true rfl) (fun _ _ _ _ _ _ _ _ _ _ _ C => v_X12_readAtom hfr C f_X12_readSum h_X12_readSum x1 m)
