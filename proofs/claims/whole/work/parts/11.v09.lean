theorem dX11_judge_0 : decode cX11_judge 0 = .ok (.iload_n 1, 1) := by decide +kernel
theorem dX11_judge_1 : decode cX11_judge 1 = .ok (.invokestatic 223, 3) := by decide +kernel
theorem dX11_judge_4 : decode cX11_judge 4 = .ok (.ifCond .eq 12, 3) := by decide +kernel
theorem dX11_judge_7 : decode cX11_judge 7 = .ok (.iload_n 2, 1) := by decide +kernel
theorem dX11_judge_8 : decode cX11_judge 8 = .ok (.ifCond .lt 8, 3) := by decide +kernel
theorem dX11_judge_11 : decode cX11_judge 11 = .ok (.iload_n 2, 1) := by decide +kernel
theorem dX11_judge_12 : decode cX11_judge 12 = .ok (.iconst 3, 1) := by decide +kernel
theorem dX11_judge_13 : decode cX11_judge 13 = .ok (.if_icmp .le 6, 3) := by decide +kernel
theorem dX11_judge_16 : decode cX11_judge 16 = .ok (.bipush (-2), 2) := by decide +kernel
theorem dX11_judge_18 : decode cX11_judge 18 = .ok (.ireturn, 1) := by decide +kernel
theorem dX11_judge_19 : decode cX11_judge 19 = .ok (.aload_n 0, 1) := by decide +kernel
theorem dX11_judge_20 : decode cX11_judge 20 = .ok (.getfield 79, 3) := by decide +kernel
theorem dX11_judge_23 : decode cX11_judge 23 = .ok (.iload_n 1, 1) := by decide +kernel
theorem dX11_judge_24 : decode cX11_judge 24 = .ok (.aaload, 1) := by decide +kernel
theorem dX11_judge_25 : decode cX11_judge 25 = .ok (.getfield 226, 3) := by decide +kernel
theorem dX11_judge_28 : decode cX11_judge 28 = .ok (.ifCond .ne 6, 3) := by decide +kernel
theorem dX11_judge_31 : decode cX11_judge 31 = .ok (.bipush (-6), 2) := by decide +kernel
theorem dX11_judge_33 : decode cX11_judge 33 = .ok (.ireturn, 1) := by decide +kernel
theorem dX11_judge_34 : decode cX11_judge 34 = .ok (.aload_n 0, 1) := by decide +kernel
theorem dX11_judge_35 : decode cX11_judge 35 = .ok (.aload_n 0, 1) := by decide +kernel
theorem dX11_judge_36 : decode cX11_judge 36 = .ok (.getfield 79, 3) := by decide +kernel
theorem dX11_judge_39 : decode cX11_judge 39 = .ok (.iload_n 1, 1) := by decide +kernel
theorem dX11_judge_40 : decode cX11_judge 40 = .ok (.aaload, 1) := by decide +kernel
theorem dX11_judge_41 : decode cX11_judge 41 = .ok (.invokevirtual 230, 3) := by decide +kernel
theorem dX11_judge_44 : decode cX11_judge 44 = .ok (.istore_n 3, 1) := by decide +kernel
theorem dX11_judge_45 : decode cX11_judge 45 = .ok (.iload_n 2, 1) := by decide +kernel
theorem dX11_judge_46 : decode cX11_judge 46 = .ok (.tableswitch 60 0 2 #[26, 42, 50], 26) := by decide +kernel
theorem dX11_judge_72 : decode cX11_judge 72 = .ok (.aload_n 0, 1) := by decide +kernel
theorem dX11_judge_73 : decode cX11_judge 73 = .ok (.getfield 42, 3) := by decide +kernel
theorem dX11_judge_76 : decode cX11_judge 76 = .ok (.getfield 234, 3) := by decide +kernel
theorem dX11_judge_79 : decode cX11_judge 79 = .ok (.ifCond .ne 7, 3) := by decide +kernel
theorem dX11_judge_82 : decode cX11_judge 82 = .ok (.iconst (-1), 1) := by decide +kernel
theorem dX11_judge_83 : decode cX11_judge 83 = .ok (.goto 4, 3) := by decide +kernel
theorem dX11_judge_86 : decode cX11_judge 86 = .ok (.iload_n 3, 1) := by decide +kernel
theorem dX11_judge_87 : decode cX11_judge 87 = .ok (.ireturn, 1) := by decide +kernel
theorem dX11_judge_88 : decode cX11_judge 88 = .ok (.aload_n 0, 1) := by decide +kernel
theorem dX11_judge_89 : decode cX11_judge 89 = .ok (.getfield 42, 3) := by decide +kernel
theorem dX11_judge_92 : decode cX11_judge 92 = .ok (.getfield 234, 3) := by decide +kernel
theorem dX11_judge_95 : decode cX11_judge 95 = .ok (.ireturn, 1) := by decide +kernel
theorem dX11_judge_96 : decode cX11_judge 96 = .ok (.iconst 2, 1) := by decide +kernel
theorem dX11_judge_97 : decode cX11_judge 97 = .ok (.aload_n 0, 1) := by decide +kernel
theorem dX11_judge_98 : decode cX11_judge 98 = .ok (.getfield 42, 3) := by decide +kernel
theorem dX11_judge_101 : decode cX11_judge 101 = .ok (.invokevirtual 237, 3) := by decide +kernel
theorem dX11_judge_104 : decode cX11_judge 104 = .ok (.imul, 1) := by decide +kernel
theorem dX11_judge_105 : decode cX11_judge 105 = .ok (.ireturn, 1) := by decide +kernel
theorem dX11_judge_106 : decode cX11_judge 106 = .ok (.aload_n 0, 1) := by decide +kernel
theorem dX11_judge_107 : decode cX11_judge 107 = .ok (.getfield 42, 3) := by decide +kernel
theorem dX11_judge_110 : decode cX11_judge 110 = .ok (.invokevirtual 240, 3) := by decide +kernel
theorem dX11_judge_113 : decode cX11_judge 113 = .ok (.ireturn, 1) := by decide +kernel
set_option maxRecDepth 100000 in
set_option maxHeartbeats 4000000 in
theorem v_X11_judge {l : Launch} {p : Program} {e : Env} {s : State} {mt : MethodId} {args : Array Value} {below : List Frame} {meth : Method} {c : Code} {A : Nat → Prop} {ad0 : Nat → Nat} {G : Gt} {N : Nat} (C : Cx G p s mt args meth c RX11 cX11_judge 4 (some .int) "judge" A) (hN : 109 ≤ N) (x1 : Int32) (x2 : Int32) (m : Mem) : V G SX oI l p e s mt args below meth c 4 8 A ad0 N N RX N RX 0 [(0, .ref 0), (1, .int x1), (2, .int x2)] [] m (X11_judge  x1 x2 m) := by
  rw [X11_judge]
  refine V.iload_n (pc := 0) C dX11_judge_0 1 rfl ?_
  refine V.callS (pc := 1) (st := []) C (c_X11_isTray l hN x1 m) obI ck_X11_isTray ml_RX11_223 rfl rfl (Nat.le_of_ble_eq_true rfl) ⟨by decide, by decide⟩ dX11_judge_1 (fun r_1 m_2 _ => ?_)
  refine V.if_eq (pc := 4) C dX11_judge_4 16 (by decide) (fun _ => ?_) (fun _ => ?_)
  · refine V.bipush (pc := 16) C dX11_judge_16 (v := (-2)) (by decide) ?_
    exact V.iret C dX11_judge_18
  · refine V.iload_n (pc := 7) C dX11_judge_7 2 rfl ?_
    refine V.if_lt (pc := 8) C dX11_judge_8 16 (by decide) (fun _ => ?_) (fun _ => ?_)
    · refine V.bipush (pc := 16) C dX11_judge_16 (v := (-2)) (by decide) ?_
      exact V.iret C dX11_judge_18
    · refine V.iload_n (pc := 11) C dX11_judge_11 2 rfl ?_
      refine V.iconst (pc := 12) C dX11_judge_12 (v := 3) (by decide) ?_
      refine V.icmp_le (pc := 13) C dX11_judge_13 19 (by decide) (fun _ => ?_) (fun _ => ?_)
      · refine V.aload_n (pc := 19) C dX11_judge_19 0 rfl ?_
        refine V.getr (pc := 20) C fl_RX11_79 sX0 (kX0 hN) rfl rX0_12 dX11_judge_20 ?_
        refine V.iload_n (pc := 23) C dX11_judge_23 1 rfl ?_
        refine V.aald (pc := 24) (f := fun j => 100 + 2 * j) C sX99 (Or.inr rfl) (kX99 hN) rTrays dX11_judge_24 (fun h_4 => ?_)
        refine V.ltr (fun b_3 eb_3 => ?_)
        have hb_3 : isTray N b_3 := by rw [eb_3]; exact trayAt hN h_4
        refine V.geti (pc := 25) C fl_RX11_226 hb_3.s hb_3.k rfl dX11_judge_25 ?_
        refine V.if_ne (pc := 28) C dX11_judge_28 34 (by decide) (fun _ => ?_) (fun _ => ?_)
        · refine V.aload_n (pc := 34) C dX11_judge_34 0 rfl ?_
          refine V.aload_n (pc := 35) C dX11_judge_35 0 rfl ?_
          refine V.getr (pc := 36) C fl_RX11_79 sX0 (kX0 hN) rfl rX0_12 dX11_judge_36 ?_
          refine V.iload_n (pc := 39) C dX11_judge_39 1 rfl ?_
          refine V.aald (pc := 40) (f := fun j => 100 + 2 * j) C sX99 (Or.inr rfl) (kX99 hN) rTrays dX11_judge_40 (fun h_6 => ?_)
          refine V.ltr (fun b_5 eb_5 => ?_)
          have hb_5 : isTray N b_5 := by rw [eb_5]; exact trayAt hN h_6
          refine V.callV (pc := 41) (st := []) C (c_X11_rehearse l hN b_5 hb_5 m_2) obI ck_X11_rehearse ml_RX11_230 rfl rfl sX0 (kX0 hN) rfl rfl (Nat.le_of_ble_eq_true rfl) ⟨by decide, by decide⟩ dX11_judge_41 (fun r_7 m_8 _ => ?_)
          refine V.istore_n (pc := 44) C dX11_judge_44 (L2 := [(3, .int r_7), (0, .ref 0), (1, .int x1), (2, .int x2)]) (by decide) rfl ?_
          refine V.iload_n (pc := 45) C dX11_judge_45 3 rfl ?_
          refine V.br (fun h_9 => ?_) (fun h_9 => ?_)
          · refine V.tin (pc := 46) (x := x2) (j := 0) (tgt := 72) C dX11_judge_46 h_9 (by decide) (by decide) rfl (by decide) ?_
            refine V.aload_n (pc := 72) C dX11_judge_72 1 rfl ?_
            refine V.getr (pc := 73) C fl_RX11_42 sX0 (kX0 hN) rfl rX0_7 dX11_judge_73 ?_
            refine V.geti (pc := 76) C fl_RX11_234 sX32 (kX32 hN) rfl dX11_judge_76 ?_
            refine V.if_ne (pc := 79) C dX11_judge_79 86 (by decide) (fun _ => ?_) (fun _ => ?_)
            · refine V.iload_n (pc := 86) C dX11_judge_86 0 rfl ?_
              exact V.iret C dX11_judge_87
            · refine V.iconst (pc := 82) C dX11_judge_82 (v := (-1)) (by decide) ?_
              refine V.goto (pc := 83) C dX11_judge_83 87 (by decide) ?_
              exact V.iret C dX11_judge_87
          · refine V.br (fun h_10 => ?_) (fun h_10 => ?_)
            · refine V.tin (pc := 46) (x := x2) (j := 1) (tgt := 88) C dX11_judge_46 h_10 (by decide) (by decide) rfl (by decide) ?_
              refine V.aload_n (pc := 88) C dX11_judge_88 1 rfl ?_
              refine V.getr (pc := 89) C fl_RX11_42 sX0 (kX0 hN) rfl rX0_7 dX11_judge_89 ?_
              refine V.geti (pc := 92) C fl_RX11_234 sX32 (kX32 hN) rfl dX11_judge_92 ?_
              exact V.iret C dX11_judge_95
            · refine V.br (fun h_13 => ?_) (fun h_13 => ?_)
              · refine V.tin (pc := 46) (x := x2) (j := 2) (tgt := 96) C dX11_judge_46 h_13 (by decide) (by decide) rfl (by decide) ?_
                refine V.iconst (pc := 96) C dX11_judge_96 (v := 2) (by decide) ?_
                refine V.aload_n (pc := 97) C dX11_judge_97 1 rfl ?_
                refine V.getr (pc := 98) C fl_RX11_42 sX0 (kX0 hN) rfl rX0_7 dX11_judge_98 ?_
                refine V.callV (pc := 101) (st := [.int 2]) C (c_X10_couples l hN 32 (iX32 hN) m_8) obI ck_X10_couples ml_RX11_237 rfl rfl sX32 (kX32 hN) rfl rfl (Nat.le_of_ble_eq_true rfl) ⟨by decide, by decide⟩ dX11_judge_101 (fun r_11 m_12 _ => ?_)
                refine V.imul (pc := 104) C dX11_judge_104 ?_
                exact V.iret C dX11_judge_105
              · have g0 := lv_neT h_9 (show (0 : Int32).toInt = 0 from by decide)
                have g1 := lv_neT h_10 (show (1 : Int32).toInt = 1 from by decide)
                have g2 := lv_neT h_13 (show (2 : Int32).toInt = 2 from by decide)
                refine V.tout (pc := 46) (x := x2) (tgt := 106) C dX11_judge_46 (by omega) (by decide) ?_
                refine V.aload_n (pc := 106) C dX11_judge_106 1 rfl ?_
                refine V.getr (pc := 107) C fl_RX11_42 sX0 (kX0 hN) rfl rX0_7 dX11_judge_107 ?_
                refine V.callV (pc := 110) (st := []) C (c_X10_goodOfCouples l hN 32 (iX32 hN) m_8) obI ck_X10_goodOfCouples ml_RX11_240 rfl rfl sX32 (kX32 hN) rfl rfl (Nat.le_of_ble_eq_true rfl) ⟨by decide, by decide⟩ dX11_judge_110 (fun r_14 m_15 _ => ?_)
                exact V.iret C dX11_judge_113
        · refine V.bipush (pc := 31) C dX11_judge_31 (v := (-6)) (by decide) ?_
          exact V.iret C dX11_judge_33
      · refine V.bipush (pc := 16) C dX11_judge_16 (v := (-2)) (by decide) ?_
        exact V.iret C dX11_judge_18
theorem c_X11_judge (l : Launch) {N : Nat} (hN : 109 ≤ N) (x1 : Int32) (x2 : Int32) (m : Mem) : Ct l yX11_judge cX11_judge 4 (some .int) 8 SX oI N N RX RX [.ref 0, .int x1, .int x2] m (X11_judge  x1 x2 m) :=
  Ct.of (own := RX11) (nm := "judge") (by decide) rfl rfl (Nat.le_of_ble_eq_true rfl) (fun _ _ _ _ _ _ _ _ _ _ _ C => v_X11_judge C hN x1 x2 m)
theorem dX6_close_0 : decode cX6_close 0 = .ok (.aload_n 0, 1) := by decide +kernel
theorem dX6_close_1 : decode cX6_close 1 = .ok (.getfield 9, 3) := by decide +kernel
theorem dX6_close_4 : decode cX6_close 4 = .ok (.iload_n 1, 1) := by decide +kernel
theorem dX6_close_5 : decode cX6_close 5 = .ok (.bipush 8, 2) := by decide +kernel
theorem dX6_close_7 : decode cX6_close 7 = .ok (.imul, 1) := by decide +kernel
theorem dX6_close_8 : decode cX6_close 8 = .ok (.iload_n 2, 1) := by decide +kernel
theorem dX6_close_9 : decode cX6_close 9 = .ok (.iadd, 1) := by decide +kernel
theorem dX6_close_10 : decode cX6_close 10 = .ok (.iconst 0, 1) := by decide +kernel
theorem dX6_close_11 : decode cX6_close 11 = .ok (.bastore, 1) := by decide +kernel
theorem dX6_close_12 : decode cX6_close 12 = .ok (.aload_n 0, 1) := by decide +kernel
theorem dX6_close_13 : decode cX6_close 13 = .ok (.getfield 9, 3) := by decide +kernel
theorem dX6_close_16 : decode cX6_close 16 = .ok (.iload_n 2, 1) := by decide +kernel
theorem dX6_close_17 : decode cX6_close 17 = .ok (.bipush 8, 2) := by decide +kernel
theorem dX6_close_19 : decode cX6_close 19 = .ok (.imul, 1) := by decide +kernel
theorem dX6_close_20 : decode cX6_close 20 = .ok (.iload_n 1, 1) := by decide +kernel
theorem dX6_close_21 : decode cX6_close 21 = .ok (.iadd, 1) := by decide +kernel
theorem dX6_close_22 : decode cX6_close 22 = .ok (.iconst 0, 1) := by decide +kernel
theorem dX6_close_23 : decode cX6_close 23 = .ok (.bastore, 1) := by decide +kernel
theorem dX6_close_24 : decode cX6_close 24 = .ok (.return_, 1) := by decide +kernel
set_option maxRecDepth 100000 in
set_option maxHeartbeats 4000000 in
theorem v_X6_close {l : Launch} {p : Program} {e : Env} {s : State} {mt : MethodId} {args : Array Value} {below : List Frame} {meth : Method} {c : Code} {A : Nat → Prop} {ad0 : Nat → Nat} {G : Gt} {N : Nat} (C : Cx G p s mt args meth c RX6 cX6_close 3 none "close" A) (hN : 109 ≤ N) (x1 : Int32) (x2 : Int32) (m : Mem) : V G SX oV l p e s mt args below meth c 3 1 A ad0 N N RX N RX 0 [(0, .ref 90), (1, .int x1), (2, .int x2)] [] m (X6_close  x1 x2 m) := by
  rw [X6_close]
  refine V.aload_n (pc := 0) C dX6_close_0 0 rfl ?_
  refine V.getr (pc := 1) C fl_RX6_9 sX90 (kX90 hN) rfl rX90_1 dX6_close_1 ?_
  refine V.iload_n (pc := 4) C dX6_close_4 1 rfl ?_
  refine V.bipush (pc := 5) C dX6_close_5 (v := 8) (by decide) ?_
  refine V.imul (pc := 7) C dX6_close_7 ?_
  refine V.iload_n (pc := 8) C dX6_close_8 2 rfl ?_
  refine V.iadd (pc := 9) C dX6_close_9 ?_
  refine V.iconst (pc := 10) C dX6_close_10 (v := 0) (by decide) ?_
  refine V.zast (pc := 11) C sX91 (kX91 hN) dX6_close_11 (fun _ => ?_)
  refine V.ltm (fun m_1 => ?_)
  refine V.aload_n (pc := 12) C dX6_close_12 0 rfl ?_
  refine V.getr (pc := 13) C fl_RX6_9 sX90 (kX90 hN) rfl rX90_1 dX6_close_13 ?_
  refine V.iload_n (pc := 16) C dX6_close_16 2 rfl ?_
  refine V.bipush (pc := 17) C dX6_close_17 (v := 8) (by decide) ?_
  refine V.imul (pc := 19) C dX6_close_19 ?_
  refine V.iload_n (pc := 20) C dX6_close_20 1 rfl ?_
  refine V.iadd (pc := 21) C dX6_close_21 ?_
  refine V.iconst (pc := 22) C dX6_close_22 (v := 0) (by decide) ?_
  refine V.zast (pc := 23) C sX91 (kX91 hN) dX6_close_23 (fun _ => ?_)
  refine V.ltm (fun m_2 => ?_)
  exact V.vret C dX6_close_24
theorem c_X6_close (l : Launch) {N : Nat} (hN : 109 ≤ N) (x1 : Int32) (x2 : Int32) (m : Mem) : Ct l yX6_close cX6_close 3 none 1 SX oV N N RX RX [.ref 90, .int x1, .int x2] m (X6_close  x1 x2 m) :=
  Ct.of (own := RX6) (nm := "close") (by decide) rfl rfl (Nat.le_of_ble_eq_true rfl) (fun _ _ _ _ _ _ _ _ _ _ _ C => v_X6_close C hN x1 x2 m)
theorem dX6_choose_0 : decode cX6_choose 0 = .ok (.iload_n 1, 1) := by decide +kernel
theorem dX6_choose_1 : decode cX6_choose 1 = .ok (.invokestatic 53, 3) := by decide +kernel
theorem dX6_choose_4 : decode cX6_choose 4 = .ok (.istore_n 2, 1) := by decide +kernel
theorem dX6_choose_5 : decode cX6_choose 5 = .ok (.iload_n 1, 1) := by decide +kernel
theorem dX6_choose_6 : decode cX6_choose 6 = .ok (.iconst 1, 1) := by decide +kernel
theorem dX6_choose_7 : decode cX6_choose 7 = .ok (.iload_n 2, 1) := by decide +kernel
theorem dX6_choose_8 : decode cX6_choose 8 = .ok (.ishl, 1) := by decide +kernel
theorem dX6_choose_9 : decode cX6_choose 9 = .ok (.iconst (-1), 1) := by decide +kernel
theorem dX6_choose_10 : decode cX6_choose 10 = .ok (.ixor, 1) := by decide +kernel
theorem dX6_choose_11 : decode cX6_choose 11 = .ok (.iand, 1) := by decide +kernel
theorem dX6_choose_12 : decode cX6_choose 12 = .ok (.istore_n 3, 1) := by decide +kernel
theorem dX6_choose_13 : decode cX6_choose 13 = .ok (.ldc 59, 2) := by decide +kernel
theorem dX6_choose_15 : decode cX6_choose 15 = .ok (.istore 4, 2) := by decide +kernel
theorem dX6_choose_17 : decode cX6_choose 17 = .ok (.iconst (-1), 1) := by decide +kernel
theorem dX6_choose_18 : decode cX6_choose 18 = .ok (.istore 5, 2) := by decide +kernel
theorem dX6_choose_20 : decode cX6_choose 20 = .ok (.iload_n 2, 1) := by decide +kernel
theorem dX6_choose_21 : decode cX6_choose 21 = .ok (.iconst 1, 1) := by decide +kernel
theorem dX6_choose_22 : decode cX6_choose 22 = .ok (.iadd, 1) := by decide +kernel
theorem dX6_choose_23 : decode cX6_choose 23 = .ok (.istore 6, 2) := by decide +kernel
theorem dX6_choose_25 : decode cX6_choose 25 = .ok (.iload 6, 2) := by decide +kernel
theorem dX6_choose_27 : decode cX6_choose 27 = .ok (.aload_n 0, 1) := by decide +kernel
theorem dX6_choose_28 : decode cX6_choose 28 = .ok (.getfield 40, 3) := by decide +kernel
theorem dX6_choose_31 : decode cX6_choose 31 = .ok (.if_icmp .ge 74, 3) := by decide +kernel
theorem dX6_choose_34 : decode cX6_choose 34 = .ok (.iload_n 3, 1) := by decide +kernel
theorem dX6_choose_35 : decode cX6_choose 35 = .ok (.iconst 1, 1) := by decide +kernel
theorem dX6_choose_36 : decode cX6_choose 36 = .ok (.iload 6, 2) := by decide +kernel
theorem dX6_choose_38 : decode cX6_choose 38 = .ok (.ishl, 1) := by decide +kernel
theorem dX6_choose_39 : decode cX6_choose 39 = .ok (.iand, 1) := by decide +kernel
theorem dX6_choose_40 : decode cX6_choose 40 = .ok (.ifCond .eq 59, 3) := by decide +kernel
theorem dX6_choose_43 : decode cX6_choose 43 = .ok (.aload_n 0, 1) := by decide +kernel
theorem dX6_choose_44 : decode cX6_choose 44 = .ok (.iload_n 2, 1) := by decide +kernel
theorem dX6_choose_45 : decode cX6_choose 45 = .ok (.iload 6, 2) := by decide +kernel
theorem dX6_choose_47 : decode cX6_choose 47 = .ok (.invokevirtual 60, 3) := by decide +kernel
theorem dX6_choose_50 : decode cX6_choose 50 = .ok (.ifCond .eq 49, 3) := by decide +kernel
theorem dX6_choose_53 : decode cX6_choose 53 = .ok (.ldc 63, 2) := by decide +kernel
theorem dX6_choose_55 : decode cX6_choose 55 = .ok (.aload_n 0, 1) := by decide +kernel
theorem dX6_choose_56 : decode cX6_choose 56 = .ok (.getfield 15, 3) := by decide +kernel
theorem dX6_choose_59 : decode cX6_choose 59 = .ok (.iload_n 2, 1) := by decide +kernel
theorem dX6_choose_60 : decode cX6_choose 60 = .ok (.bipush 8, 2) := by decide +kernel
theorem dX6_choose_62 : decode cX6_choose 62 = .ok (.imul, 1) := by decide +kernel
theorem dX6_choose_63 : decode cX6_choose 63 = .ok (.iload 6, 2) := by decide +kernel
theorem dX6_choose_65 : decode cX6_choose 65 = .ok (.iadd, 1) := by decide +kernel
theorem dX6_choose_66 : decode cX6_choose 66 = .ok (.iaload, 1) := by decide +kernel
theorem dX6_choose_67 : decode cX6_choose 67 = .ok (.iadd, 1) := by decide +kernel
theorem dX6_choose_68 : decode cX6_choose 68 = .ok (.aload_n 0, 1) := by decide +kernel
theorem dX6_choose_69 : decode cX6_choose 69 = .ok (.getfield 19, 3) := by decide +kernel
theorem dX6_choose_72 : decode cX6_choose 72 = .ok (.iload_n 3, 1) := by decide +kernel
theorem dX6_choose_73 : decode cX6_choose 73 = .ok (.iconst 1, 1) := by decide +kernel
theorem dX6_choose_74 : decode cX6_choose 74 = .ok (.iload 6, 2) := by decide +kernel
theorem dX6_choose_76 : decode cX6_choose 76 = .ok (.ishl, 1) := by decide +kernel
theorem dX6_choose_77 : decode cX6_choose 77 = .ok (.iconst (-1), 1) := by decide +kernel
theorem dX6_choose_78 : decode cX6_choose 78 = .ok (.ixor, 1) := by decide +kernel
theorem dX6_choose_79 : decode cX6_choose 79 = .ok (.iand, 1) := by decide +kernel
theorem dX6_choose_80 : decode cX6_choose 80 = .ok (.iaload, 1) := by decide +kernel
theorem dX6_choose_81 : decode cX6_choose 81 = .ok (.iadd, 1) := by decide +kernel
theorem dX6_choose_82 : decode cX6_choose 82 = .ok (.istore 7, 2) := by decide +kernel
theorem dX6_choose_84 : decode cX6_choose 84 = .ok (.iload 7, 2) := by decide +kernel
theorem dX6_choose_86 : decode cX6_choose 86 = .ok (.iload 4, 2) := by decide +kernel
theorem dX6_choose_88 : decode cX6_choose 88 = .ok (.if_icmp .le 11, 3) := by decide +kernel
theorem dX6_choose_91 : decode cX6_choose 91 = .ok (.iload 7, 2) := by decide +kernel
theorem dX6_choose_93 : decode cX6_choose 93 = .ok (.istore 4, 2) := by decide +kernel
theorem dX6_choose_95 : decode cX6_choose 95 = .ok (.iload 6, 2) := by decide +kernel
theorem dX6_choose_97 : decode cX6_choose 97 = .ok (.istore 5, 2) := by decide +kernel
theorem dX6_choose_99 : decode cX6_choose 99 = .ok (.iinc 6 1, 3) := by decide +kernel
theorem dX6_choose_102 : decode cX6_choose 102 = .ok (.goto (-77), 3) := by decide +kernel
theorem dX6_choose_105 : decode cX6_choose 105 = .ok (.aload_n 0, 1) := by decide +kernel
theorem dX6_choose_106 : decode cX6_choose 106 = .ok (.getfield 19, 3) := by decide +kernel
theorem dX6_choose_109 : decode cX6_choose 109 = .ok (.iload_n 3, 1) := by decide +kernel
theorem dX6_choose_110 : decode cX6_choose 110 = .ok (.iaload, 1) := by decide +kernel
theorem dX6_choose_111 : decode cX6_choose 111 = .ok (.iload 4, 2) := by decide +kernel
theorem dX6_choose_113 : decode cX6_choose 113 = .ok (.if_icmp .le 14, 3) := by decide +kernel
theorem dX6_choose_116 : decode cX6_choose 116 = .ok (.aload_n 0, 1) := by decide +kernel
theorem dX6_choose_117 : decode cX6_choose 117 = .ok (.getfield 19, 3) := by decide +kernel
theorem dX6_choose_120 : decode cX6_choose 120 = .ok (.iload_n 3, 1) := by decide +kernel
theorem dX6_choose_121 : decode cX6_choose 121 = .ok (.iaload, 1) := by decide +kernel
theorem dX6_choose_122 : decode cX6_choose 122 = .ok (.istore 4, 2) := by decide +kernel
theorem dX6_choose_124 : decode cX6_choose 124 = .ok (.iconst (-1), 1) := by decide +kernel
theorem dX6_choose_125 : decode cX6_choose 125 = .ok (.istore 5, 2) := by decide +kernel
theorem dX6_choose_127 : decode cX6_choose 127 = .ok (.aload_n 0, 1) := by decide +kernel
theorem dX6_choose_128 : decode cX6_choose 128 = .ok (.getfield 19, 3) := by decide +kernel
theorem dX6_choose_131 : decode cX6_choose 131 = .ok (.iload_n 1, 1) := by decide +kernel
theorem dX6_choose_132 : decode cX6_choose 132 = .ok (.iload 4, 2) := by decide +kernel
theorem dX6_choose_134 : decode cX6_choose 134 = .ok (.iastore, 1) := by decide +kernel
theorem dX6_choose_135 : decode cX6_choose 135 = .ok (.aload_n 0, 1) := by decide +kernel
theorem dX6_choose_136 : decode cX6_choose 136 = .ok (.getfield 22, 3) := by decide +kernel
theorem dX6_choose_139 : decode cX6_choose 139 = .ok (.iload_n 1, 1) := by decide +kernel
theorem dX6_choose_140 : decode cX6_choose 140 = .ok (.iload 5, 2) := by decide +kernel
theorem dX6_choose_142 : decode cX6_choose 142 = .ok (.iastore, 1) := by decide +kernel
theorem dX6_choose_143 : decode cX6_choose 143 = .ok (.return_, 1) := by decide +kernel
set_option maxRecDepth 100000 in
set_option maxHeartbeats 4000000 in
theorem v_X6_choose_b127 {l : Launch} {p : Program} {e : Env} {s : State} {mt : MethodId} {args : Array Value} {below : List Frame} {meth : Method} {c : Code} {A : Nat → Prop} {ad0 : Nat → Nat} {G : Gt} {N : Nat} (C : Cx G p s mt args meth c RX6 cX6_choose 8 none "choose" A) (hN : 109 ≤ N) (y1 : Int32) (y4 : Int32) (y5 : Int32) (m : Mem) : V G SX oV l p e s mt args below meth c 8 2 A ad0 N N RX N RX 127 [(0, .ref 90), (1, .int y1), (4, .int y4), (5, .int y5)] [] m (X6_choose_b127  y1 y4 y5 m) := by
  rw [X6_choose_b127]
  refine V.aload_n (pc := 127) C dX6_choose_127 0 rfl ?_
  refine V.getr (pc := 128) C fl_RX6_19 sX90 (kX90 hN) rfl rX90_3 dX6_choose_128 ?_
  refine V.iload_n (pc := 131) C dX6_choose_131 1 rfl ?_
  refine V.iload (pc := 132) C dX6_choose_132 2 rfl ?_
  refine V.iast (pc := 134) C sX93 (kX93 hN) dX6_choose_134 (fun _ => ?_)
  refine V.ltm (fun m_5 => ?_)
  refine V.aload_n (pc := 135) C dX6_choose_135 0 rfl ?_
  refine V.getr (pc := 136) C fl_RX6_22 sX90 (kX90 hN) rfl rX90_4 dX6_choose_136 ?_
  refine V.iload_n (pc := 139) C dX6_choose_139 1 rfl ?_
  refine V.iload (pc := 140) C dX6_choose_140 3 rfl ?_
  refine V.iast (pc := 142) C sX94 (kX94 hN) dX6_choose_142 (fun _ => ?_)
  refine V.ltm (fun m_6 => ?_)
  exact V.vret C dX6_choose_143
set_option maxRecDepth 100000 in
set_option maxHeartbeats 4000000 in
theorem v_X6_choose_b25 {l : Launch} {p : Program} {e : Env} {s : State} {mt : MethodId} {args : Array Value} {below : List Frame} {meth : Method} {c : Code} {A : Nat → Prop} {ad0 : Nat → Nat} {G : Gt} {N : Nat} (C : Cx G p s mt args meth c RX6 cX6_choose 8 none "choose" A) (hN : 109 ≤ N) : ∀ (n : Nat) (y1 : Int32) (y2 : Int32) (y3 : Int32) (y4 : Int32) (y5 : Int32) (y6 : Int32) (m : Mem), V G SX oV l p e s mt args below meth c 8 2 A ad0 N N RX N RX 25 [(0, .ref 90), (1, .int y1), (2, .int y2), (3, .int y3), (4, .int y4), (5, .int y5), (6, .int y6)] [] m (X6_choose_b25  n y1 y2 y3 y4 y5 y6 m) := by
  intro n
  induction n with
  | zero =>
    intro y1 y2 y3 y4 y5 y6 m
    rw [X6_choose_b25]
    exact V.nil
  | succ n ih =>
    intro y1 y2 y3 y4 y5 y6 m
    rw [X6_choose_b25]
    refine V.iload (pc := 25) C dX6_choose_25 6 rfl ?_
    refine V.aload_n (pc := 27) C dX6_choose_27 0 rfl ?_
    refine V.geti (pc := 28) C fl_RX6_40 sX90 (kX90 hN) rfl dX6_choose_28 ?_
    refine V.icmp_ge (pc := 31) C dX6_choose_31 105 (by decide) (fun _ => ?_) (fun _ => ?_)
    · refine V.aload_n (pc := 105) C dX6_choose_105 0 rfl ?_
      refine V.getr (pc := 106) C fl_RX6_19 sX90 (kX90 hN) rfl rX90_3 dX6_choose_106 ?_
      refine V.iload_n (pc := 109) C dX6_choose_109 3 rfl ?_
      refine V.iald (pc := 110) C sX93 (kX93 hN) dX6_choose_110 (fun _ => ?_)
      refine V.iload (pc := 111) C dX6_choose_111 4 rfl ?_
      refine V.icmp_le (pc := 113) C dX6_choose_113 127 (by decide) (fun _ => ?_) (fun _ => ?_)
      · refine V.wk [0, 1, 4, 5] rfl ?_
        exact v_X6_choose_b127 C hN y1 y4 y5 m
      · refine V.aload_n (pc := 116) C dX6_choose_116 0 rfl ?_
        refine V.getr (pc := 117) C fl_RX6_19 sX90 (kX90 hN) rfl rX90_3 dX6_choose_117 ?_
        refine V.iload_n (pc := 120) C dX6_choose_120 3 rfl ?_
        refine V.iald (pc := 121) C sX93 (kX93 hN) dX6_choose_121 (fun _ => ?_)
        refine V.lti (fun x_7 _ => ?_)
        refine V.istore (pc := 122) C dX6_choose_122 (L2 := [(4, .int x_7), (0, .ref 90), (1, .int y1), (2, .int y2), (3, .int y3), (5, .int y5), (6, .int y6)]) (by decide) rfl ?_
        refine V.iconst (pc := 124) C dX6_choose_124 (v := (-1)) (by decide) ?_
        refine V.istore (pc := 125) C dX6_choose_125 (L2 := [(5, .int (-1)), (4, .int x_7), (0, .ref 90), (1, .int y1), (2, .int y2), (3, .int y3), (6, .int y6)]) (by decide) rfl ?_
        refine V.wk [2, 3, 1, 0] rfl ?_
        exact v_X6_choose_b127 C hN y1 x_7 (-1) m
    · refine V.iload_n (pc := 34) C dX6_choose_34 3 rfl ?_
      refine V.iconst (pc := 35) C dX6_choose_35 (v := 1) (by decide) ?_
      refine V.iload (pc := 36) C dX6_choose_36 6 rfl ?_
      refine V.ishl (pc := 38) C dX6_choose_38 ?_
      refine V.iand (pc := 39) C dX6_choose_39 ?_
      refine V.if_eq (pc := 40) C dX6_choose_40 99 (by decide) (fun _ => ?_) (fun _ => ?_)
      · refine V.iinc (pc := 99) C dX6_choose_99 (v := 1) (L2 := [(6, .int (y6 + 1)), (0, .ref 90), (1, .int y1), (2, .int y2), (3, .int y3), (4, .int y4), (5, .int y5)]) 6 rfl (by decide) (by decide) rfl ?_
        refine V.goto (pc := 102) C dX6_choose_102 25 (by decide) ?_
        refine V.wk [1, 2, 3, 4, 5, 6, 0] rfl ?_
        exact ih y1 y2 y3 y4 y5 (y6 + 1) m
      · refine V.aload_n (pc := 43) C dX6_choose_43 0 rfl ?_
        refine V.iload_n (pc := 44) C dX6_choose_44 2 rfl ?_
        refine V.iload (pc := 45) C dX6_choose_45 6 rfl ?_
        refine V.callV (pc := 47) (st := []) C (c_X6_isOpen l hN y2 y6 m) obI ck_X6_isOpen ml_RX6_60 rfl rfl sX90 (kX90 hN) rfl rfl (Nat.le_of_ble_eq_true rfl) ⟨by decide, by decide⟩ dX6_choose_47 (fun r_8 m_9 _ => ?_)
        refine V.if_eq (pc := 50) C dX6_choose_50 99 (by decide) (fun _ => ?_) (fun _ => ?_)
        · refine V.iinc (pc := 99) C dX6_choose_99 (v := 1) (L2 := [(6, .int (y6 + 1)), (0, .ref 90), (1, .int y1), (2, .int y2), (3, .int y3), (4, .int y4), (5, .int y5)]) 6 rfl (by decide) (by decide) rfl ?_
          refine V.goto (pc := 102) C dX6_choose_102 25 (by decide) ?_
          refine V.wk [1, 2, 3, 4, 5, 6, 0] rfl ?_
          exact ih y1 y2 y3 y4 y5 (y6 + 1) m_9
        · refine V.ldc (pc := 53) C dX6_choose_53 (v := 100000000) cn_RX6_63 ?_
          refine V.aload_n (pc := 55) C dX6_choose_55 0 rfl ?_
          refine V.getr (pc := 56) C fl_RX6_15 sX90 (kX90 hN) rfl rX90_2 dX6_choose_56 ?_
          refine V.iload_n (pc := 59) C dX6_choose_59 2 rfl ?_
          refine V.bipush (pc := 60) C dX6_choose_60 (v := 8) (by decide) ?_
          refine V.imul (pc := 62) C dX6_choose_62 ?_
          refine V.iload (pc := 63) C dX6_choose_63 6 rfl ?_
          refine V.iadd (pc := 65) C dX6_choose_65 ?_
          refine V.iald (pc := 66) C sX92 (kX92 hN) dX6_choose_66 (fun _ => ?_)
          refine V.iadd (pc := 67) C dX6_choose_67 ?_
          refine V.aload_n (pc := 68) C dX6_choose_68 0 rfl ?_
          refine V.getr (pc := 69) C fl_RX6_19 sX90 (kX90 hN) rfl rX90_3 dX6_choose_69 ?_
          refine V.iload_n (pc := 72) C dX6_choose_72 3 rfl ?_
          refine V.iconst (pc := 73) C dX6_choose_73 (v := 1) (by decide) ?_
          refine V.iload (pc := 74) C dX6_choose_74 6 rfl ?_
          refine V.ishl (pc := 76) C dX6_choose_76 ?_
          refine V.iconst (pc := 77) C dX6_choose_77 (v := (-1)) (by decide) ?_
          refine V.ixor (pc := 78) C dX6_choose_78 ?_
          refine V.iand (pc := 79) C dX6_choose_79 ?_
          refine V.iald (pc := 80) C sX93 (kX93 hN) dX6_choose_80 (fun _ => ?_)
          refine V.iadd (pc := 81) C dX6_choose_81 ?_
          refine V.lti (fun x_10 _ => ?_)
          refine V.istore (pc := 82) C dX6_choose_82 (L2 := [(7, .int x_10), (0, .ref 90), (1, .int y1), (2, .int y2), (3, .int y3), (4, .int y4), (5, .int y5), (6, .int y6)]) (by decide) rfl ?_
          refine V.iload (pc := 84) C dX6_choose_84 0 rfl ?_
          refine V.iload (pc := 86) C dX6_choose_86 5 rfl ?_
          refine V.icmp_le (pc := 88) C dX6_choose_88 99 (by decide) (fun _ => ?_) (fun _ => ?_)
          · refine V.iinc (pc := 99) C dX6_choose_99 (v := 1) (L2 := [(6, .int (y6 + 1)), (7, .int x_10), (0, .ref 90), (1, .int y1), (2, .int y2), (3, .int y3), (4, .int y4), (5, .int y5)]) 7 rfl (by decide) (by decide) rfl ?_
            refine V.goto (pc := 102) C dX6_choose_102 25 (by decide) ?_
            refine V.wk [2, 3, 4, 5, 6, 7, 0] rfl ?_
            exact ih y1 y2 y3 y4 y5 (y6 + 1) m_9
          · refine V.iload (pc := 91) C dX6_choose_91 0 rfl ?_
            refine V.istore (pc := 93) C dX6_choose_93 (L2 := [(4, .int x_10), (7, .int x_10), (0, .ref 90), (1, .int y1), (2, .int y2), (3, .int y3), (5, .int y5), (6, .int y6)]) (by decide) rfl ?_
            refine V.iload (pc := 95) C dX6_choose_95 7 rfl ?_
            refine V.istore (pc := 97) C dX6_choose_97 (L2 := [(5, .int y6), (4, .int x_10), (7, .int x_10), (0, .ref 90), (1, .int y1), (2, .int y2), (3, .int y3), (6, .int y6)]) (by decide) rfl ?_
            refine V.iinc (pc := 99) C dX6_choose_99 (v := 1) (L2 := [(6, .int (y6 + 1)), (5, .int y6), (4, .int x_10), (7, .int x_10), (0, .ref 90), (1, .int y1), (2, .int y2), (3, .int y3)]) 7 rfl (by decide) (by decide) rfl ?_
            refine V.goto (pc := 102) C dX6_choose_102 25 (by decide) ?_
            refine V.wk [4, 5, 6, 7, 2, 1, 0] rfl ?_
            exact ih y1 y2 y3 x_10 y6 (y6 + 1) m_9
set_option maxRecDepth 100000 in
set_option maxHeartbeats 4000000 in
theorem v_X6_choose {l : Launch} {p : Program} {e : Env} {s : State} {mt : MethodId} {args : Array Value} {below : List Frame} {meth : Method} {c : Code} {A : Nat → Prop} {ad0 : Nat → Nat} {G : Gt} {N : Nat} (C : Cx G p s mt args meth c RX6 cX6_choose 8 none "choose" A) (hN : 109 ≤ N) (x1 : Int32) (m : Mem) : V G SX oV l p e s mt args below meth c 8 2 A ad0 N N RX N RX 0 [(0, .ref 90), (1, .int x1)] [] m (X6_choose  x1 m) := by
  rw [X6_choose]
  refine V.iload_n (pc := 0) C dX6_choose_0 1 rfl ?_
  refine V.callS (pc := 1) (st := []) C (c_J6_numberOfTrailingZeros_0f7a4 l x1 m) obI ck_J6_numberOfTrailingZeros_0f7a4 ml_RX6_53 rfl rfl (Nat.le_of_ble_eq_true rfl) ⟨by decide, by decide⟩ dX6_choose_1 (fun r_1 m_2 _ => ?_)
  refine V.istore_n (pc := 4) C dX6_choose_4 (L2 := [(2, .int r_1), (0, .ref 90), (1, .int x1)]) (by decide) rfl ?_
  refine V.iload_n (pc := 5) C dX6_choose_5 2 rfl ?_
  refine V.iconst (pc := 6) C dX6_choose_6 (v := 1) (by decide) ?_
  refine V.iload_n (pc := 7) C dX6_choose_7 0 rfl ?_
  refine V.ishl (pc := 8) C dX6_choose_8 ?_
  refine V.iconst (pc := 9) C dX6_choose_9 (v := (-1)) (by decide) ?_
  refine V.ixor (pc := 10) C dX6_choose_10 ?_
  refine V.iand (pc := 11) C dX6_choose_11 ?_
  refine V.lti (fun x_3 _ => ?_)
  refine V.istore_n (pc := 12) C dX6_choose_12 (L2 := [(3, .int x_3), (2, .int r_1), (0, .ref 90), (1, .int x1)]) (by decide) rfl ?_
  refine V.ldc (pc := 13) C dX6_choose_13 (v := (-2000000000)) cn_RX6_59 ?_
  refine V.istore (pc := 15) C dX6_choose_15 (L2 := [(4, .int (-2000000000)), (3, .int x_3), (2, .int r_1), (0, .ref 90), (1, .int x1)]) (by decide) rfl ?_
  refine V.iconst (pc := 17) C dX6_choose_17 (v := (-1)) (by decide) ?_
  refine V.istore (pc := 18) C dX6_choose_18 (L2 := [(5, .int (-1)), (4, .int (-2000000000)), (3, .int x_3), (2, .int r_1), (0, .ref 90), (1, .int x1)]) (by decide) rfl ?_
  refine V.iload_n (pc := 20) C dX6_choose_20 3 rfl ?_
  refine V.iconst (pc := 21) C dX6_choose_21 (v := 1) (by decide) ?_
  refine V.iadd (pc := 22) C dX6_choose_22 ?_
  refine V.lti (fun x_4 _ => ?_)
  refine V.istore (pc := 23) C dX6_choose_23 (L2 := [(6, .int x_4), (5, .int (-1)), (4, .int (-2000000000)), (3, .int x_3), (2, .int r_1), (0, .ref 90), (1, .int x1)]) (by decide) rfl ?_
  refine V.wk [5, 6, 4, 3, 2, 1, 0] rfl ?_
  exact v_X6_choose_b25 C hN FU x1 r_1 x_3 (-2000000000) (-1) x_4 m_2
theorem c_X6_choose (l : Launch) {N : Nat} (hN : 109 ≤ N) (x1 : Int32) (m : Mem) : Ct l yX6_choose cX6_choose 8 none 2 SX oV N N RX RX [.ref 90, .int x1] m (X6_choose  x1 m) :=
  Ct.of (own := RX6) (nm := "choose") (by decide) rfl rfl (Nat.le_of_ble_eq_true rfl) (fun _ _ _ _ _ _ _ _ _ _ _ C => v_X6_choose C hN x1 m)
theorem dX6_solve_0 : decode cX6_solve 0 = .ok (.aload_n 0, 1) := by decide +kernel
theorem dX6_solve_1 : decode cX6_solve 1 = .ok (.getfield 19, 3) := by decide +kernel
theorem dX6_solve_4 : decode cX6_solve 4 = .ok (.iconst 0, 1) := by decide +kernel
theorem dX6_solve_5 : decode cX6_solve 5 = .ok (.iconst 0, 1) := by decide +kernel
theorem dX6_solve_6 : decode cX6_solve 6 = .ok (.iastore, 1) := by decide +kernel
theorem dX6_solve_7 : decode cX6_solve 7 = .ok (.aload_n 0, 1) := by decide +kernel
theorem dX6_solve_8 : decode cX6_solve 8 = .ok (.getfield 22, 3) := by decide +kernel
theorem dX6_solve_11 : decode cX6_solve 11 = .ok (.iconst 0, 1) := by decide +kernel
theorem dX6_solve_12 : decode cX6_solve 12 = .ok (.iconst (-1), 1) := by decide +kernel
theorem dX6_solve_13 : decode cX6_solve 13 = .ok (.iastore, 1) := by decide +kernel
theorem dX6_solve_14 : decode cX6_solve 14 = .ok (.iconst 1, 1) := by decide +kernel
theorem dX6_solve_15 : decode cX6_solve 15 = .ok (.aload_n 0, 1) := by decide +kernel
theorem dX6_solve_16 : decode cX6_solve 16 = .ok (.getfield 40, 3) := by decide +kernel
theorem dX6_solve_19 : decode cX6_solve 19 = .ok (.ishl, 1) := by decide +kernel
theorem dX6_solve_20 : decode cX6_solve 20 = .ok (.istore_n 1, 1) := by decide +kernel
theorem dX6_solve_21 : decode cX6_solve 21 = .ok (.iconst 1, 1) := by decide +kernel
theorem dX6_solve_22 : decode cX6_solve 22 = .ok (.istore_n 2, 1) := by decide +kernel
theorem dX6_solve_23 : decode cX6_solve 23 = .ok (.iload_n 2, 1) := by decide +kernel
theorem dX6_solve_24 : decode cX6_solve 24 = .ok (.iload_n 1, 1) := by decide +kernel
theorem dX6_solve_25 : decode cX6_solve 25 = .ok (.if_icmp .ge 14, 3) := by decide +kernel
theorem dX6_solve_28 : decode cX6_solve 28 = .ok (.aload_n 0, 1) := by decide +kernel
theorem dX6_solve_29 : decode cX6_solve 29 = .ok (.iload_n 2, 1) := by decide +kernel
theorem dX6_solve_30 : decode cX6_solve 30 = .ok (.invokevirtual 49, 3) := by decide +kernel
theorem dX6_solve_33 : decode cX6_solve 33 = .ok (.iinc 2 1, 3) := by decide +kernel
theorem dX6_solve_36 : decode cX6_solve 36 = .ok (.goto (-13), 3) := by decide +kernel
theorem dX6_solve_39 : decode cX6_solve 39 = .ok (.return_, 1) := by decide +kernel
set_option maxRecDepth 100000 in
set_option maxHeartbeats 4000000 in
theorem v_X6_solve_b23 {l : Launch} {p : Program} {e : Env} {s : State} {mt : MethodId} {args : Array Value} {below : List Frame} {meth : Method} {c : Code} {A : Nat → Prop} {ad0 : Nat → Nat} {G : Gt} {N : Nat} (C : Cx G p s mt args meth c RX6 cX6_solve 3 none "solve" A) (hN : 109 ≤ N) : ∀ (n : Nat) (y1 : Int32) (y2 : Int32) (m : Mem), V G SX oV l p e s mt args below meth c 3 3 A ad0 N N RX N RX 23 [(0, .ref 90), (1, .int y1), (2, .int y2)] [] m (X6_solve_b23  n y1 y2 m) := by
  intro n
  induction n with
  | zero =>
    intro y1 y2 m
    rw [X6_solve_b23]
    exact V.nil
  | succ n ih =>
    intro y1 y2 m
    rw [X6_solve_b23]
    refine V.iload_n (pc := 23) C dX6_solve_23 2 rfl ?_
    refine V.iload_n (pc := 24) C dX6_solve_24 1 rfl ?_
    refine V.icmp_ge (pc := 25) C dX6_solve_25 39 (by decide) (fun _ => ?_) (fun _ => ?_)
    · exact V.vret C dX6_solve_39
    · refine V.aload_n (pc := 28) C dX6_solve_28 0 rfl ?_
      refine V.iload_n (pc := 29) C dX6_solve_29 2 rfl ?_
      refine V.callV (pc := 30) (st := []) C (c_X6_choose l hN y2 m) obV ck_X6_choose ml_RX6_49 rfl rfl sX90 (kX90 hN) rfl rfl (Nat.le_of_ble_eq_true rfl) ⟨by decide, by decide⟩ dX6_solve_30 (fun r_4 m_5 _ => ?_)
      refine V.iinc (pc := 33) C dX6_solve_33 (v := 1) (L2 := [(2, .int (y2 + 1)), (0, .ref 90), (1, .int y1)]) 2 rfl (by decide) (by decide) rfl ?_
      refine V.goto (pc := 36) C dX6_solve_36 23 (by decide) ?_
      refine V.wk [1, 2, 0] rfl ?_
      exact ih y1 (y2 + 1) m_5
set_option maxRecDepth 100000 in
set_option maxHeartbeats 4000000 in
theorem v_X6_solve {l : Launch} {p : Program} {e : Env} {s : State} {mt : MethodId} {args : Array Value} {below : List Frame} {meth : Method} {c : Code} {A : Nat → Prop} {ad0 : Nat → Nat} {G : Gt} {N : Nat} (C : Cx G p s mt args meth c RX6 cX6_solve 3 none "solve" A) (hN : 109 ≤ N) (m : Mem) : V G SX oV l p e s mt args below meth c 3 3 A ad0 N N RX N RX 0 [(0, .ref 90)] [] m (X6_solve   m) := by
  rw [X6_solve]
  refine V.aload_n (pc := 0) C dX6_solve_0 0 rfl ?_
  refine V.getr (pc := 1) C fl_RX6_19 sX90 (kX90 hN) rfl rX90_3 dX6_solve_1 ?_
  refine V.iconst (pc := 4) C dX6_solve_4 (v := 0) (by decide) ?_
  refine V.iconst (pc := 5) C dX6_solve_5 (v := 0) (by decide) ?_
  refine V.iast (pc := 6) C sX93 (kX93 hN) dX6_solve_6 (fun _ => ?_)
  refine V.ltm (fun m_1 => ?_)
  refine V.aload_n (pc := 7) C dX6_solve_7 0 rfl ?_
  refine V.getr (pc := 8) C fl_RX6_22 sX90 (kX90 hN) rfl rX90_4 dX6_solve_8 ?_
  refine V.iconst (pc := 11) C dX6_solve_11 (v := 0) (by decide) ?_
  refine V.iconst (pc := 12) C dX6_solve_12 (v := (-1)) (by decide) ?_
  refine V.iast (pc := 13) C sX94 (kX94 hN) dX6_solve_13 (fun _ => ?_)
  refine V.ltm (fun m_2 => ?_)
  refine V.iconst (pc := 14) C dX6_solve_14 (v := 1) (by decide) ?_
  refine V.aload_n (pc := 15) C dX6_solve_15 0 rfl ?_
  refine V.geti (pc := 16) C fl_RX6_40 sX90 (kX90 hN) rfl dX6_solve_16 ?_
  refine V.ishl (pc := 19) C dX6_solve_19 ?_
  refine V.lti (fun x_3 _ => ?_)
  refine V.istore_n (pc := 20) C dX6_solve_20 (L2 := [(1, .int x_3), (0, .ref 90)]) (by decide) rfl ?_
  refine V.iconst (pc := 21) C dX6_solve_21 (v := 1) (by decide) ?_
  refine V.istore_n (pc := 22) C dX6_solve_22 (L2 := [(2, .int 1), (1, .int x_3), (0, .ref 90)]) (by decide) rfl ?_
  refine V.wk [2, 1, 0] rfl ?_
  exact v_X6_solve_b23 C hN FU x_3 1 m_2
theorem c_X6_solve (l : Launch) {N : Nat} (hN : 109 ≤ N) (m : Mem) : Ct l yX6_solve cX6_solve 3 none 3 SX oV N N RX RX [.ref 90] m (X6_solve   m) :=
  Ct.of (own := RX6) (nm := "solve") (by decide) rfl rfl (Nat.le_of_ble_eq_true rfl) (fun _ _ _ _ _ _ _ _ _ _ _ C => v_X6_solve C hN  m)
theorem dX6_follow_0 : decode cX6_follow 0 = .ok (.aload_n 0, 1) := by decide +kernel
theorem dX6_follow_1 : decode cX6_follow 1 = .ok (.invokevirtual 64, 3) := by decide +kernel
theorem dX6_follow_4 : decode cX6_follow 4 = .ok (.iload_n 1, 1) := by decide +kernel
theorem dX6_follow_5 : decode cX6_follow 5 = .ok (.istore_n 2, 1) := by decide +kernel
theorem dX6_follow_6 : decode cX6_follow 6 = .ok (.iconst 0, 1) := by decide +kernel
theorem dX6_follow_7 : decode cX6_follow 7 = .ok (.istore_n 3, 1) := by decide +kernel
theorem dX6_follow_8 : decode cX6_follow 8 = .ok (.iload_n 3, 1) := by decide +kernel
theorem dX6_follow_9 : decode cX6_follow 9 = .ok (.aload_n 0, 1) := by decide +kernel
theorem dX6_follow_10 : decode cX6_follow 10 = .ok (.getfield 40, 3) := by decide +kernel
theorem dX6_follow_13 : decode cX6_follow 13 = .ok (.if_icmp .ge 73, 3) := by decide +kernel
theorem dX6_follow_16 : decode cX6_follow 16 = .ok (.iload_n 2, 1) := by decide +kernel
theorem dX6_follow_17 : decode cX6_follow 17 = .ok (.iconst 1, 1) := by decide +kernel
theorem dX6_follow_18 : decode cX6_follow 18 = .ok (.iload_n 3, 1) := by decide +kernel
theorem dX6_follow_19 : decode cX6_follow 19 = .ok (.ishl, 1) := by decide +kernel
theorem dX6_follow_20 : decode cX6_follow 20 = .ok (.iand, 1) := by decide +kernel
theorem dX6_follow_21 : decode cX6_follow 21 = .ok (.ifCond .eq 59, 3) := by decide +kernel
theorem dX6_follow_24 : decode cX6_follow 24 = .ok (.aload_n 0, 1) := by decide +kernel
theorem dX6_follow_25 : decode cX6_follow 25 = .ok (.getfield 22, 3) := by decide +kernel
theorem dX6_follow_28 : decode cX6_follow 28 = .ok (.iload_n 2, 1) := by decide +kernel
theorem dX6_follow_29 : decode cX6_follow 29 = .ok (.iaload, 1) := by decide +kernel
theorem dX6_follow_30 : decode cX6_follow 30 = .ok (.istore 4, 2) := by decide +kernel
theorem dX6_follow_32 : decode cX6_follow 32 = .ok (.iload_n 2, 1) := by decide +kernel
theorem dX6_follow_33 : decode cX6_follow 33 = .ok (.iconst 1, 1) := by decide +kernel
theorem dX6_follow_34 : decode cX6_follow 34 = .ok (.iload_n 3, 1) := by decide +kernel
theorem dX6_follow_35 : decode cX6_follow 35 = .ok (.ishl, 1) := by decide +kernel
theorem dX6_follow_36 : decode cX6_follow 36 = .ok (.iconst (-1), 1) := by decide +kernel
theorem dX6_follow_37 : decode cX6_follow 37 = .ok (.ixor, 1) := by decide +kernel
theorem dX6_follow_38 : decode cX6_follow 38 = .ok (.iand, 1) := by decide +kernel
theorem dX6_follow_39 : decode cX6_follow 39 = .ok (.istore_n 2, 1) := by decide +kernel
theorem dX6_follow_40 : decode cX6_follow 40 = .ok (.iload 4, 2) := by decide +kernel
theorem dX6_follow_42 : decode cX6_follow 42 = .ok (.iload_n 3, 1) := by decide +kernel
theorem dX6_follow_43 : decode cX6_follow 43 = .ok (.if_icmp .le 37, 3) := by decide +kernel
theorem dX6_follow_46 : decode cX6_follow 46 = .ok (.iload 4, 2) := by decide +kernel
theorem dX6_follow_48 : decode cX6_follow 48 = .ok (.aload_n 0, 1) := by decide +kernel
theorem dX6_follow_49 : decode cX6_follow 49 = .ok (.getfield 40, 3) := by decide +kernel
theorem dX6_follow_52 : decode cX6_follow 52 = .ok (.if_icmp .ge 28, 3) := by decide +kernel
theorem dX6_follow_55 : decode cX6_follow 55 = .ok (.iload_n 2, 1) := by decide +kernel
theorem dX6_follow_56 : decode cX6_follow 56 = .ok (.iconst 1, 1) := by decide +kernel
theorem dX6_follow_57 : decode cX6_follow 57 = .ok (.iload 4, 2) := by decide +kernel
theorem dX6_follow_59 : decode cX6_follow 59 = .ok (.ishl, 1) := by decide +kernel
theorem dX6_follow_60 : decode cX6_follow 60 = .ok (.iconst (-1), 1) := by decide +kernel
theorem dX6_follow_61 : decode cX6_follow 61 = .ok (.ixor, 1) := by decide +kernel
theorem dX6_follow_62 : decode cX6_follow 62 = .ok (.iand, 1) := by decide +kernel
theorem dX6_follow_63 : decode cX6_follow 63 = .ok (.istore_n 2, 1) := by decide +kernel
theorem dX6_follow_64 : decode cX6_follow 64 = .ok (.aload_n 0, 1) := by decide +kernel
theorem dX6_follow_65 : decode cX6_follow 65 = .ok (.getfield 25, 3) := by decide +kernel
theorem dX6_follow_68 : decode cX6_follow 68 = .ok (.iload_n 3, 1) := by decide +kernel
theorem dX6_follow_69 : decode cX6_follow 69 = .ok (.iload 4, 2) := by decide +kernel
theorem dX6_follow_71 : decode cX6_follow 71 = .ok (.iastore, 1) := by decide +kernel
theorem dX6_follow_72 : decode cX6_follow 72 = .ok (.aload_n 0, 1) := by decide +kernel
theorem dX6_follow_73 : decode cX6_follow 73 = .ok (.getfield 25, 3) := by decide +kernel
theorem dX6_follow_76 : decode cX6_follow 76 = .ok (.iload 4, 2) := by decide +kernel
theorem dX6_follow_78 : decode cX6_follow 78 = .ok (.iload_n 3, 1) := by decide +kernel
theorem dX6_follow_79 : decode cX6_follow 79 = .ok (.iastore, 1) := by decide +kernel
theorem dX6_follow_80 : decode cX6_follow 80 = .ok (.iinc 3 1, 3) := by decide +kernel
theorem dX6_follow_83 : decode cX6_follow 83 = .ok (.goto (-75), 3) := by decide +kernel
theorem dX6_follow_86 : decode cX6_follow 86 = .ok (.return_, 1) := by decide +kernel
set_option maxRecDepth 100000 in
set_option maxHeartbeats 4000000 in
theorem v_X6_follow_b8 {l : Launch} {p : Program} {e : Env} {s : State} {mt : MethodId} {args : Array Value} {below : List Frame} {meth : Method} {c : Code} {A : Nat → Prop} {ad0 : Nat → Nat} {G : Gt} {N : Nat} (C : Cx G p s mt args meth c RX6 cX6_follow 5 none "follow" A) (hN : 109 ≤ N) : ∀ (n : Nat) (y2 : Int32) (y3 : Int32) (m : Mem), V G SX oV l p e s mt args below meth c 5 2 A ad0 N N RX N RX 8 [(0, .ref 90), (2, .int y2), (3, .int y3)] [] m (X6_follow_b8  n y2 y3 m) := by
  intro n
  induction n with
  | zero =>
    intro y2 y3 m
    rw [X6_follow_b8]
    exact V.nil
  | succ n ih =>
    intro y2 y3 m
    rw [X6_follow_b8]
    refine V.iload_n (pc := 8) C dX6_follow_8 2 rfl ?_
    refine V.aload_n (pc := 9) C dX6_follow_9 0 rfl ?_
    refine V.geti (pc := 10) C fl_RX6_40 sX90 (kX90 hN) rfl dX6_follow_10 ?_
    refine V.icmp_ge (pc := 13) C dX6_follow_13 86 (by decide) (fun _ => ?_) (fun _ => ?_)
    · exact V.vret C dX6_follow_86
    · refine V.iload_n (pc := 16) C dX6_follow_16 1 rfl ?_
      refine V.iconst (pc := 17) C dX6_follow_17 (v := 1) (by decide) ?_
      refine V.iload_n (pc := 18) C dX6_follow_18 2 rfl ?_
      refine V.ishl (pc := 19) C dX6_follow_19 ?_
      refine V.iand (pc := 20) C dX6_follow_20 ?_
      refine V.if_eq (pc := 21) C dX6_follow_21 80 (by decide) (fun _ => ?_) (fun _ => ?_)
      · refine V.iinc (pc := 80) C dX6_follow_80 (v := 1) (L2 := [(3, .int (y3 + 1)), (0, .ref 90), (2, .int y2)]) 2 rfl (by decide) (by decide) rfl ?_
        refine V.goto (pc := 83) C dX6_follow_83 8 (by decide) ?_
        refine V.wk [1, 2, 0] rfl ?_
        exact ih y2 (y3 + 1) m
      · refine V.aload_n (pc := 24) C dX6_follow_24 0 rfl ?_
        refine V.getr (pc := 25) C fl_RX6_22 sX90 (kX90 hN) rfl rX90_4 dX6_follow_25 ?_
        refine V.iload_n (pc := 28) C dX6_follow_28 1 rfl ?_
        refine V.iald (pc := 29) C sX94 (kX94 hN) dX6_follow_29 (fun _ => ?_)
        refine V.lti (fun x_3 _ => ?_)
        refine V.istore (pc := 30) C dX6_follow_30 (L2 := [(4, .int x_3), (0, .ref 90), (2, .int y2), (3, .int y3)]) (by decide) rfl ?_
        refine V.iload_n (pc := 32) C dX6_follow_32 2 rfl ?_
        refine V.iconst (pc := 33) C dX6_follow_33 (v := 1) (by decide) ?_
        refine V.iload_n (pc := 34) C dX6_follow_34 3 rfl ?_
        refine V.ishl (pc := 35) C dX6_follow_35 ?_
        refine V.iconst (pc := 36) C dX6_follow_36 (v := (-1)) (by decide) ?_
        refine V.ixor (pc := 37) C dX6_follow_37 ?_
        refine V.iand (pc := 38) C dX6_follow_38 ?_
        refine V.lti (fun x_4 _ => ?_)
        refine V.istore_n (pc := 39) C dX6_follow_39 (L2 := [(2, .int x_4), (4, .int x_3), (0, .ref 90), (3, .int y3)]) (by decide) rfl ?_
        refine V.iload (pc := 40) C dX6_follow_40 1 rfl ?_
        refine V.iload_n (pc := 42) C dX6_follow_42 3 rfl ?_
        refine V.icmp_le (pc := 43) C dX6_follow_43 80 (by decide) (fun _ => ?_) (fun _ => ?_)
        · refine V.iinc (pc := 80) C dX6_follow_80 (v := 1) (L2 := [(3, .int (y3 + 1)), (2, .int x_4), (4, .int x_3), (0, .ref 90)]) 3 rfl (by decide) (by decide) rfl ?_
          refine V.goto (pc := 83) C dX6_follow_83 8 (by decide) ?_
          refine V.wk [3, 1, 0] rfl ?_
          exact ih x_4 (y3 + 1) m
        · refine V.iload (pc := 46) C dX6_follow_46 1 rfl ?_
          refine V.aload_n (pc := 48) C dX6_follow_48 2 rfl ?_
          refine V.geti (pc := 49) C fl_RX6_40 sX90 (kX90 hN) rfl dX6_follow_49 ?_
          refine V.icmp_ge (pc := 52) C dX6_follow_52 80 (by decide) (fun _ => ?_) (fun _ => ?_)
          · refine V.iinc (pc := 80) C dX6_follow_80 (v := 1) (L2 := [(3, .int (y3 + 1)), (2, .int x_4), (4, .int x_3), (0, .ref 90)]) 3 rfl (by decide) (by decide) rfl ?_
            refine V.goto (pc := 83) C dX6_follow_83 8 (by decide) ?_
            refine V.wk [3, 1, 0] rfl ?_
            exact ih x_4 (y3 + 1) m
          · refine V.iload_n (pc := 55) C dX6_follow_55 0 rfl ?_
            refine V.iconst (pc := 56) C dX6_follow_56 (v := 1) (by decide) ?_
            refine V.iload (pc := 57) C dX6_follow_57 1 rfl ?_
            refine V.ishl (pc := 59) C dX6_follow_59 ?_
            refine V.iconst (pc := 60) C dX6_follow_60 (v := (-1)) (by decide) ?_
            refine V.ixor (pc := 61) C dX6_follow_61 ?_
            refine V.iand (pc := 62) C dX6_follow_62 ?_
            refine V.lti (fun x_5 _ => ?_)
            refine V.istore_n (pc := 63) C dX6_follow_63 (L2 := [(2, .int x_5), (4, .int x_3), (0, .ref 90), (3, .int y3)]) (by decide) rfl ?_
            refine V.aload_n (pc := 64) C dX6_follow_64 2 rfl ?_
            refine V.getr (pc := 65) C fl_RX6_25 sX90 (kX90 hN) rfl rX90_5 dX6_follow_65 ?_
            refine V.iload_n (pc := 68) C dX6_follow_68 3 rfl ?_
            refine V.iload (pc := 69) C dX6_follow_69 1 rfl ?_
            refine V.iast (pc := 71) C sX95 (kX95 hN) dX6_follow_71 (fun _ => ?_)
            refine V.ltm (fun m_6 => ?_)
            refine V.aload_n (pc := 72) C dX6_follow_72 2 rfl ?_
            refine V.getr (pc := 73) C fl_RX6_25 sX90 (kX90 hN) rfl rX90_5 dX6_follow_73 ?_
            refine V.iload (pc := 76) C dX6_follow_76 1 rfl ?_
            refine V.iload_n (pc := 78) C dX6_follow_78 3 rfl ?_
            refine V.iast (pc := 79) C sX95 (kX95 hN) dX6_follow_79 (fun _ => ?_)
            refine V.ltm (fun m_7 => ?_)
            refine V.iinc (pc := 80) C dX6_follow_80 (v := 1) (L2 := [(3, .int (y3 + 1)), (2, .int x_5), (4, .int x_3), (0, .ref 90)]) 3 rfl (by decide) (by decide) rfl ?_
            refine V.goto (pc := 83) C dX6_follow_83 8 (by decide) ?_
            refine V.wk [3, 1, 0] rfl ?_
            exact ih x_5 (y3 + 1) m_7
set_option maxRecDepth 100000 in
set_option maxHeartbeats 4000000 in
theorem v_X6_follow {l : Launch} {p : Program} {e : Env} {s : State} {mt : MethodId} {args : Array Value} {below : List Frame} {meth : Method} {c : Code} {A : Nat → Prop} {ad0 : Nat → Nat} {G : Gt} {N : Nat} (C : Cx G p s mt args meth c RX6 cX6_follow 5 none "follow" A) (hN : 109 ≤ N) (x1 : Int32) (m : Mem) : V G SX oV l p e s mt args below meth c 5 2 A ad0 N N RX N RX 0 [(0, .ref 90), (1, .int x1)] [] m (X6_follow  x1 m) := by
  rw [X6_follow]
  refine V.aload_n (pc := 0) C dX6_follow_0 0 rfl ?_
  refine V.callV (pc := 1) (st := []) C (c_X6_leaveAlone l hN m) obV ck_X6_leaveAlone ml_RX6_64 rfl rfl sX90 (kX90 hN) rfl rfl (Nat.le_of_ble_eq_true rfl) ⟨by decide, by decide⟩ dX6_follow_1 (fun r_1 m_2 _ => ?_)
  refine V.iload_n (pc := 4) C dX6_follow_4 1 rfl ?_
  refine V.istore_n (pc := 5) C dX6_follow_5 (L2 := [(2, .int x1), (0, .ref 90), (1, .int x1)]) (by decide) rfl ?_
  refine V.iconst (pc := 6) C dX6_follow_6 (v := 0) (by decide) ?_
  refine V.istore_n (pc := 7) C dX6_follow_7 (L2 := [(3, .int 0), (2, .int x1), (0, .ref 90), (1, .int x1)]) (by decide) rfl ?_
  refine V.wk [2, 1, 0] rfl ?_
  exact v_X6_follow_b8 C hN FU x1 0 m_2
theorem c_X6_follow (l : Launch) {N : Nat} (hN : 109 ≤ N) (x1 : Int32) (m : Mem) : Ct l yX6_follow cX6_follow 5 none 2 SX oV N N RX RX [.ref 90, .int x1] m (X6_follow  x1 m) :=
  Ct.of (own := RX6) (nm := "follow") (by decide) rfl rfl (Nat.le_of_ble_eq_true rfl) (fun _ _ _ _ _ _ _ _ _ _ _ C => v_X6_follow C hN x1 m)
theorem dX6_answer_0 : decode cX6_answer 0 = .ok (.iconst 0, 1) := by decide +kernel
theorem dX6_answer_1 : decode cX6_answer 1 = .ok (.istore_n 2, 1) := by decide +kernel
theorem dX6_answer_2 : decode cX6_answer 2 = .ok (.iconst 0, 1) := by decide +kernel
theorem dX6_answer_3 : decode cX6_answer 3 = .ok (.istore_n 3, 1) := by decide +kernel
theorem dX6_answer_4 : decode cX6_answer 4 = .ok (.iconst 0, 1) := by decide +kernel
theorem dX6_answer_5 : decode cX6_answer 5 = .ok (.istore 4, 2) := by decide +kernel
theorem dX6_answer_7 : decode cX6_answer 7 = .ok (.iload 4, 2) := by decide +kernel
theorem dX6_answer_9 : decode cX6_answer 9 = .ok (.aload_n 0, 1) := by decide +kernel
theorem dX6_answer_10 : decode cX6_answer 10 = .ok (.getfield 40, 3) := by decide +kernel
theorem dX6_answer_13 : decode cX6_answer 13 = .ok (.if_icmp .ge 33, 3) := by decide +kernel
theorem dX6_answer_16 : decode cX6_answer 16 = .ok (.aload_n 0, 1) := by decide +kernel
theorem dX6_answer_17 : decode cX6_answer 17 = .ok (.getfield 25, 3) := by decide +kernel
theorem dX6_answer_20 : decode cX6_answer 20 = .ok (.iload 4, 2) := by decide +kernel
theorem dX6_answer_22 : decode cX6_answer 22 = .ok (.iaload, 1) := by decide +kernel
theorem dX6_answer_23 : decode cX6_answer 23 = .ok (.iload 4, 2) := by decide +kernel
theorem dX6_answer_25 : decode cX6_answer 25 = .ok (.if_icmp .le 15, 3) := by decide +kernel
theorem dX6_answer_28 : decode cX6_answer 28 = .ok (.iinc 2 1, 3) := by decide +kernel
theorem dX6_answer_31 : decode cX6_answer 31 = .ok (.iload_n 3, 1) := by decide +kernel
theorem dX6_answer_32 : decode cX6_answer 32 = .ok (.aload_n 0, 1) := by decide +kernel
theorem dX6_answer_33 : decode cX6_answer 33 = .ok (.iload 4, 2) := by decide +kernel
theorem dX6_answer_35 : decode cX6_answer 35 = .ok (.invokevirtual 81, 3) := by decide +kernel
theorem dX6_answer_38 : decode cX6_answer 38 = .ok (.iadd, 1) := by decide +kernel
theorem dX6_answer_39 : decode cX6_answer 39 = .ok (.istore_n 3, 1) := by decide +kernel
theorem dX6_answer_40 : decode cX6_answer 40 = .ok (.iinc 4 1, 3) := by decide +kernel
theorem dX6_answer_43 : decode cX6_answer 43 = .ok (.goto (-36), 3) := by decide +kernel
theorem dX6_answer_46 : decode cX6_answer 46 = .ok (.iload_n 1, 1) := by decide +kernel
theorem dX6_answer_47 : decode cX6_answer 47 = .ok (.ifCond .ne 5, 3) := by decide +kernel
theorem dX6_answer_50 : decode cX6_answer 50 = .ok (.iload_n 2, 1) := by decide +kernel
theorem dX6_answer_51 : decode cX6_answer 51 = .ok (.ireturn, 1) := by decide +kernel
theorem dX6_answer_52 : decode cX6_answer 52 = .ok (.iload_n 1, 1) := by decide +kernel
theorem dX6_answer_53 : decode cX6_answer 53 = .ok (.bipush 10, 2) := by decide +kernel
theorem dX6_answer_55 : decode cX6_answer 55 = .ok (.isub, 1) := by decide +kernel
theorem dX6_answer_56 : decode cX6_answer 56 = .ok (.istore 4, 2) := by decide +kernel
theorem dX6_answer_58 : decode cX6_answer 58 = .ok (.iload 4, 2) := by decide +kernel
theorem dX6_answer_60 : decode cX6_answer 60 = .ok (.ifCond .lt 22, 3) := by decide +kernel
theorem dX6_answer_63 : decode cX6_answer 63 = .ok (.iload 4, 2) := by decide +kernel
theorem dX6_answer_65 : decode cX6_answer 65 = .ok (.aload_n 0, 1) := by decide +kernel
theorem dX6_answer_66 : decode cX6_answer 66 = .ok (.getfield 40, 3) := by decide +kernel
theorem dX6_answer_69 : decode cX6_answer 69 = .ok (.if_icmp .ge 13, 3) := by decide +kernel
theorem dX6_answer_72 : decode cX6_answer 72 = .ok (.aload_n 0, 1) := by decide +kernel
theorem dX6_answer_73 : decode cX6_answer 73 = .ok (.getfield 25, 3) := by decide +kernel
theorem dX6_answer_76 : decode cX6_answer 76 = .ok (.iload 4, 2) := by decide +kernel
theorem dX6_answer_78 : decode cX6_answer 78 = .ok (.iaload, 1) := by decide +kernel
theorem dX6_answer_79 : decode cX6_answer 79 = .ok (.goto 4, 3) := by decide +kernel
theorem dX6_answer_82 : decode cX6_answer 82 = .ok (.iload_n 3, 1) := by decide +kernel
theorem dX6_answer_83 : decode cX6_answer 83 = .ok (.ireturn, 1) := by decide +kernel
set_option maxRecDepth 100000 in
set_option maxHeartbeats 4000000 in
theorem v_X6_answer_b7 {l : Launch} {p : Program} {e : Env} {s : State} {mt : MethodId} {args : Array Value} {below : List Frame} {meth : Method} {c : Code} {A : Nat → Prop} {ad0 : Nat → Nat} {G : Gt} {N : Nat} (C : Cx G p s mt args meth c RX6 cX6_answer 5 (some .int) "answer" A) (hN : 109 ≤ N) : ∀ (n : Nat) (y1 : Int32) (y2 : Int32) (y3 : Int32) (y4 : Int32) (m : Mem), V G SX oI l p e s mt args below meth c 5 2 A ad0 N N RX N RX 7 [(0, .ref 90), (1, .int y1), (2, .int y2), (3, .int y3), (4, .int y4)] [] m (X6_answer_b7  n y1 y2 y3 y4 m) := by
  intro n
  induction n with
  | zero =>
    intro y1 y2 y3 y4 m
    rw [X6_answer_b7]
    exact V.nil
  | succ n ih =>
    intro y1 y2 y3 y4 m
    rw [X6_answer_b7]
    refine V.iload (pc := 7) C dX6_answer_7 4 rfl ?_
    refine V.aload_n (pc := 9) C dX6_answer_9 0 rfl ?_
    refine V.geti (pc := 10) C fl_RX6_40 sX90 (kX90 hN) rfl dX6_answer_10 ?_
    refine V.icmp_ge (pc := 13) C dX6_answer_13 46 (by decide) (fun _ => ?_) (fun _ => ?_)
    · refine V.iload_n (pc := 46) C dX6_answer_46 1 rfl ?_
      refine V.if_ne (pc := 47) C dX6_answer_47 52 (by decide) (fun _ => ?_) (fun _ => ?_)
      · refine V.iload_n (pc := 52) C dX6_answer_52 1 rfl ?_
        refine V.bipush (pc := 53) C dX6_answer_53 (v := 10) (by decide) ?_
        refine V.isub (pc := 55) C dX6_answer_55 ?_
        refine V.lti (fun x_1 _ => ?_)
        refine V.istore (pc := 56) C dX6_answer_56 (L2 := [(4, .int x_1), (0, .ref 90), (1, .int y1), (2, .int y2), (3, .int y3)]) (by decide) rfl ?_
        refine V.iload (pc := 58) C dX6_answer_58 0 rfl ?_
        refine V.if_lt (pc := 60) C dX6_answer_60 82 (by decide) (fun _ => ?_) (fun _ => ?_)
        · refine V.iload_n (pc := 82) C dX6_answer_82 4 rfl ?_
          exact V.iret C dX6_answer_83
        · refine V.iload (pc := 63) C dX6_answer_63 0 rfl ?_
          refine V.aload_n (pc := 65) C dX6_answer_65 1 rfl ?_
          refine V.geti (pc := 66) C fl_RX6_40 sX90 (kX90 hN) rfl dX6_answer_66 ?_
          refine V.icmp_ge (pc := 69) C dX6_answer_69 82 (by decide) (fun _ => ?_) (fun _ => ?_)
          · refine V.iload_n (pc := 82) C dX6_answer_82 4 rfl ?_
            exact V.iret C dX6_answer_83
          · refine V.aload_n (pc := 72) C dX6_answer_72 1 rfl ?_
            refine V.getr (pc := 73) C fl_RX6_25 sX90 (kX90 hN) rfl rX90_5 dX6_answer_73 ?_
            refine V.iload (pc := 76) C dX6_answer_76 0 rfl ?_
            refine V.iald (pc := 78) C sX95 (kX95 hN) dX6_answer_78 (fun _ => ?_)
            refine V.goto (pc := 79) C dX6_answer_79 83 (by decide) ?_
            exact V.iret C dX6_answer_83
      · refine V.iload_n (pc := 50) C dX6_answer_50 2 rfl ?_
        exact V.iret C dX6_answer_51
    · refine V.aload_n (pc := 16) C dX6_answer_16 0 rfl ?_
      refine V.getr (pc := 17) C fl_RX6_25 sX90 (kX90 hN) rfl rX90_5 dX6_answer_17 ?_
      refine V.iload (pc := 20) C dX6_answer_20 4 rfl ?_
      refine V.iald (pc := 22) C sX95 (kX95 hN) dX6_answer_22 (fun _ => ?_)
      refine V.iload (pc := 23) C dX6_answer_23 4 rfl ?_
      refine V.icmp_le (pc := 25) C dX6_answer_25 40 (by decide) (fun _ => ?_) (fun _ => ?_)
      · refine V.iinc (pc := 40) C dX6_answer_40 (v := 1) (L2 := [(4, .int (y4 + 1)), (0, .ref 90), (1, .int y1), (2, .int y2), (3, .int y3)]) 4 rfl (by decide) (by decide) rfl ?_
        refine V.goto (pc := 43) C dX6_answer_43 7 (by decide) ?_
        refine V.wk [1, 2, 3, 4, 0] rfl ?_
        exact ih y1 y2 y3 (y4 + 1) m
      · refine V.iinc (pc := 28) C dX6_answer_28 (v := 1) (L2 := [(2, .int (y2 + 1)), (0, .ref 90), (1, .int y1), (3, .int y3), (4, .int y4)]) 2 rfl (by decide) (by decide) rfl ?_
        refine V.iload_n (pc := 31) C dX6_answer_31 3 rfl ?_
        refine V.aload_n (pc := 32) C dX6_answer_32 1 rfl ?_
        refine V.iload (pc := 33) C dX6_answer_33 4 rfl ?_
        refine V.callV (pc := 35) (st := [.int y3]) C (c_X6_goodNow l hN y4 m) obI ck_X6_goodNow ml_RX6_81 rfl rfl sX90 (kX90 hN) rfl rfl (Nat.le_of_ble_eq_true rfl) ⟨by decide, by decide⟩ dX6_answer_35 (fun r_2 m_3 _ => ?_)
        refine V.iadd (pc := 38) C dX6_answer_38 ?_
        refine V.lti (fun x_4 _ => ?_)
        refine V.istore_n (pc := 39) C dX6_answer_39 (L2 := [(3, .int x_4), (2, .int (y2 + 1)), (0, .ref 90), (1, .int y1), (4, .int y4)]) (by decide) rfl ?_
        refine V.iinc (pc := 40) C dX6_answer_40 (v := 1) (L2 := [(4, .int (y4 + 1)), (3, .int x_4), (2, .int (y2 + 1)), (0, .ref 90), (1, .int y1)]) 4 rfl (by decide) (by decide) rfl ?_
        refine V.goto (pc := 43) C dX6_answer_43 7 (by decide) ?_
        refine V.wk [3, 4, 2, 1, 0] rfl ?_
        exact ih y1 (y2 + 1) x_4 (y4 + 1) m_3
set_option maxRecDepth 100000 in
set_option maxHeartbeats 4000000 in
theorem v_X6_answer {l : Launch} {p : Program} {e : Env} {s : State} {mt : MethodId} {args : Array Value} {below : List Frame} {meth : Method} {c : Code} {A : Nat → Prop} {ad0 : Nat → Nat} {G : Gt} {N : Nat} (C : Cx G p s mt args meth c RX6 cX6_answer 5 (some .int) "answer" A) (hN : 109 ≤ N) (x1 : Int32) (m : Mem) : V G SX oI l p e s mt args below meth c 5 2 A ad0 N N RX N RX 0 [(0, .ref 90), (1, .int x1)] [] m (X6_answer  x1 m) := by
  rw [X6_answer]
  refine V.iconst (pc := 0) C dX6_answer_0 (v := 0) (by decide) ?_
  refine V.istore_n (pc := 1) C dX6_answer_1 (L2 := [(2, .int 0), (0, .ref 90), (1, .int x1)]) (by decide) rfl ?_
  refine V.iconst (pc := 2) C dX6_answer_2 (v := 0) (by decide) ?_
  refine V.istore_n (pc := 3) C dX6_answer_3 (L2 := [(3, .int 0), (2, .int 0), (0, .ref 90), (1, .int x1)]) (by decide) rfl ?_
  refine V.iconst (pc := 4) C dX6_answer_4 (v := 0) (by decide) ?_
  refine V.istore (pc := 5) C dX6_answer_5 (L2 := [(4, .int 0), (3, .int 0), (2, .int 0), (0, .ref 90), (1, .int x1)]) (by decide) rfl ?_
  refine V.wk [3, 4, 2, 1, 0] rfl ?_
  exact v_X6_answer_b7 C hN FU x1 0 0 0 m
theorem c_X6_answer (l : Launch) {N : Nat} (hN : 109 ≤ N) (x1 : Int32) (m : Mem) : Ct l yX6_answer cX6_answer 5 (some .int) 2 SX oI N N RX RX [.ref 90, .int x1] m (X6_answer  x1 m) :=
  Ct.of (own := RX6) (nm := "answer") (by decide) rfl rfl (Nat.le_of_ble_eq_true rfl) (fun _ _ _ _ _ _ _ _ _ _ _ C => v_X6_answer C hN x1 m)
theorem dX11_lasting_0 : decode cX11_lasting 0 = .ok (.aload_n 0, 1) := by decide +kernel
theorem dX11_lasting_1 : decode cX11_lasting 1 = .ok (.iload_n 2, 1) := by decide +kernel
theorem dX11_lasting_2 : decode cX11_lasting 2 = .ok (.invokevirtual 271, 3) := by decide +kernel
theorem dX11_lasting_5 : decode cX11_lasting 5 = .ok (.ifCond .ne 6, 3) := by decide +kernel
theorem dX11_lasting_8 : decode cX11_lasting 8 = .ok (.bipush (-2), 2) := by decide +kernel
theorem dX11_lasting_10 : decode cX11_lasting 10 = .ok (.ireturn, 1) := by decide +kernel
theorem dX11_lasting_11 : decode cX11_lasting 11 = .ok (.iload_n 1, 1) := by decide +kernel
theorem dX11_lasting_12 : decode cX11_lasting 12 = .ok (.ifCond .lt 9, 3) := by decide +kernel
theorem dX11_lasting_15 : decode cX11_lasting 15 = .ok (.iload_n 1, 1) := by decide +kernel
theorem dX11_lasting_16 : decode cX11_lasting 16 = .ok (.bipush 40, 2) := by decide +kernel
theorem dX11_lasting_18 : decode cX11_lasting 18 = .ok (.if_icmp .le 6, 3) := by decide +kernel
theorem dX11_lasting_21 : decode cX11_lasting 21 = .ok (.bipush (-3), 2) := by decide +kernel
theorem dX11_lasting_23 : decode cX11_lasting 23 = .ok (.ireturn, 1) := by decide +kernel
theorem dX11_lasting_24 : decode cX11_lasting 24 = .ok (.aload_n 0, 1) := by decide +kernel
theorem dX11_lasting_25 : decode cX11_lasting 25 = .ok (.getfield 64, 3) := by decide +kernel
theorem dX11_lasting_28 : decode cX11_lasting 28 = .ok (.aload_n 0, 1) := by decide +kernel
theorem dX11_lasting_29 : decode cX11_lasting 29 = .ok (.getfield 38, 3) := by decide +kernel
theorem dX11_lasting_32 : decode cX11_lasting 32 = .ok (.invokevirtual 262, 3) := by decide +kernel
theorem dX11_lasting_35 : decode cX11_lasting 35 = .ok (.iconst 0, 1) := by decide +kernel
theorem dX11_lasting_36 : decode cX11_lasting 36 = .ok (.istore_n 3, 1) := by decide +kernel
theorem dX11_lasting_37 : decode cX11_lasting 37 = .ok (.iload_n 3, 1) := by decide +kernel
theorem dX11_lasting_38 : decode cX11_lasting 38 = .ok (.aload_n 0, 1) := by decide +kernel
theorem dX11_lasting_39 : decode cX11_lasting 39 = .ok (.getfield 16, 3) := by decide +kernel
theorem dX11_lasting_42 : decode cX11_lasting 42 = .ok (.getfield 249, 3) := by decide +kernel
theorem dX11_lasting_45 : decode cX11_lasting 45 = .ok (.if_icmp .ge 67, 3) := by decide +kernel
theorem dX11_lasting_48 : decode cX11_lasting 48 = .ok (.iload_n 3, 1) := by decide +kernel
theorem dX11_lasting_49 : decode cX11_lasting 49 = .ok (.iconst 1, 1) := by decide +kernel
theorem dX11_lasting_50 : decode cX11_lasting 50 = .ok (.iadd, 1) := by decide +kernel
theorem dX11_lasting_51 : decode cX11_lasting 51 = .ok (.istore 4, 2) := by decide +kernel
theorem dX11_lasting_53 : decode cX11_lasting 53 = .ok (.iload 4, 2) := by decide +kernel
theorem dX11_lasting_55 : decode cX11_lasting 55 = .ok (.aload_n 0, 1) := by decide +kernel
theorem dX11_lasting_56 : decode cX11_lasting 56 = .ok (.getfield 16, 3) := by decide +kernel
theorem dX11_lasting_59 : decode cX11_lasting 59 = .ok (.getfield 249, 3) := by decide +kernel
theorem dX11_lasting_62 : decode cX11_lasting 62 = .ok (.if_icmp .ge 44, 3) := by decide +kernel
theorem dX11_lasting_65 : decode cX11_lasting 65 = .ok (.aload_n 0, 1) := by decide +kernel
theorem dX11_lasting_66 : decode cX11_lasting 66 = .ok (.getfield 64, 3) := by decide +kernel
theorem dX11_lasting_69 : decode cX11_lasting 69 = .ok (.iload_n 3, 1) := by decide +kernel
theorem dX11_lasting_70 : decode cX11_lasting 70 = .ok (.iload 4, 2) := by decide +kernel
theorem dX11_lasting_72 : decode cX11_lasting 72 = .ok (.invokevirtual 306, 3) := by decide +kernel
theorem dX11_lasting_75 : decode cX11_lasting 75 = .ok (.ifCond .eq 25, 3) := by decide +kernel
theorem dX11_lasting_78 : decode cX11_lasting 78 = .ok (.aload_n 0, 1) := by decide +kernel
theorem dX11_lasting_79 : decode cX11_lasting 79 = .ok (.iload_n 3, 1) := by decide +kernel
theorem dX11_lasting_80 : decode cX11_lasting 80 = .ok (.iload 4, 2) := by decide +kernel
theorem dX11_lasting_82 : decode cX11_lasting 82 = .ok (.iload_n 1, 1) := by decide +kernel
theorem dX11_lasting_83 : decode cX11_lasting 83 = .ok (.invokevirtual 299, 3) := by decide +kernel
theorem dX11_lasting_86 : decode cX11_lasting 86 = .ok (.iload_n 1, 1) := by decide +kernel
theorem dX11_lasting_87 : decode cX11_lasting 87 = .ok (.if_icmp .ge 13, 3) := by decide +kernel
theorem dX11_lasting_90 : decode cX11_lasting 90 = .ok (.aload_n 0, 1) := by decide +kernel
theorem dX11_lasting_91 : decode cX11_lasting 91 = .ok (.getfield 64, 3) := by decide +kernel
theorem dX11_lasting_94 : decode cX11_lasting 94 = .ok (.iload_n 3, 1) := by decide +kernel
theorem dX11_lasting_95 : decode cX11_lasting 95 = .ok (.iload 4, 2) := by decide +kernel
theorem dX11_lasting_97 : decode cX11_lasting 97 = .ok (.invokevirtual 309, 3) := by decide +kernel
theorem dX11_lasting_100 : decode cX11_lasting 100 = .ok (.iinc 4 1, 3) := by decide +kernel
theorem dX11_lasting_103 : decode cX11_lasting 103 = .ok (.goto (-50), 3) := by decide +kernel
theorem dX11_lasting_106 : decode cX11_lasting 106 = .ok (.iinc 3 1, 3) := by decide +kernel
theorem dX11_lasting_109 : decode cX11_lasting 109 = .ok (.goto (-72), 3) := by decide +kernel
theorem dX11_lasting_112 : decode cX11_lasting 112 = .ok (.aload_n 0, 1) := by decide +kernel
theorem dX11_lasting_113 : decode cX11_lasting 113 = .ok (.getfield 64, 3) := by decide +kernel
theorem dX11_lasting_116 : decode cX11_lasting 116 = .ok (.invokevirtual 274, 3) := by decide +kernel
theorem dX11_lasting_119 : decode cX11_lasting 119 = .ok (.aload_n 0, 1) := by decide +kernel
theorem dX11_lasting_120 : decode cX11_lasting 120 = .ok (.getfield 64, 3) := by decide +kernel
theorem dX11_lasting_123 : decode cX11_lasting 123 = .ok (.aload_n 0, 1) := by decide +kernel
theorem dX11_lasting_124 : decode cX11_lasting 124 = .ok (.getfield 16, 3) := by decide +kernel
theorem dX11_lasting_127 : decode cX11_lasting 127 = .ok (.invokevirtual 265, 3) := by decide +kernel
theorem dX11_lasting_130 : decode cX11_lasting 130 = .ok (.invokevirtual 277, 3) := by decide +kernel
theorem dX11_lasting_133 : decode cX11_lasting 133 = .ok (.aload_n 0, 1) := by decide +kernel
theorem dX11_lasting_134 : decode cX11_lasting 134 = .ok (.getfield 64, 3) := by decide +kernel
theorem dX11_lasting_137 : decode cX11_lasting 137 = .ok (.iload_n 2, 1) := by decide +kernel
theorem dX11_lasting_138 : decode cX11_lasting 138 = .ok (.invokevirtual 280, 3) := by decide +kernel
theorem dX11_lasting_141 : decode cX11_lasting 141 = .ok (.ireturn, 1) := by decide +kernel
set_option maxRecDepth 100000 in
set_option maxHeartbeats 4000000 in
theorem v_X11_lasting_b53 {l : Launch} {p : Program} {e : Env} {s : State} {mt : MethodId} {args : Array Value} {below : List Frame} {meth : Method} {c : Code} {A : Nat → Prop} {ad0 : Nat → Nat} {G : Gt} {N : Nat} (C : Cx G p s mt args meth c RX11 cX11_lasting 5 (some .int) "lasting" A) (hN : 109 ≤ N) (k37 : Int32 → Int32 → Int32 → Mem → Option (Int32 × Mem)) (h37 : ∀ (y1 : Int32) (y2 : Int32) (y3 : Int32) (m : Mem), V G SX oI l p e s mt args below meth c 5 7 A ad0 N N RX N RX 37 [(0, .ref 0), (1, .int y1), (2, .int y2), (3, .int y3)] [] m (k37 y1 y2 y3 m)) : ∀ (n : Nat) (y1 : Int32) (y2 : Int32) (y3 : Int32) (y4 : Int32) (m : Mem), V G SX oI l p e s mt args below meth c 5 7 A ad0 N N RX N RX 53 [(0, .ref 0), (1, .int y1), (2, .int y2), (3, .int y3), (4, .int y4)] [] m (X11_lasting_b53 k37 n y1 y2 y3 y4 m) := by
  intro n
  induction n with
  | zero =>
    intro y1 y2 y3 y4 m
    rw [X11_lasting_b53]
    exact V.nil
  | succ n ih =>
    intro y1 y2 y3 y4 m
    rw [X11_lasting_b53]
    refine V.iload (pc := 53) C dX11_lasting_53 4 rfl ?_
    refine V.aload_n (pc := 55) C dX11_lasting_55 0 rfl ?_
    refine V.getr (pc := 56) C fl_RX11_16 sX0 (kX0 hN) rfl rX0_3 dX11_lasting_56 ?_
    refine V.geti (pc := 59) C fl_RX11_249 sX2 (kX2 hN) rfl dX11_lasting_59 ?_
    refine V.icmp_ge (pc := 62) C dX11_lasting_62 106 (by decide) (fun _ => ?_) (fun _ => ?_)
    · refine V.iinc (pc := 106) C dX11_lasting_106 (v := 1) (L2 := [(3, .int (y3 + 1)), (0, .ref 0), (1, .int y1), (2, .int y2), (4, .int y4)]) 3 rfl (by decide) (by decide) rfl ?_
      refine V.goto (pc := 109) C dX11_lasting_109 37 (by decide) ?_
      refine V.wk [1, 2, 3, 0] rfl ?_
      exact h37 y1 y2 (y3 + 1) m
    · refine V.aload_n (pc := 65) C dX11_lasting_65 0 rfl ?_
      refine V.getr (pc := 66) C fl_RX11_64 sX0 (kX0 hN) rfl rX0_10 dX11_lasting_66 ?_
      refine V.iload_n (pc := 69) C dX11_lasting_69 3 rfl ?_
      refine V.iload (pc := 70) C dX11_lasting_70 4 rfl ?_
      refine V.callV (pc := 72) (st := []) C (c_X6_isOpen l hN y3 y4 m) obI ck_X6_isOpen ml_RX11_306 rfl rfl sX90 (kX90 hN) rfl rfl (Nat.le_of_ble_eq_true rfl) ⟨by decide, by decide⟩ dX11_lasting_72 (fun r_14 m_15 _ => ?_)
      refine V.if_eq (pc := 75) C dX11_lasting_75 100 (by decide) (fun _ => ?_) (fun _ => ?_)
      · refine V.iinc (pc := 100) C dX11_lasting_100 (v := 1) (L2 := [(4, .int (y4 + 1)), (0, .ref 0), (1, .int y1), (2, .int y2), (3, .int y3)]) 4 rfl (by decide) (by decide) rfl ?_
        refine V.goto (pc := 103) C dX11_lasting_103 53 (by decide) ?_
        refine V.wk [1, 2, 3, 4, 0] rfl ?_
        exact ih y1 y2 y3 (y4 + 1) m_15
      · refine V.aload_n (pc := 78) C dX11_lasting_78 0 rfl ?_
        refine V.iload_n (pc := 79) C dX11_lasting_79 3 rfl ?_
        refine V.iload (pc := 80) C dX11_lasting_80 4 rfl ?_
        refine V.iload_n (pc := 82) C dX11_lasting_82 1 rfl ?_
        refine V.callV (pc := 83) (st := []) C (c_X11_endurance l hN y3 y4 y1 m_15) obI ck_X11_endurance ml_RX11_299 rfl rfl sX0 (kX0 hN) rfl rfl (Nat.le_of_ble_eq_true rfl) ⟨by decide, by decide⟩ dX11_lasting_83 (fun r_16 m_17 _ => ?_)
        refine V.iload_n (pc := 86) C dX11_lasting_86 1 rfl ?_
        refine V.icmp_ge (pc := 87) C dX11_lasting_87 100 (by decide) (fun _ => ?_) (fun _ => ?_)
        · refine V.iinc (pc := 100) C dX11_lasting_100 (v := 1) (L2 := [(4, .int (y4 + 1)), (0, .ref 0), (1, .int y1), (2, .int y2), (3, .int y3)]) 4 rfl (by decide) (by decide) rfl ?_
          refine V.goto (pc := 103) C dX11_lasting_103 53 (by decide) ?_
          refine V.wk [1, 2, 3, 4, 0] rfl ?_
          exact ih y1 y2 y3 (y4 + 1) m_17
        · refine V.aload_n (pc := 90) C dX11_lasting_90 0 rfl ?_
          refine V.getr (pc := 91) C fl_RX11_64 sX0 (kX0 hN) rfl rX0_10 dX11_lasting_91 ?_
          refine V.iload_n (pc := 94) C dX11_lasting_94 3 rfl ?_
          refine V.iload (pc := 95) C dX11_lasting_95 4 rfl ?_
          refine V.callV (pc := 97) (st := []) C (c_X6_close l hN y3 y4 m_17) obV ck_X6_close ml_RX11_309 rfl rfl sX90 (kX90 hN) rfl rfl (Nat.le_of_ble_eq_true rfl) ⟨by decide, by decide⟩ dX11_lasting_97 (fun r_18 m_19 _ => ?_)
          refine V.iinc (pc := 100) C dX11_lasting_100 (v := 1) (L2 := [(4, .int (y4 + 1)), (0, .ref 0), (1, .int y1), (2, .int y2), (3, .int y3)]) 4 rfl (by decide) (by decide) rfl ?_
          refine V.goto (pc := 103) C dX11_lasting_103 53 (by decide) ?_
          refine V.wk [1, 2, 3, 4, 0] rfl ?_
          exact ih y1 y2 y3 (y4 + 1) m_19
set_option maxRecDepth 100000 in
set_option maxHeartbeats 4000000 in
theorem v_X11_lasting_b37 {l : Launch} {p : Program} {e : Env} {s : State} {mt : MethodId} {args : Array Value} {below : List Frame} {meth : Method} {c : Code} {A : Nat → Prop} {ad0 : Nat → Nat} {G : Gt} {N : Nat} (C : Cx G p s mt args meth c RX11 cX11_lasting 5 (some .int) "lasting" A) (hN : 109 ≤ N) : ∀ (n : Nat) (y1 : Int32) (y2 : Int32) (y3 : Int32) (m : Mem), V G SX oI l p e s mt args below meth c 5 7 A ad0 N N RX N RX 37 [(0, .ref 0), (1, .int y1), (2, .int y2), (3, .int y3)] [] m (X11_lasting_b37  n y1 y2 y3 m) := by
  intro n
  induction n with
  | zero =>
    intro y1 y2 y3 m
    rw [X11_lasting_b37]
    exact V.nil
  | succ n ih =>
    intro y1 y2 y3 m
    rw [X11_lasting_b37]
    refine V.iload_n (pc := 37) C dX11_lasting_37 3 rfl ?_
    refine V.aload_n (pc := 38) C dX11_lasting_38 0 rfl ?_
    refine V.getr (pc := 39) C fl_RX11_16 sX0 (kX0 hN) rfl rX0_3 dX11_lasting_39 ?_
    refine V.geti (pc := 42) C fl_RX11_249 sX2 (kX2 hN) rfl dX11_lasting_42 ?_
    refine V.icmp_ge (pc := 45) C dX11_lasting_45 112 (by decide) (fun _ => ?_) (fun _ => ?_)
    · refine V.aload_n (pc := 112) C dX11_lasting_112 0 rfl ?_
      refine V.getr (pc := 113) C fl_RX11_64 sX0 (kX0 hN) rfl rX0_10 dX11_lasting_113 ?_
      refine V.callV (pc := 116) (st := []) C (c_X6_solve l hN m) obV ck_X6_solve ml_RX11_274 rfl rfl sX90 (kX90 hN) rfl rfl (Nat.le_of_ble_eq_true rfl) ⟨by decide, by decide⟩ dX11_lasting_116 (fun r_5 m_6 _ => ?_)
      refine V.aload_n (pc := 119) C dX11_lasting_119 0 rfl ?_
      refine V.getr (pc := 120) C fl_RX11_64 sX0 (kX0 hN) rfl rX0_10 dX11_lasting_120 ?_
      refine V.aload_n (pc := 123) C dX11_lasting_123 0 rfl ?_
      refine V.getr (pc := 124) C fl_RX11_16 sX0 (kX0 hN) rfl rX0_3 dX11_lasting_124 ?_
      refine V.callV (pc := 127) (st := [.ref 90]) C (c_X8_everybody l hN 2 (iX2 hN) m_6) obI ck_X8_everybody ml_RX11_265 rfl rfl sX2 (kX2 hN) rfl rfl (Nat.le_of_ble_eq_true rfl) ⟨by decide, by decide⟩ dX11_lasting_127 (fun r_7 m_8 _ => ?_)
      refine V.callV (pc := 130) (st := []) C (c_X6_follow l hN r_7 m_8) obV ck_X6_follow ml_RX11_277 rfl rfl sX90 (kX90 hN) rfl rfl (Nat.le_of_ble_eq_true rfl) ⟨by decide, by decide⟩ dX11_lasting_130 (fun r_9 m_10 _ => ?_)
      refine V.aload_n (pc := 133) C dX11_lasting_133 0 rfl ?_
      refine V.getr (pc := 134) C fl_RX11_64 sX0 (kX0 hN) rfl rX0_10 dX11_lasting_134 ?_
      refine V.iload_n (pc := 137) C dX11_lasting_137 2 rfl ?_
      refine V.callV (pc := 138) (st := []) C (c_X6_answer l hN y2 m_10) obI ck_X6_answer ml_RX11_280 rfl rfl sX90 (kX90 hN) rfl rfl (Nat.le_of_ble_eq_true rfl) ⟨by decide, by decide⟩ dX11_lasting_138 (fun r_11 m_12 _ => ?_)
      exact V.iret C dX11_lasting_141
    · refine V.iload_n (pc := 48) C dX11_lasting_48 3 rfl ?_
      refine V.iconst (pc := 49) C dX11_lasting_49 (v := 1) (by decide) ?_
      refine V.iadd (pc := 50) C dX11_lasting_50 ?_
      refine V.lti (fun x_13 _ => ?_)
      refine V.istore (pc := 51) C dX11_lasting_51 (L2 := [(4, .int x_13), (0, .ref 0), (1, .int y1), (2, .int y2), (3, .int y3)]) (by decide) rfl ?_
      refine V.wk [1, 2, 3, 4, 0] rfl ?_
      exact v_X11_lasting_b53 C hN (X11_lasting_b37 n) ih FU y1 y2 y3 x_13 m
set_option maxRecDepth 100000 in
set_option maxHeartbeats 4000000 in
theorem v_X11_lasting {l : Launch} {p : Program} {e : Env} {s : State} {mt : MethodId} {args : Array Value} {below : List Frame} {meth : Method} {c : Code} {A : Nat → Prop} {ad0 : Nat → Nat} {G : Gt} {N : Nat} (C : Cx G p s mt args meth c RX11 cX11_lasting 5 (some .int) "lasting" A) (hN : 109 ≤ N) (x1 : Int32) (x2 : Int32) (m : Mem) : V G SX oI l p e s mt args below meth c 5 7 A ad0 N N RX N RX 0 [(0, .ref 0), (1, .int x1), (2, .int x2)] [] m (X11_lasting  x1 x2 m) := by
  rw [X11_lasting]
  refine V.aload_n (pc := 0) C dX11_lasting_0 0 rfl ?_
  refine V.iload_n (pc := 1) C dX11_lasting_1 2 rfl ?_
  refine V.callV (pc := 2) (st := []) C (c_X11_isMatchingQuestion l hN x2 m) obI ck_X11_isMatchingQuestion ml_RX11_271 rfl rfl sX0 (kX0 hN) rfl rfl (Nat.le_of_ble_eq_true rfl) ⟨by decide, by decide⟩ dX11_lasting_2 (fun r_1 m_2 _ => ?_)
  refine V.if_ne (pc := 5) C dX11_lasting_5 11 (by decide) (fun _ => ?_) (fun _ => ?_)
  · refine V.iload_n (pc := 11) C dX11_lasting_11 1 rfl ?_
    refine V.if_lt (pc := 12) C dX11_lasting_12 21 (by decide) (fun _ => ?_) (fun _ => ?_)
    · refine V.bipush (pc := 21) C dX11_lasting_21 (v := (-3)) (by decide) ?_
      exact V.iret C dX11_lasting_23
    · refine V.iload_n (pc := 15) C dX11_lasting_15 1 rfl ?_
      refine V.bipush (pc := 16) C dX11_lasting_16 (v := 40) (by decide) ?_
      refine V.icmp_le (pc := 18) C dX11_lasting_18 24 (by decide) (fun _ => ?_) (fun _ => ?_)
      · refine V.aload_n (pc := 24) C dX11_lasting_24 0 rfl ?_
        refine V.getr (pc := 25) C fl_RX11_64 sX0 (kX0 hN) rfl rX0_10 dX11_lasting_25 ?_
        refine V.aload_n (pc := 28) C dX11_lasting_28 0 rfl ?_
        refine V.getr (pc := 29) C fl_RX11_38 sX0 (kX0 hN) rfl rX0_6 dX11_lasting_29 ?_
        refine V.callV (pc := 32) (st := []) C (c_X6_survey l hN 25 (iX25 hN) m_2) obV ck_X6_survey ml_RX11_262 rfl rfl sX90 (kX90 hN) rfl rfl (Nat.le_of_ble_eq_true rfl) ⟨by decide, by decide⟩ dX11_lasting_32 (fun r_3 m_4 _ => ?_)
        refine V.iconst (pc := 35) C dX11_lasting_35 (v := 0) (by decide) ?_
        refine V.istore_n (pc := 36) C dX11_lasting_36 (L2 := [(3, .int 0), (0, .ref 0), (1, .int x1), (2, .int x2)]) (by decide) rfl ?_
        refine V.wk [1, 2, 3, 0] rfl ?_
        exact v_X11_lasting_b37 C hN FU x1 x2 0 m_4
      · refine V.bipush (pc := 21) C dX11_lasting_21 (v := (-3)) (by decide) ?_
        exact V.iret C dX11_lasting_23
  · refine V.bipush (pc := 8) C dX11_lasting_8 (v := (-2)) (by decide) ?_
    exact V.iret C dX11_lasting_10
theorem c_X11_lasting (l : Launch) {N : Nat} (hN : 109 ≤ N) (x1 : Int32) (x2 : Int32) (m : Mem) : Ct l yX11_lasting cX11_lasting 5 (some .int) 7 SX oI N N RX RX [.ref 0, .int x1, .int x2] m (X11_lasting  x1 x2 m) :=
  Ct.of (own := RX11) (nm := "lasting") (by decide) rfl rfl (Nat.le_of_ble_eq_true rfl) (fun _ _ _ _ _ _ _ _ _ _ _ C => v_X11_lasting C hN x1 x2 m)
theorem dX11_later_0 : decode cX11_later 0 = .ok (.aload_n 0, 1) := by decide +kernel
theorem dX11_later_1 : decode cX11_later 1 = .ok (.getfield 38, 3) := by decide +kernel
theorem dX11_later_4 : decode cX11_later 4 = .ok (.iload_n 1, 1) := by decide +kernel
theorem dX11_later_5 : decode cX11_later 5 = .ok (.invokevirtual 123, 3) := by decide +kernel
theorem dX11_later_8 : decode cX11_later 8 = .ok (.ifCond .ne 6, 3) := by decide +kernel
theorem dX11_later_11 : decode cX11_later 11 = .ok (.bipush (-2), 2) := by decide +kernel
theorem dX11_later_13 : decode cX11_later 13 = .ok (.ireturn, 1) := by decide +kernel
theorem dX11_later_14 : decode cX11_later 14 = .ok (.iload_n 2, 1) := by decide +kernel
theorem dX11_later_15 : decode cX11_later 15 = .ok (.ifCond .lt 9, 3) := by decide +kernel
theorem dX11_later_18 : decode cX11_later 18 = .ok (.iload_n 2, 1) := by decide +kernel
theorem dX11_later_19 : decode cX11_later 19 = .ok (.bipush 60, 2) := by decide +kernel
theorem dX11_later_21 : decode cX11_later 21 = .ok (.if_icmp .le 6, 3) := by decide +kernel
theorem dX11_later_24 : decode cX11_later 24 = .ok (.bipush (-3), 2) := by decide +kernel
theorem dX11_later_26 : decode cX11_later 26 = .ok (.ireturn, 1) := by decide +kernel
theorem dX11_later_27 : decode cX11_later 27 = .ok (.aload_n 0, 1) := by decide +kernel
theorem dX11_later_28 : decode cX11_later 28 = .ok (.getfield 42, 3) := by decide +kernel
theorem dX11_later_31 : decode cX11_later 31 = .ok (.getfield 108, 3) := by decide +kernel
theorem dX11_later_34 : decode cX11_later 34 = .ok (.aload_n 0, 1) := by decide +kernel
theorem dX11_later_35 : decode cX11_later 35 = .ok (.getfield 38, 3) := by decide +kernel
theorem dX11_later_38 : decode cX11_later 38 = .ok (.getfield 108, 3) := by decide +kernel
theorem dX11_later_41 : decode cX11_later 41 = .ok (.invokevirtual 111, 3) := by decide +kernel
theorem dX11_later_44 : decode cX11_later 44 = .ok (.iconst 0, 1) := by decide +kernel
theorem dX11_later_45 : decode cX11_later 45 = .ok (.istore_n 3, 1) := by decide +kernel
theorem dX11_later_46 : decode cX11_later 46 = .ok (.iload_n 3, 1) := by decide +kernel
theorem dX11_later_47 : decode cX11_later 47 = .ok (.iload_n 2, 1) := by decide +kernel
theorem dX11_later_48 : decode cX11_later 48 = .ok (.if_icmp .ge 17, 3) := by decide +kernel
theorem dX11_later_51 : decode cX11_later 51 = .ok (.aload_n 0, 1) := by decide +kernel
theorem dX11_later_52 : decode cX11_later 52 = .ok (.getfield 42, 3) := by decide +kernel
theorem dX11_later_55 : decode cX11_later 55 = .ok (.iload_n 1, 1) := by decide +kernel
theorem dX11_later_56 : decode cX11_later 56 = .ok (.invokevirtual 312, 3) := by decide +kernel
theorem dX11_later_59 : decode cX11_later 59 = .ok (.iinc 3 1, 3) := by decide +kernel
theorem dX11_later_62 : decode cX11_later 62 = .ok (.goto (-16), 3) := by decide +kernel
theorem dX11_later_65 : decode cX11_later 65 = .ok (.aload_n 0, 1) := by decide +kernel
theorem dX11_later_66 : decode cX11_later 66 = .ok (.getfield 42, 3) := by decide +kernel
theorem dX11_later_69 : decode cX11_later 69 = .ok (.getfield 108, 3) := by decide +kernel
theorem dX11_later_72 : decode cX11_later 72 = .ok (.getfield 134, 3) := by decide +kernel
theorem dX11_later_75 : decode cX11_later 75 = .ok (.iload_n 1, 1) := by decide +kernel
theorem dX11_later_76 : decode cX11_later 76 = .ok (.iaload, 1) := by decide +kernel
theorem dX11_later_77 : decode cX11_later 77 = .ok (.ireturn, 1) := by decide +kernel
set_option maxRecDepth 100000 in
set_option maxHeartbeats 4000000 in
theorem v_X11_later_b46 {l : Launch} {p : Program} {e : Env} {s : State} {mt : MethodId} {args : Array Value} {below : List Frame} {meth : Method} {c : Code} {A : Nat → Prop} {ad0 : Nat → Nat} {G : Gt} {N : Nat} (C : Cx G p s mt args meth c RX11 cX11_later 4 (some .int) "later" A) (hN : 109 ≤ N) : ∀ (n : Nat) (y1 : Int32) (y2 : Int32) (y3 : Int32) (m : Mem), V G SX oI l p e s mt args below meth c 4 7 A ad0 N N RX N RX 46 [(0, .ref 0), (1, .int y1), (2, .int y2), (3, .int y3)] [] m (X11_later_b46  n y1 y2 y3 m) := by
  intro n
  induction n with
  | zero =>
    intro y1 y2 y3 m
    rw [X11_later_b46]
    exact V.nil
  | succ n ih =>
    intro y1 y2 y3 m
    rw [X11_later_b46]
    refine V.iload_n (pc := 46) C dX11_later_46 3 rfl ?_
    refine V.iload_n (pc := 47) C dX11_later_47 2 rfl ?_
    refine V.icmp_ge (pc := 48) C dX11_later_48 65 (by decide) (fun _ => ?_) (fun _ => ?_)
    · refine V.aload_n (pc := 65) C dX11_later_65 0 rfl ?_
      refine V.getr (pc := 66) C fl_RX11_42 sX0 (kX0 hN) rfl rX0_7 dX11_later_66 ?_
      refine V.getr (pc := 69) C fl_RX11_108 sX32 (kX32 hN) rfl rX32_2 dX11_later_69 ?_
      refine V.getr (pc := 72) C fl_RX11_134 sX33 (kX33 hN) rfl rX33_3 dX11_later_72 ?_
      refine V.iload_n (pc := 75) C dX11_later_75 1 rfl ?_
      refine V.iald (pc := 76) C sX36 (kX36 hN) dX11_later_76 (fun _ => ?_)
      exact V.iret C dX11_later_77
    · refine V.aload_n (pc := 51) C dX11_later_51 0 rfl ?_
      refine V.getr (pc := 52) C fl_RX11_42 sX0 (kX0 hN) rfl rX0_7 dX11_later_52 ?_
      refine V.iload_n (pc := 55) C dX11_later_55 1 rfl ?_
      refine V.callV (pc := 56) (st := []) C (c_X10_passYearAround l hN 32 (iX32 hN) y1 m) obV ck_X10_passYearAround ml_RX11_312 rfl rfl sX32 (kX32 hN) rfl rfl (Nat.le_of_ble_eq_true rfl) ⟨by decide, by decide⟩ dX11_later_56 (fun r_5 m_6 _ => ?_)
      refine V.iinc (pc := 59) C dX11_later_59 (v := 1) (L2 := [(3, .int (y3 + 1)), (0, .ref 0), (1, .int y1), (2, .int y2)]) 3 rfl (by decide) (by decide) rfl ?_
      refine V.goto (pc := 62) C dX11_later_62 46 (by decide) ?_
      refine V.wk [1, 2, 3, 0] rfl ?_
      exact ih y1 y2 (y3 + 1) m_6
set_option maxRecDepth 100000 in
set_option maxHeartbeats 4000000 in
theorem v_X11_later {l : Launch} {p : Program} {e : Env} {s : State} {mt : MethodId} {args : Array Value} {below : List Frame} {meth : Method} {c : Code} {A : Nat → Prop} {ad0 : Nat → Nat} {G : Gt} {N : Nat} (C : Cx G p s mt args meth c RX11 cX11_later 4 (some .int) "later" A) (hN : 109 ≤ N) (x1 : Int32) (x2 : Int32) (m : Mem) : V G SX oI l p e s mt args below meth c 4 7 A ad0 N N RX N RX 0 [(0, .ref 0), (1, .int x1), (2, .int x2)] [] m (X11_later  x1 x2 m) := by
  rw [X11_later]
  refine V.aload_n (pc := 0) C dX11_later_0 0 rfl ?_
  refine V.getr (pc := 1) C fl_RX11_38 sX0 (kX0 hN) rfl rX0_6 dX11_later_1 ?_
  refine V.iload_n (pc := 4) C dX11_later_4 1 rfl ?_
  refine V.callV (pc := 5) (st := []) C (c_X10_isPerson l hN 25 (iX25 hN) x1 m) obI ck_X10_isPerson ml_RX11_123 rfl rfl sX25 (kX25 hN) rfl rfl (Nat.le_of_ble_eq_true rfl) ⟨by decide, by decide⟩ dX11_later_5 (fun r_1 m_2 _ => ?_)
  refine V.if_ne (pc := 8) C dX11_later_8 14 (by decide) (fun _ => ?_) (fun _ => ?_)
  · refine V.iload_n (pc := 14) C dX11_later_14 2 rfl ?_
    refine V.if_lt (pc := 15) C dX11_later_15 24 (by decide) (fun _ => ?_) (fun _ => ?_)
    · refine V.bipush (pc := 24) C dX11_later_24 (v := (-3)) (by decide) ?_
      exact V.iret C dX11_later_26
    · refine V.iload_n (pc := 18) C dX11_later_18 2 rfl ?_
      refine V.bipush (pc := 19) C dX11_later_19 (v := 60) (by decide) ?_
      refine V.icmp_le (pc := 21) C dX11_later_21 27 (by decide) (fun _ => ?_) (fun _ => ?_)
      · refine V.aload_n (pc := 27) C dX11_later_27 0 rfl ?_
        refine V.getr (pc := 28) C fl_RX11_42 sX0 (kX0 hN) rfl rX0_7 dX11_later_28 ?_
        refine V.getr (pc := 31) C fl_RX11_108 sX32 (kX32 hN) rfl rX32_2 dX11_later_31 ?_
        refine V.aload_n (pc := 34) C dX11_later_34 0 rfl ?_
        refine V.getr (pc := 35) C fl_RX11_38 sX0 (kX0 hN) rfl rX0_6 dX11_later_35 ?_
        refine V.getr (pc := 38) C fl_RX11_108 sX25 (kX25 hN) rfl rX25_2 dX11_later_38 ?_
        refine V.callV (pc := 41) (st := []) C (c_X5_become l hN 33 (iX33 hN) 26 (iX26 hN) m_2) obV ck_X5_become ml_RX11_111 rfl rfl sX33 (kX33 hN) rfl rfl (Nat.le_of_ble_eq_true rfl) ⟨by decide, by decide⟩ dX11_later_41 (fun r_3 m_4 _ => ?_)
        refine V.iconst (pc := 44) C dX11_later_44 (v := 0) (by decide) ?_
        refine V.istore_n (pc := 45) C dX11_later_45 (L2 := [(3, .int 0), (0, .ref 0), (1, .int x1), (2, .int x2)]) (by decide) rfl ?_
        refine V.wk [1, 2, 3, 0] rfl ?_
        exact v_X11_later_b46 C hN FU x1 x2 0 m_4
      · refine V.bipush (pc := 24) C dX11_later_24 (v := (-3)) (by decide) ?_
        exact V.iret C dX11_later_26
  · refine V.bipush (pc := 11) C dX11_later_11 (v := (-2)) (by decide) ?_
    exact V.iret C dX11_later_13
theorem c_X11_later (l : Launch) {N : Nat} (hN : 109 ≤ N) (x1 : Int32) (x2 : Int32) (m : Mem) : Ct l yX11_later cX11_later 4 (some .int) 7 SX oI N N RX RX [.ref 0, .int x1, .int x2] m (X11_later  x1 x2 m) :=
  Ct.of (own := RX11) (nm := "later") (by decide) rfl rfl (Nat.le_of_ble_eq_true rfl) (fun _ _ _ _ _ _ _ _ _ _ _ C => v_X11_later C hN x1 x2 m)
theorem dX6_joins_0 : decode cX6_joins 0 = .ok (.aload_n 0, 1) := by decide +kernel
theorem dX6_joins_1 : decode cX6_joins 1 = .ok (.iload_n 1, 1) := by decide +kernel
theorem dX6_joins_2 : decode cX6_joins 2 = .ok (.invokevirtual 67, 3) := by decide +kernel
theorem dX6_joins_5 : decode cX6_joins 5 = .ok (.aload_n 0, 1) := by decide +kernel
theorem dX6_joins_6 : decode cX6_joins 6 = .ok (.getfield 25, 3) := by decide +kernel
theorem dX6_joins_9 : decode cX6_joins 9 = .ok (.iload_n 2, 1) := by decide +kernel
theorem dX6_joins_10 : decode cX6_joins 10 = .ok (.iaload, 1) := by decide +kernel
theorem dX6_joins_11 : decode cX6_joins 11 = .ok (.iload_n 3, 1) := by decide +kernel
theorem dX6_joins_12 : decode cX6_joins 12 = .ok (.if_icmp .ne 7, 3) := by decide +kernel
theorem dX6_joins_15 : decode cX6_joins 15 = .ok (.iconst 1, 1) := by decide +kernel
theorem dX6_joins_16 : decode cX6_joins 16 = .ok (.goto 4, 3) := by decide +kernel
theorem dX6_joins_19 : decode cX6_joins 19 = .ok (.iconst 0, 1) := by decide +kernel
theorem dX6_joins_20 : decode cX6_joins 20 = .ok (.ireturn, 1) := by decide +kernel
set_option maxRecDepth 100000 in
set_option maxHeartbeats 4000000 in
theorem v_X6_joins {l : Launch} {p : Program} {e : Env} {s : State} {mt : MethodId} {args : Array Value} {below : List Frame} {meth : Method} {c : Code} {A : Nat → Prop} {ad0 : Nat → Nat} {G : Gt} {N : Nat} (C : Cx G p s mt args meth c RX6 cX6_joins 4 (some .boolean) "joins" A) (hN : 109 ≤ N) (x1 : Int32) (x2 : Int32) (x3 : Int32) (m : Mem) : V G SX oI l p e s mt args below meth c 4 3 A ad0 N N RX N RX 0 [(0, .ref 90), (1, .int x1), (2, .int x2), (3, .int x3)] [] m (X6_joins  x1 x2 x3 m) := by
  rw [X6_joins]
  refine V.aload_n (pc := 0) C dX6_joins_0 0 rfl ?_
  refine V.iload_n (pc := 1) C dX6_joins_1 1 rfl ?_
  refine V.callV (pc := 2) (st := []) C (c_X6_follow l hN x1 m) obV ck_X6_follow ml_RX6_67 rfl rfl sX90 (kX90 hN) rfl rfl (Nat.le_of_ble_eq_true rfl) ⟨by decide, by decide⟩ dX6_joins_2 (fun r_1 m_2 _ => ?_)
  refine V.aload_n (pc := 5) C dX6_joins_5 0 rfl ?_
  refine V.getr (pc := 6) C fl_RX6_25 sX90 (kX90 hN) rfl rX90_5 dX6_joins_6 ?_
  refine V.iload_n (pc := 9) C dX6_joins_9 2 rfl ?_
  refine V.iald (pc := 10) C sX95 (kX95 hN) dX6_joins_10 (fun _ => ?_)
  refine V.iload_n (pc := 11) C dX6_joins_11 3 rfl ?_
  refine V.icmp_ne (pc := 12) C dX6_joins_12 19 (by decide) (fun _ => ?_) (fun _ => ?_)
  · refine V.iconst (pc := 19) C dX6_joins_19 (v := 0) (by decide) ?_
    exact V.zret rfl C dX6_joins_20
  · refine V.iconst (pc := 15) C dX6_joins_15 (v := 1) (by decide) ?_
    refine V.goto (pc := 16) C dX6_joins_16 20 (by decide) ?_
    exact V.zret rfl C dX6_joins_20
theorem c_X6_joins (l : Launch) {N : Nat} (hN : 109 ≤ N) (x1 : Int32) (x2 : Int32) (x3 : Int32) (m : Mem) : Ct l yX6_joins cX6_joins 4 (some .boolean) 3 SX oI N N RX RX [.ref 90, .int x1, .int x2, .int x3] m (X6_joins  x1 x2 x3 m) :=
  Ct.of (own := RX6) (nm := "joins") (by decide) rfl rfl (Nat.le_of_ble_eq_true rfl) (fun _ _ _ _ _ _ _ _ _ _ _ C => v_X6_joins C hN x1 x2 x3 m)
