theorem dX7_readThing_0 : decode cX7_readThing 0 = .ok (.aload_n 0, 1) := by decide +kernel
theorem dX7_readThing_1 : decode cX7_readThing 1 = .ok (.getfield 15, 3) := by decide +kernel
theorem dX7_readThing_4 : decode cX7_readThing 4 = .ok (.getfield 120, 3) := by decide +kernel
theorem dX7_readThing_7 : decode cX7_readThing 7 = .ok (.istore_n 1, 1) := by decide +kernel
theorem dX7_readThing_8 : decode cX7_readThing 8 = .ok (.iload_n 1, 1) := by decide +kernel
theorem dX7_readThing_9 : decode cX7_readThing 9 = .ok (.bipush 14, 2) := by decide +kernel
theorem dX7_readThing_11 : decode cX7_readThing 11 = .ok (.if_icmp .lt 9, 3) := by decide +kernel
theorem dX7_readThing_14 : decode cX7_readThing 14 = .ok (.aload_n 0, 1) := by decide +kernel
theorem dX7_readThing_15 : decode cX7_readThing 15 = .ok (.iconst 4, 1) := by decide +kernel
theorem dX7_readThing_16 : decode cX7_readThing 16 = .ok (.invokevirtual 123, 3) := by decide +kernel
theorem dX7_readThing_19 : decode cX7_readThing 19 = .ok (.ireturn, 1) := by decide +kernel
theorem dX7_readThing_20 : decode cX7_readThing 20 = .ok (.aload_n 0, 1) := by decide +kernel
theorem dX7_readThing_21 : decode cX7_readThing 21 = .ok (.invokevirtual 57, 3) := by decide +kernel
theorem dX7_readThing_24 : decode cX7_readThing 24 = .ok (.iconst 0, 1) := by decide +kernel
theorem dX7_readThing_25 : decode cX7_readThing 25 = .ok (.istore_n 2, 1) := by decide +kernel
theorem dX7_readThing_26 : decode cX7_readThing 26 = .ok (.aload_n 0, 1) := by decide +kernel
theorem dX7_readThing_27 : decode cX7_readThing 27 = .ok (.ldc 126, 2) := by decide +kernel
theorem dX7_readThing_29 : decode cX7_readThing 29 = .ok (.invokevirtual 76, 3) := by decide +kernel
theorem dX7_readThing_32 : decode cX7_readThing 32 = .ok (.ifCond .eq 15, 3) := by decide +kernel
theorem dX7_readThing_35 : decode cX7_readThing 35 = .ok (.aload_n 0, 1) := by decide +kernel
theorem dX7_readThing_36 : decode cX7_readThing 36 = .ok (.invokevirtual 57, 3) := by decide +kernel
theorem dX7_readThing_39 : decode cX7_readThing 39 = .ok (.aload_n 0, 1) := by decide +kernel
theorem dX7_readThing_40 : decode cX7_readThing 40 = .ok (.iconst 1, 1) := by decide +kernel
theorem dX7_readThing_41 : decode cX7_readThing 41 = .ok (.bipush 99, 2) := by decide +kernel
theorem dX7_readThing_43 : decode cX7_readThing 43 = .ok (.invokevirtual 108, 3) := by decide +kernel
theorem dX7_readThing_46 : decode cX7_readThing 46 = .ok (.istore_n 2, 1) := by decide +kernel
theorem dX7_readThing_47 : decode cX7_readThing 47 = .ok (.aload_n 0, 1) := by decide +kernel
theorem dX7_readThing_48 : decode cX7_readThing 48 = .ok (.getfield 15, 3) := by decide +kernel
theorem dX7_readThing_51 : decode cX7_readThing 51 = .ok (.getfield 128, 3) := by decide +kernel
theorem dX7_readThing_54 : decode cX7_readThing 54 = .ok (.iload_n 1, 1) := by decide +kernel
theorem dX7_readThing_55 : decode cX7_readThing 55 = .ok (.iload_n 2, 1) := by decide +kernel
theorem dX7_readThing_56 : decode cX7_readThing 56 = .ok (.iastore, 1) := by decide +kernel
theorem dX7_readThing_57 : decode cX7_readThing 57 = .ok (.aload_n 0, 1) := by decide +kernel
theorem dX7_readThing_58 : decode cX7_readThing 58 = .ok (.getfield 15, 3) := by decide +kernel
theorem dX7_readThing_61 : decode cX7_readThing 61 = .ok (.dup, 1) := by decide +kernel
theorem dX7_readThing_62 : decode cX7_readThing 62 = .ok (.getfield 120, 3) := by decide +kernel
theorem dX7_readThing_65 : decode cX7_readThing 65 = .ok (.iconst 1, 1) := by decide +kernel
theorem dX7_readThing_66 : decode cX7_readThing 66 = .ok (.iadd, 1) := by decide +kernel
theorem dX7_readThing_67 : decode cX7_readThing 67 = .ok (.putfield 120, 3) := by decide +kernel
theorem dX7_readThing_70 : decode cX7_readThing 70 = .ok (.aload_n 0, 1) := by decide +kernel
theorem dX7_readThing_71 : decode cX7_readThing 71 = .ok (.getfield 45, 3) := by decide +kernel
theorem dX7_readThing_74 : decode cX7_readThing 74 = .ok (.ifCond .ne 7, 3) := by decide +kernel
theorem dX7_readThing_77 : decode cX7_readThing 77 = .ok (.iconst 1, 1) := by decide +kernel
theorem dX7_readThing_78 : decode cX7_readThing 78 = .ok (.goto 4, 3) := by decide +kernel
theorem dX7_readThing_81 : decode cX7_readThing 81 = .ok (.iconst 0, 1) := by decide +kernel
theorem dX7_readThing_82 : decode cX7_readThing 82 = .ok (.ireturn, 1) := by decide +kernel
set_option maxRecDepth 100000 in
set_option maxHeartbeats 4000000 in
theorem v_X7_readThing_b47 {l : Launch} {p : Program} {e : Env} {s : State} {mt : MethodId} {args : Array Value} {below : List Frame} {meth : Method} {c : Code} {A : Nat → Prop} {ad0 : Nat → Nat} {G : Gt} {N : Nat} (C : Cx G p s mt args meth c RX7 cX7_readThing 3 (some .boolean) "readThing" A) (hN : 109 ≤ N) (y1 : Int32) (y2 : Int32) (m : Mem) : V G SX oI l p e s mt args below meth c 3 7 A ad0 N N RX N RX 47 [(0, .ref 39), (1, .int y1), (2, .int y2)] [] m (X7_readThing_b47  y1 y2 m) := by
  rw [X7_readThing_b47]
  refine V.aload_n (pc := 47) C dX7_readThing_47 0 rfl ?_
  refine V.getr (pc := 48) C fl_RX7_15 sX39 (kX39 hN) rfl rX39_1 dX7_readThing_48 ?_
  refine V.getr (pc := 51) C fl_RX7_128 sX9 (kX9 hN) rfl rX9_5 dX7_readThing_51 ?_
  refine V.iload_n (pc := 54) C dX7_readThing_54 1 rfl ?_
  refine V.iload_n (pc := 55) C dX7_readThing_55 2 rfl ?_
  refine V.iast (pc := 56) C sX10 (kX10 hN) dX7_readThing_56 (fun _ => ?_)
  refine V.ltm (fun m_6 => ?_)
  refine V.aload_n (pc := 57) C dX7_readThing_57 0 rfl ?_
  refine V.getr (pc := 58) C fl_RX7_15 sX39 (kX39 hN) rfl rX39_1 dX7_readThing_58 ?_
  refine V.dup (pc := 61) C dX7_readThing_61 rfl ?_
  refine V.geti (pc := 62) C fl_RX7_120 sX9 (kX9 hN) rfl dX7_readThing_62 ?_
  refine V.iconst (pc := 65) C dX7_readThing_65 (v := 1) (by decide) ?_
  refine V.iadd (pc := 66) C dX7_readThing_66 ?_
  refine V.puti (pc := 67) C fp_RX7_120 sX9 (kX9 hN) rfl dX7_readThing_67 ?_
  refine V.ltm (fun m_7 => ?_)
  refine V.aload_n (pc := 70) C dX7_readThing_70 0 rfl ?_
  refine V.geti (pc := 71) C fl_RX7_45 sX39 (kX39 hN) rfl dX7_readThing_71 ?_
  refine V.if_ne (pc := 74) C dX7_readThing_74 81 (by decide) (fun _ => ?_) (fun _ => ?_)
  · refine V.iconst (pc := 81) C dX7_readThing_81 (v := 0) (by decide) ?_
    exact V.zret rfl C dX7_readThing_82
  · refine V.iconst (pc := 77) C dX7_readThing_77 (v := 1) (by decide) ?_
    refine V.goto (pc := 78) C dX7_readThing_78 82 (by decide) ?_
    exact V.zret rfl C dX7_readThing_82
set_option maxRecDepth 100000 in
set_option maxHeartbeats 4000000 in
theorem v_X7_readThing {l : Launch} {p : Program} {e : Env} {s : State} {mt : MethodId} {args : Array Value} {below : List Frame} {meth : Method} {c : Code} {A : Nat → Prop} {ad0 : Nat → Nat} {G : Gt} {N : Nat} (C : Cx G p s mt args meth c RX7 cX7_readThing 3 (some .boolean) "readThing" A) (hN : 109 ≤ N) (m : Mem) : V G SX oI l p e s mt args below meth c 3 7 A ad0 N N RX N RX 0 [(0, .ref 39)] [] m (X7_readThing   m) := by
  rw [X7_readThing]
  refine V.aload_n (pc := 0) C dX7_readThing_0 0 rfl ?_
  refine V.getr (pc := 1) C fl_RX7_15 sX39 (kX39 hN) rfl rX39_1 dX7_readThing_1 ?_
  refine V.geti (pc := 4) C fl_RX7_120 sX9 (kX9 hN) rfl dX7_readThing_4 ?_
  refine V.lti (fun x_1 _ => ?_)
  refine V.istore_n (pc := 7) C dX7_readThing_7 (L2 := [(1, .int x_1), (0, .ref 39)]) (by decide) rfl ?_
  refine V.iload_n (pc := 8) C dX7_readThing_8 0 rfl ?_
  refine V.bipush (pc := 9) C dX7_readThing_9 (v := 14) (by decide) ?_
  refine V.icmp_lt (pc := 11) C dX7_readThing_11 20 (by decide) (fun _ => ?_) (fun _ => ?_)
  · refine V.aload_n (pc := 20) C dX7_readThing_20 1 rfl ?_
    refine V.callV (pc := 21) (st := []) C (c_X7_next l hN m) obV ck_X7_next ml_RX7_57 rfl rfl sX39 (kX39 hN) rfl rfl (Nat.le_of_ble_eq_true rfl) ⟨by decide, by decide⟩ dX7_readThing_21 (fun r_2 m_3 _ => ?_)
    refine V.iconst (pc := 24) C dX7_readThing_24 (v := 0) (by decide) ?_
    refine V.istore_n (pc := 25) C dX7_readThing_25 (L2 := [(2, .int 0), (1, .int x_1), (0, .ref 39)]) (by decide) rfl ?_
    refine V.aload_n (pc := 26) C dX7_readThing_26 2 rfl ?_
    refine V.ldcs (pc := 27) (k := 2) C (by decide) (by decide) dX7_readThing_27 ?_
    refine V.callV (pc := 29) (st := []) C (c_X7_isWord l hN 2 (by decide) m_3) obI ck_X7_isWord ml_RX7_76 rfl rfl sX39 (kX39 hN) rfl rfl (Nat.le_of_ble_eq_true rfl) ⟨by decide, by decide⟩ dX7_readThing_29 (fun r_4 m_5 _ => ?_)
    refine V.if_eq (pc := 32) C dX7_readThing_32 47 (by decide) (fun _ => ?_) (fun _ => ?_)
    · refine V.wk [2, 1, 0] rfl ?_
      exact v_X7_readThing_b47 C hN x_1 0 m_5
    · refine V.aload_n (pc := 35) C dX7_readThing_35 2 rfl ?_
      refine V.callV (pc := 36) (st := []) C (c_X7_next l hN m_5) obV ck_X7_next ml_RX7_57 rfl rfl sX39 (kX39 hN) rfl rfl (Nat.le_of_ble_eq_true rfl) ⟨by decide, by decide⟩ dX7_readThing_36 (fun r_8 m_9 _ => ?_)
      refine V.aload_n (pc := 39) C dX7_readThing_39 2 rfl ?_
      refine V.iconst (pc := 40) C dX7_readThing_40 (v := 1) (by decide) ?_
      refine V.bipush (pc := 41) C dX7_readThing_41 (v := 99) (by decide) ?_
      refine V.callV (pc := 43) (st := []) C (c_X7_readNumber l hN 1 99 m_9) obI ck_X7_readNumber ml_RX7_108 rfl rfl sX39 (kX39 hN) rfl rfl (Nat.le_of_ble_eq_true rfl) ⟨by decide, by decide⟩ dX7_readThing_43 (fun r_10 m_11 _ => ?_)
      refine V.istore_n (pc := 46) C dX7_readThing_46 (L2 := [(2, .int r_10), (1, .int x_1), (0, .ref 39)]) (by decide) rfl ?_
      refine V.wk [2, 1, 0] rfl ?_
      exact v_X7_readThing_b47 C hN x_1 r_10 m_11
  · refine V.aload_n (pc := 14) C dX7_readThing_14 1 rfl ?_
    refine V.iconst (pc := 15) C dX7_readThing_15 (v := 4) (by decide) ?_
    refine V.callV (pc := 16) (st := []) C (c_X7_blame l hN 4 m) obI ck_X7_blame ml_RX7_123 rfl rfl sX39 (kX39 hN) rfl rfl (Nat.le_of_ble_eq_true rfl) ⟨by decide, by decide⟩ dX7_readThing_16 (fun r_12 m_13 _ => ?_)
    exact V.bret C dX7_readThing_19
theorem c_X7_readThing (l : Launch) {N : Nat} (hN : 109 ≤ N) (m : Mem) : Ct l yX7_readThing cX7_readThing 3 (some .boolean) 7 SX oI N N RX RX [.ref 39] m (X7_readThing   m) :=
  Ct.of (own := RX7) (nm := "readThing") (by decide) rfl rfl (Nat.le_of_ble_eq_true rfl) (fun _ _ _ _ _ _ _ _ _ _ _ C => v_X7_readThing C hN  m)
theorem dX7_passWord_0 : decode cX7_passWord 0 = .ok (.aload_n 0, 1) := by decide +kernel
theorem dX7_passWord_1 : decode cX7_passWord 1 = .ok (.aload_n 1, 1) := by decide +kernel
theorem dX7_passWord_2 : decode cX7_passWord 2 = .ok (.invokevirtual 76, 3) := by decide +kernel
theorem dX7_passWord_5 : decode cX7_passWord 5 = .ok (.ifCond .ne 8, 3) := by decide +kernel
theorem dX7_passWord_8 : decode cX7_passWord 8 = .ok (.aload_n 0, 1) := by decide +kernel
theorem dX7_passWord_9 : decode cX7_passWord 9 = .ok (.invokevirtual 117, 3) := by decide +kernel
theorem dX7_passWord_12 : decode cX7_passWord 12 = .ok (.ireturn, 1) := by decide +kernel
theorem dX7_passWord_13 : decode cX7_passWord 13 = .ok (.aload_n 0, 1) := by decide +kernel
theorem dX7_passWord_14 : decode cX7_passWord 14 = .ok (.invokevirtual 57, 3) := by decide +kernel
theorem dX7_passWord_17 : decode cX7_passWord 17 = .ok (.iconst 1, 1) := by decide +kernel
theorem dX7_passWord_18 : decode cX7_passWord 18 = .ok (.ireturn, 1) := by decide +kernel
set_option maxRecDepth 100000 in
set_option maxHeartbeats 4000000 in
theorem v_X7_passWord {l : Launch} {p : Program} {e : Env} {s : State} {mt : MethodId} {args : Array Value} {below : List Frame} {meth : Method} {c : Code} {A : Nat → Prop} {ad0 : Nat → Nat} {G : Gt} {N : Nat} (C : Cx G p s mt args meth c RX7 cX7_passWord 2 (some .boolean) "passWord" A) (hN : 109 ≤ N) (k1 : Nat) (hk1 : k1 < 22) (m : Mem) : V G SX oI l p e s mt args below meth c 2 6 A ad0 N N RX N RX 0 [(0, .ref 39), (1, .retAddr k1)] [] m (X7_passWord k1  m) := by
  rw [X7_passWord]
  refine V.aload_n (pc := 0) C dX7_passWord_0 0 rfl ?_
  refine V.sload_n (pc := 1) C dX7_passWord_1 1 rfl ?_
  refine V.callV (pc := 2) (st := []) C (c_X7_isWord l hN k1 hk1 m) obI ck_X7_isWord ml_RX7_76 rfl rfl sX39 (kX39 hN) rfl rfl (Nat.le_of_ble_eq_true rfl) ⟨by decide, by decide⟩ dX7_passWord_2 (fun r_1 m_2 _ => ?_)
  refine V.if_ne (pc := 5) C dX7_passWord_5 13 (by decide) (fun _ => ?_) (fun _ => ?_)
  · refine V.aload_n (pc := 13) C dX7_passWord_13 0 rfl ?_
    refine V.callV (pc := 14) (st := []) C (c_X7_next l hN m_2) obV ck_X7_next ml_RX7_57 rfl rfl sX39 (kX39 hN) rfl rfl (Nat.le_of_ble_eq_true rfl) ⟨by decide, by decide⟩ dX7_passWord_14 (fun r_3 m_4 _ => ?_)
    refine V.iconst (pc := 17) C dX7_passWord_17 (v := 1) (by decide) ?_
    exact V.zret rfl C dX7_passWord_18
  · refine V.aload_n (pc := 8) C dX7_passWord_8 0 rfl ?_
    refine V.callV (pc := 9) (st := []) C (c_X7_refuse l hN m_2) obI ck_X7_refuse ml_RX7_117 rfl rfl sX39 (kX39 hN) rfl rfl (Nat.le_of_ble_eq_true rfl) ⟨by decide, by decide⟩ dX7_passWord_9 (fun r_5 m_6 _ => ?_)
    exact V.bret C dX7_passWord_12
theorem c_X7_passWord (l : Launch) {N : Nat} (hN : 109 ≤ N) (k1 : Nat) (hk1 : k1 < 22) (m : Mem) : Ct l yX7_passWord cX7_passWord 2 (some .boolean) 6 SX oI N N RX RX [.ref 39, .retAddr k1] m (X7_passWord k1  m) :=
  Ct.of (own := RX7) (nm := "passWord") (by decide) rfl rfl (Nat.le_of_ble_eq_true rfl) (fun _ _ _ _ _ _ _ _ _ _ _ C => v_X7_passWord C hN k1 hk1  m)
theorem dX7_readThings_0 : decode cX7_readThings 0 = .ok (.iconst 0, 1) := by decide +kernel
theorem dX7_readThings_1 : decode cX7_readThings 1 = .ok (.istore_n 1, 1) := by decide +kernel
theorem dX7_readThings_2 : decode cX7_readThings 2 = .ok (.aload_n 0, 1) := by decide +kernel
theorem dX7_readThings_3 : decode cX7_readThings 3 = .ok (.invokevirtual 57, 3) := by decide +kernel
theorem dX7_readThings_6 : decode cX7_readThings 6 = .ok (.iconst 0, 1) := by decide +kernel
theorem dX7_readThings_7 : decode cX7_readThings 7 = .ok (.istore_n 2, 1) := by decide +kernel
theorem dX7_readThings_8 : decode cX7_readThings 8 = .ok (.iload_n 2, 1) := by decide +kernel
theorem dX7_readThings_9 : decode cX7_readThings 9 = .ok (.sipush 900, 3) := by decide +kernel
theorem dX7_readThings_12 : decode cX7_readThings 12 = .ok (.if_icmp .gt 53, 3) := by decide +kernel
theorem dX7_readThings_15 : decode cX7_readThings 15 = .ok (.aload_n 0, 1) := by decide +kernel
theorem dX7_readThings_16 : decode cX7_readThings 16 = .ok (.getfield 45, 3) := by decide +kernel
theorem dX7_readThings_19 : decode cX7_readThings 19 = .ok (.ifCond .ne 46, 3) := by decide +kernel
theorem dX7_readThings_22 : decode cX7_readThings 22 = .ok (.iload_n 2, 1) := by decide +kernel
theorem dX7_readThings_23 : decode cX7_readThings 23 = .ok (.ifCond .eq 11, 3) := by decide +kernel
theorem dX7_readThings_26 : decode cX7_readThings 26 = .ok (.aload_n 0, 1) := by decide +kernel
theorem dX7_readThings_27 : decode cX7_readThings 27 = .ok (.getfield 60, 3) := by decide +kernel
theorem dX7_readThings_30 : decode cX7_readThings 30 = .ok (.iconst 2, 1) := by decide +kernel
theorem dX7_readThings_31 : decode cX7_readThings 31 = .ok (.if_icmp .ne 34, 3) := by decide +kernel
theorem dX7_readThings_34 : decode cX7_readThings 34 = .ok (.aload_n 0, 1) := by decide +kernel
theorem dX7_readThings_35 : decode cX7_readThings 35 = .ok (.iconst 0, 1) := by decide +kernel
theorem dX7_readThings_36 : decode cX7_readThings 36 = .ok (.aload_n 0, 1) := by decide +kernel
theorem dX7_readThings_37 : decode cX7_readThings 37 = .ok (.getfield 15, 3) := by decide +kernel
theorem dX7_readThings_40 : decode cX7_readThings 40 = .ok (.getfield 120, 3) := by decide +kernel
theorem dX7_readThings_43 : decode cX7_readThings 43 = .ok (.iconst 1, 1) := by decide +kernel
theorem dX7_readThings_44 : decode cX7_readThings 44 = .ok (.isub, 1) := by decide +kernel
theorem dX7_readThings_45 : decode cX7_readThings 45 = .ok (.invokevirtual 108, 3) := by decide +kernel
theorem dX7_readThings_48 : decode cX7_readThings 48 = .ok (.istore_n 3, 1) := by decide +kernel
theorem dX7_readThings_49 : decode cX7_readThings 49 = .ok (.iload_n 3, 1) := by decide +kernel
theorem dX7_readThings_50 : decode cX7_readThings 50 = .ok (.ifCond .lt 9, 3) := by decide +kernel
theorem dX7_readThings_53 : decode cX7_readThings 53 = .ok (.iload_n 1, 1) := by decide +kernel
theorem dX7_readThings_54 : decode cX7_readThings 54 = .ok (.iconst 1, 1) := by decide +kernel
theorem dX7_readThings_55 : decode cX7_readThings 55 = .ok (.iload_n 3, 1) := by decide +kernel
theorem dX7_readThings_56 : decode cX7_readThings 56 = .ok (.ishl, 1) := by decide +kernel
theorem dX7_readThings_57 : decode cX7_readThings 57 = .ok (.ior, 1) := by decide +kernel
theorem dX7_readThings_58 : decode cX7_readThings 58 = .ok (.istore_n 1, 1) := by decide +kernel
theorem dX7_readThings_59 : decode cX7_readThings 59 = .ok (.iinc 2 1, 3) := by decide +kernel
theorem dX7_readThings_62 : decode cX7_readThings 62 = .ok (.goto (-54), 3) := by decide +kernel
theorem dX7_readThings_65 : decode cX7_readThings 65 = .ok (.iload_n 1, 1) := by decide +kernel
theorem dX7_readThings_66 : decode cX7_readThings 66 = .ok (.ireturn, 1) := by decide +kernel
set_option maxRecDepth 100000 in
set_option maxHeartbeats 4000000 in
theorem v_X7_readThings_b34 {l : Launch} {p : Program} {e : Env} {s : State} {mt : MethodId} {args : Array Value} {below : List Frame} {meth : Method} {c : Code} {A : Nat → Prop} {ad0 : Nat → Nat} {G : Gt} {N : Nat} (C : Cx G p s mt args meth c RX7 cX7_readThings 4 (some .int) "readThings" A) (hN : 109 ≤ N) (k8 : Int32 → Int32 → Mem → Option (Int32 × Mem)) (h8 : ∀ (y1 : Int32) (y2 : Int32) (m : Mem), V G SX oI l p e s mt args below meth c 4 7 A ad0 N N RX N RX 8 [(0, .ref 39), (1, .int y1), (2, .int y2)] [] m (k8 y1 y2 m)) (y1 : Int32) (y2 : Int32) (m : Mem) : V G SX oI l p e s mt args below meth c 4 7 A ad0 N N RX N RX 34 [(0, .ref 39), (1, .int y1), (2, .int y2)] [] m (X7_readThings_b34 k8 y1 y2 m) := by
  rw [X7_readThings_b34]
  refine V.aload_n (pc := 34) C dX7_readThings_34 0 rfl ?_
  refine V.iconst (pc := 35) C dX7_readThings_35 (v := 0) (by decide) ?_
  refine V.aload_n (pc := 36) C dX7_readThings_36 0 rfl ?_
  refine V.getr (pc := 37) C fl_RX7_15 sX39 (kX39 hN) rfl rX39_1 dX7_readThings_37 ?_
  refine V.geti (pc := 40) C fl_RX7_120 sX9 (kX9 hN) rfl dX7_readThings_40 ?_
  refine V.iconst (pc := 43) C dX7_readThings_43 (v := 1) (by decide) ?_
  refine V.isub (pc := 44) C dX7_readThings_44 ?_
  refine V.callV (pc := 45) (st := []) C (c_X7_readNumber l hN 0 ((gi m 9 0) - 1) m) obI ck_X7_readNumber ml_RX7_108 rfl rfl sX39 (kX39 hN) rfl rfl (Nat.le_of_ble_eq_true rfl) ⟨by decide, by decide⟩ dX7_readThings_45 (fun r_3 m_4 _ => ?_)
  refine V.istore_n (pc := 48) C dX7_readThings_48 (L2 := [(3, .int r_3), (0, .ref 39), (1, .int y1), (2, .int y2)]) (by decide) rfl ?_
  refine V.iload_n (pc := 49) C dX7_readThings_49 0 rfl ?_
  refine V.if_lt (pc := 50) C dX7_readThings_50 59 (by decide) (fun _ => ?_) (fun _ => ?_)
  · refine V.iinc (pc := 59) C dX7_readThings_59 (v := 1) (L2 := [(2, .int (y2 + 1)), (3, .int r_3), (0, .ref 39), (1, .int y1)]) 3 rfl (by decide) (by decide) rfl ?_
    refine V.goto (pc := 62) C dX7_readThings_62 8 (by decide) ?_
    refine V.wk [2, 3, 0] rfl ?_
    exact h8 y1 (y2 + 1) m_4
  · refine V.iload_n (pc := 53) C dX7_readThings_53 2 rfl ?_
    refine V.iconst (pc := 54) C dX7_readThings_54 (v := 1) (by decide) ?_
    refine V.iload_n (pc := 55) C dX7_readThings_55 0 rfl ?_
    refine V.ishl (pc := 56) C dX7_readThings_56 ?_
    refine V.ior (pc := 57) C dX7_readThings_57 ?_
    refine V.lti (fun x_5 _ => ?_)
    refine V.istore_n (pc := 58) C dX7_readThings_58 (L2 := [(1, .int x_5), (3, .int r_3), (0, .ref 39), (2, .int y2)]) (by decide) rfl ?_
    refine V.iinc (pc := 59) C dX7_readThings_59 (v := 1) (L2 := [(2, .int (y2 + 1)), (1, .int x_5), (3, .int r_3), (0, .ref 39)]) 3 rfl (by decide) (by decide) rfl ?_
    refine V.goto (pc := 62) C dX7_readThings_62 8 (by decide) ?_
    refine V.wk [3, 1, 0] rfl ?_
    exact h8 x_5 (y2 + 1) m_4
set_option maxRecDepth 100000 in
set_option maxHeartbeats 4000000 in
theorem v_X7_readThings_b8 {l : Launch} {p : Program} {e : Env} {s : State} {mt : MethodId} {args : Array Value} {below : List Frame} {meth : Method} {c : Code} {A : Nat → Prop} {ad0 : Nat → Nat} {G : Gt} {N : Nat} (C : Cx G p s mt args meth c RX7 cX7_readThings 4 (some .int) "readThings" A) (hN : 109 ≤ N) : ∀ (n : Nat) (y1 : Int32) (y2 : Int32) (m : Mem), V G SX oI l p e s mt args below meth c 4 7 A ad0 N N RX N RX 8 [(0, .ref 39), (1, .int y1), (2, .int y2)] [] m (X7_readThings_b8  n y1 y2 m) := by
  intro n
  induction n with
  | zero =>
    intro y1 y2 m
    rw [X7_readThings_b8]
    exact V.nil
  | succ n ih =>
    intro y1 y2 m
    rw [X7_readThings_b8]
    refine V.iload_n (pc := 8) C dX7_readThings_8 2 rfl ?_
    refine V.sipush (pc := 9) C dX7_readThings_9 (v := 900) (by decide) ?_
    refine V.icmp_gt (pc := 12) C dX7_readThings_12 65 (by decide) (fun _ => ?_) (fun _ => ?_)
    · refine V.iload_n (pc := 65) C dX7_readThings_65 1 rfl ?_
      exact V.iret C dX7_readThings_66
    · refine V.aload_n (pc := 15) C dX7_readThings_15 0 rfl ?_
      refine V.geti (pc := 16) C fl_RX7_45 sX39 (kX39 hN) rfl dX7_readThings_16 ?_
      refine V.if_ne (pc := 19) C dX7_readThings_19 65 (by decide) (fun _ => ?_) (fun _ => ?_)
      · refine V.iload_n (pc := 65) C dX7_readThings_65 1 rfl ?_
        exact V.iret C dX7_readThings_66
      · refine V.iload_n (pc := 22) C dX7_readThings_22 2 rfl ?_
        refine V.if_eq (pc := 23) C dX7_readThings_23 34 (by decide) (fun _ => ?_) (fun _ => ?_)
        · refine V.wk [0, 1, 2] rfl ?_
          exact v_X7_readThings_b34 C hN (X7_readThings_b8 n) ih y1 y2 m
        · refine V.aload_n (pc := 26) C dX7_readThings_26 0 rfl ?_
          refine V.geti (pc := 27) C fl_RX7_60 sX39 (kX39 hN) rfl dX7_readThings_27 ?_
          refine V.iconst (pc := 30) C dX7_readThings_30 (v := 2) (by decide) ?_
          refine V.icmp_ne (pc := 31) C dX7_readThings_31 65 (by decide) (fun _ => ?_) (fun _ => ?_)
          · refine V.iload_n (pc := 65) C dX7_readThings_65 1 rfl ?_
            exact V.iret C dX7_readThings_66
          · refine V.wk [0, 1, 2] rfl ?_
            exact v_X7_readThings_b34 C hN (X7_readThings_b8 n) ih y1 y2 m
set_option maxRecDepth 100000 in
set_option maxHeartbeats 4000000 in
theorem v_X7_readThings {l : Launch} {p : Program} {e : Env} {s : State} {mt : MethodId} {args : Array Value} {below : List Frame} {meth : Method} {c : Code} {A : Nat → Prop} {ad0 : Nat → Nat} {G : Gt} {N : Nat} (C : Cx G p s mt args meth c RX7 cX7_readThings 4 (some .int) "readThings" A) (hN : 109 ≤ N) (m : Mem) : V G SX oI l p e s mt args below meth c 4 7 A ad0 N N RX N RX 0 [(0, .ref 39)] [] m (X7_readThings   m) := by
  rw [X7_readThings]
  refine V.iconst (pc := 0) C dX7_readThings_0 (v := 0) (by decide) ?_
  refine V.istore_n (pc := 1) C dX7_readThings_1 (L2 := [(1, .int 0), (0, .ref 39)]) (by decide) rfl ?_
  refine V.aload_n (pc := 2) C dX7_readThings_2 1 rfl ?_
  refine V.callV (pc := 3) (st := []) C (c_X7_next l hN m) obV ck_X7_next ml_RX7_57 rfl rfl sX39 (kX39 hN) rfl rfl (Nat.le_of_ble_eq_true rfl) ⟨by decide, by decide⟩ dX7_readThings_3 (fun r_1 m_2 _ => ?_)
  refine V.iconst (pc := 6) C dX7_readThings_6 (v := 0) (by decide) ?_
  refine V.istore_n (pc := 7) C dX7_readThings_7 (L2 := [(2, .int 0), (1, .int 0), (0, .ref 39)]) (by decide) rfl ?_
  refine V.wk [2, 1, 0] rfl ?_
  exact v_X7_readThings_b8 C hN FU 0 0 m_2
theorem c_X7_readThings (l : Launch) {N : Nat} (hN : 109 ≤ N) (m : Mem) : Ct l yX7_readThings cX7_readThings 4 (some .int) 7 SX oI N N RX RX [.ref 39] m (X7_readThings   m) :=
  Ct.of (own := RX7) (nm := "readThings") (by decide) rfl rfl (Nat.le_of_ble_eq_true rfl) (fun _ _ _ _ _ _ _ _ _ _ _ C => v_X7_readThings C hN  m)
theorem dX7_readPerson_0 : decode cX7_readPerson 0 = .ok (.aload_n 0, 1) := by decide +kernel
theorem dX7_readPerson_1 : decode cX7_readPerson 1 = .ok (.getfield 15, 3) := by decide +kernel
theorem dX7_readPerson_4 : decode cX7_readPerson 4 = .ok (.getfield 131, 3) := by decide +kernel
theorem dX7_readPerson_7 : decode cX7_readPerson 7 = .ok (.istore_n 1, 1) := by decide +kernel
theorem dX7_readPerson_8 : decode cX7_readPerson 8 = .ok (.iload_n 1, 1) := by decide +kernel
theorem dX7_readPerson_9 : decode cX7_readPerson 9 = .ok (.bipush 8, 2) := by decide +kernel
theorem dX7_readPerson_11 : decode cX7_readPerson 11 = .ok (.if_icmp .lt 9, 3) := by decide +kernel
theorem dX7_readPerson_14 : decode cX7_readPerson 14 = .ok (.aload_n 0, 1) := by decide +kernel
theorem dX7_readPerson_15 : decode cX7_readPerson 15 = .ok (.iconst 4, 1) := by decide +kernel
theorem dX7_readPerson_16 : decode cX7_readPerson 16 = .ok (.invokevirtual 123, 3) := by decide +kernel
theorem dX7_readPerson_19 : decode cX7_readPerson 19 = .ok (.ireturn, 1) := by decide +kernel
theorem dX7_readPerson_20 : decode cX7_readPerson 20 = .ok (.aload_n 0, 1) := by decide +kernel
theorem dX7_readPerson_21 : decode cX7_readPerson 21 = .ok (.invokevirtual 57, 3) := by decide +kernel
theorem dX7_readPerson_24 : decode cX7_readPerson 24 = .ok (.aload_n 0, 1) := by decide +kernel
theorem dX7_readPerson_25 : decode cX7_readPerson 25 = .ok (.ldc 134, 2) := by decide +kernel
theorem dX7_readPerson_27 : decode cX7_readPerson 27 = .ok (.invokevirtual 136, 3) := by decide +kernel
theorem dX7_readPerson_30 : decode cX7_readPerson 30 = .ok (.ifCond .ne 5, 3) := by decide +kernel
theorem dX7_readPerson_33 : decode cX7_readPerson 33 = .ok (.iconst 0, 1) := by decide +kernel
theorem dX7_readPerson_34 : decode cX7_readPerson 34 = .ok (.ireturn, 1) := by decide +kernel
theorem dX7_readPerson_35 : decode cX7_readPerson 35 = .ok (.aload_n 0, 1) := by decide +kernel
theorem dX7_readPerson_36 : decode cX7_readPerson 36 = .ok (.getfield 19, 3) := by decide +kernel
theorem dX7_readPerson_39 : decode cX7_readPerson 39 = .ok (.getfield 139, 3) := by decide +kernel
theorem dX7_readPerson_42 : decode cX7_readPerson 42 = .ok (.iload_n 1, 1) := by decide +kernel
theorem dX7_readPerson_43 : decode cX7_readPerson 43 = .ok (.aload_n 0, 1) := by decide +kernel
theorem dX7_readPerson_44 : decode cX7_readPerson 44 = .ok (.iconst 0, 1) := by decide +kernel
theorem dX7_readPerson_45 : decode cX7_readPerson 45 = .ok (.bipush 99, 2) := by decide +kernel
theorem dX7_readPerson_47 : decode cX7_readPerson 47 = .ok (.invokevirtual 108, 3) := by decide +kernel
theorem dX7_readPerson_50 : decode cX7_readPerson 50 = .ok (.iastore, 1) := by decide +kernel
theorem dX7_readPerson_51 : decode cX7_readPerson 51 = .ok (.aload_n 0, 1) := by decide +kernel
theorem dX7_readPerson_52 : decode cX7_readPerson 52 = .ok (.getfield 15, 3) := by decide +kernel
theorem dX7_readPerson_55 : decode cX7_readPerson 55 = .ok (.getfield 141, 3) := by decide +kernel
theorem dX7_readPerson_58 : decode cX7_readPerson 58 = .ok (.iload_n 1, 1) := by decide +kernel
theorem dX7_readPerson_59 : decode cX7_readPerson 59 = .ok (.iconst 0, 1) := by decide +kernel
theorem dX7_readPerson_60 : decode cX7_readPerson 60 = .ok (.iastore, 1) := by decide +kernel
theorem dX7_readPerson_61 : decode cX7_readPerson 61 = .ok (.aload_n 0, 1) := by decide +kernel
theorem dX7_readPerson_62 : decode cX7_readPerson 62 = .ok (.getfield 45, 3) := by decide +kernel
theorem dX7_readPerson_65 : decode cX7_readPerson 65 = .ok (.ifCond .ne 25, 3) := by decide +kernel
theorem dX7_readPerson_68 : decode cX7_readPerson 68 = .ok (.aload_n 0, 1) := by decide +kernel
theorem dX7_readPerson_69 : decode cX7_readPerson 69 = .ok (.ldc 144, 2) := by decide +kernel
theorem dX7_readPerson_71 : decode cX7_readPerson 71 = .ok (.invokevirtual 76, 3) := by decide +kernel
theorem dX7_readPerson_74 : decode cX7_readPerson 74 = .ok (.ifCond .eq 16, 3) := by decide +kernel
theorem dX7_readPerson_77 : decode cX7_readPerson 77 = .ok (.aload_n 0, 1) := by decide +kernel
theorem dX7_readPerson_78 : decode cX7_readPerson 78 = .ok (.getfield 15, 3) := by decide +kernel
theorem dX7_readPerson_81 : decode cX7_readPerson 81 = .ok (.getfield 141, 3) := by decide +kernel
theorem dX7_readPerson_84 : decode cX7_readPerson 84 = .ok (.iload_n 1, 1) := by decide +kernel
theorem dX7_readPerson_85 : decode cX7_readPerson 85 = .ok (.aload_n 0, 1) := by decide +kernel
theorem dX7_readPerson_86 : decode cX7_readPerson 86 = .ok (.invokevirtual 146, 3) := by decide +kernel
theorem dX7_readPerson_89 : decode cX7_readPerson 89 = .ok (.iastore, 1) := by decide +kernel
theorem dX7_readPerson_90 : decode cX7_readPerson 90 = .ok (.aload_n 0, 1) := by decide +kernel
theorem dX7_readPerson_91 : decode cX7_readPerson 91 = .ok (.getfield 45, 3) := by decide +kernel
theorem dX7_readPerson_94 : decode cX7_readPerson 94 = .ok (.ifCond .ne 54, 3) := by decide +kernel
theorem dX7_readPerson_97 : decode cX7_readPerson 97 = .ok (.aload_n 0, 1) := by decide +kernel
theorem dX7_readPerson_98 : decode cX7_readPerson 98 = .ok (.ldc 150, 2) := by decide +kernel
theorem dX7_readPerson_100 : decode cX7_readPerson 100 = .ok (.invokevirtual 76, 3) := by decide +kernel
theorem dX7_readPerson_103 : decode cX7_readPerson 103 = .ok (.ifCond .eq 45, 3) := by decide +kernel
theorem dX7_readPerson_106 : decode cX7_readPerson 106 = .ok (.aload_n 0, 1) := by decide +kernel
theorem dX7_readPerson_107 : decode cX7_readPerson 107 = .ok (.invokevirtual 146, 3) := by decide +kernel
theorem dX7_readPerson_110 : decode cX7_readPerson 110 = .ok (.istore_n 2, 1) := by decide +kernel
theorem dX7_readPerson_111 : decode cX7_readPerson 111 = .ok (.iconst 0, 1) := by decide +kernel
theorem dX7_readPerson_112 : decode cX7_readPerson 112 = .ok (.istore_n 3, 1) := by decide +kernel
theorem dX7_readPerson_113 : decode cX7_readPerson 113 = .ok (.iload_n 3, 1) := by decide +kernel
theorem dX7_readPerson_114 : decode cX7_readPerson 114 = .ok (.aload_n 0, 1) := by decide +kernel
theorem dX7_readPerson_115 : decode cX7_readPerson 115 = .ok (.getfield 15, 3) := by decide +kernel
theorem dX7_readPerson_118 : decode cX7_readPerson 118 = .ok (.getfield 120, 3) := by decide +kernel
theorem dX7_readPerson_121 : decode cX7_readPerson 121 = .ok (.if_icmp .ge 27, 3) := by decide +kernel
theorem dX7_readPerson_124 : decode cX7_readPerson 124 = .ok (.iload_n 2, 1) := by decide +kernel
theorem dX7_readPerson_125 : decode cX7_readPerson 125 = .ok (.iconst 1, 1) := by decide +kernel
theorem dX7_readPerson_126 : decode cX7_readPerson 126 = .ok (.iload_n 3, 1) := by decide +kernel
theorem dX7_readPerson_127 : decode cX7_readPerson 127 = .ok (.ishl, 1) := by decide +kernel
theorem dX7_readPerson_128 : decode cX7_readPerson 128 = .ok (.iand, 1) := by decide +kernel
theorem dX7_readPerson_129 : decode cX7_readPerson 129 = .ok (.ifCond .eq 13, 3) := by decide +kernel
theorem dX7_readPerson_132 : decode cX7_readPerson 132 = .ok (.aload_n 0, 1) := by decide +kernel
theorem dX7_readPerson_133 : decode cX7_readPerson 133 = .ok (.getfield 19, 3) := by decide +kernel
theorem dX7_readPerson_136 : decode cX7_readPerson 136 = .ok (.iload_n 1, 1) := by decide +kernel
theorem dX7_readPerson_137 : decode cX7_readPerson 137 = .ok (.iload_n 3, 1) := by decide +kernel
theorem dX7_readPerson_138 : decode cX7_readPerson 138 = .ok (.iconst 0, 1) := by decide +kernel
theorem dX7_readPerson_139 : decode cX7_readPerson 139 = .ok (.invokevirtual 152, 3) := by decide +kernel
theorem dX7_readPerson_142 : decode cX7_readPerson 142 = .ok (.iinc 3 1, 3) := by decide +kernel
theorem dX7_readPerson_145 : decode cX7_readPerson 145 = .ok (.goto (-32), 3) := by decide +kernel
theorem dX7_readPerson_148 : decode cX7_readPerson 148 = .ok (.aload_n 0, 1) := by decide +kernel
theorem dX7_readPerson_149 : decode cX7_readPerson 149 = .ok (.getfield 15, 3) := by decide +kernel
theorem dX7_readPerson_152 : decode cX7_readPerson 152 = .ok (.dup, 1) := by decide +kernel
theorem dX7_readPerson_153 : decode cX7_readPerson 153 = .ok (.getfield 131, 3) := by decide +kernel
theorem dX7_readPerson_156 : decode cX7_readPerson 156 = .ok (.iconst 1, 1) := by decide +kernel
theorem dX7_readPerson_157 : decode cX7_readPerson 157 = .ok (.iadd, 1) := by decide +kernel
theorem dX7_readPerson_158 : decode cX7_readPerson 158 = .ok (.putfield 131, 3) := by decide +kernel
theorem dX7_readPerson_161 : decode cX7_readPerson 161 = .ok (.aload_n 0, 1) := by decide +kernel
theorem dX7_readPerson_162 : decode cX7_readPerson 162 = .ok (.getfield 45, 3) := by decide +kernel
theorem dX7_readPerson_165 : decode cX7_readPerson 165 = .ok (.ifCond .ne 7, 3) := by decide +kernel
theorem dX7_readPerson_168 : decode cX7_readPerson 168 = .ok (.iconst 1, 1) := by decide +kernel
theorem dX7_readPerson_169 : decode cX7_readPerson 169 = .ok (.goto 4, 3) := by decide +kernel
theorem dX7_readPerson_172 : decode cX7_readPerson 172 = .ok (.iconst 0, 1) := by decide +kernel
theorem dX7_readPerson_173 : decode cX7_readPerson 173 = .ok (.ireturn, 1) := by decide +kernel
set_option maxRecDepth 100000 in
set_option maxHeartbeats 4000000 in
theorem v_X7_readPerson_b148 {l : Launch} {p : Program} {e : Env} {s : State} {mt : MethodId} {args : Array Value} {below : List Frame} {meth : Method} {c : Code} {A : Nat → Prop} {ad0 : Nat → Nat} {G : Gt} {N : Nat} (C : Cx G p s mt args meth c RX7 cX7_readPerson 4 (some .boolean) "readPerson" A) (hN : 109 ≤ N) (m : Mem) : V G SX oI l p e s mt args below meth c 4 8 A ad0 N N RX N RX 148 [(0, .ref 39)] [] m (X7_readPerson_b148   m) := by
  rw [X7_readPerson_b148]
  refine V.aload_n (pc := 148) C dX7_readPerson_148 0 rfl ?_
  refine V.getr (pc := 149) C fl_RX7_15 sX39 (kX39 hN) rfl rX39_1 dX7_readPerson_149 ?_
  refine V.dup (pc := 152) C dX7_readPerson_152 rfl ?_
  refine V.geti (pc := 153) C fl_RX7_131 sX9 (kX9 hN) rfl dX7_readPerson_153 ?_
  refine V.iconst (pc := 156) C dX7_readPerson_156 (v := 1) (by decide) ?_
  refine V.iadd (pc := 157) C dX7_readPerson_157 ?_
  refine V.puti (pc := 158) C fp_RX7_131 sX9 (kX9 hN) rfl dX7_readPerson_158 ?_
  refine V.ltm (fun m_10 => ?_)
  refine V.aload_n (pc := 161) C dX7_readPerson_161 0 rfl ?_
  refine V.geti (pc := 162) C fl_RX7_45 sX39 (kX39 hN) rfl dX7_readPerson_162 ?_
  refine V.if_ne (pc := 165) C dX7_readPerson_165 172 (by decide) (fun _ => ?_) (fun _ => ?_)
  · refine V.iconst (pc := 172) C dX7_readPerson_172 (v := 0) (by decide) ?_
    exact V.zret rfl C dX7_readPerson_173
  · refine V.iconst (pc := 168) C dX7_readPerson_168 (v := 1) (by decide) ?_
    refine V.goto (pc := 169) C dX7_readPerson_169 173 (by decide) ?_
    exact V.zret rfl C dX7_readPerson_173
set_option maxRecDepth 100000 in
set_option maxHeartbeats 4000000 in
theorem v_X7_readPerson_b113 {l : Launch} {p : Program} {e : Env} {s : State} {mt : MethodId} {args : Array Value} {below : List Frame} {meth : Method} {c : Code} {A : Nat → Prop} {ad0 : Nat → Nat} {G : Gt} {N : Nat} (C : Cx G p s mt args meth c RX7 cX7_readPerson 4 (some .boolean) "readPerson" A) (hN : 109 ≤ N) : ∀ (n : Nat) (y1 : Int32) (y2 : Int32) (y3 : Int32) (m : Mem), V G SX oI l p e s mt args below meth c 4 8 A ad0 N N RX N RX 113 [(0, .ref 39), (1, .int y1), (2, .int y2), (3, .int y3)] [] m (X7_readPerson_b113  n y1 y2 y3 m) := by
  intro n
  induction n with
  | zero =>
    intro y1 y2 y3 m
    rw [X7_readPerson_b113]
    exact V.nil
  | succ n ih =>
    intro y1 y2 y3 m
    rw [X7_readPerson_b113]
    refine V.iload_n (pc := 113) C dX7_readPerson_113 3 rfl ?_
    refine V.aload_n (pc := 114) C dX7_readPerson_114 0 rfl ?_
    refine V.getr (pc := 115) C fl_RX7_15 sX39 (kX39 hN) rfl rX39_1 dX7_readPerson_115 ?_
    refine V.geti (pc := 118) C fl_RX7_120 sX9 (kX9 hN) rfl dX7_readPerson_118 ?_
    refine V.icmp_ge (pc := 121) C dX7_readPerson_121 148 (by decide) (fun _ => ?_) (fun _ => ?_)
    · refine V.wk [0] rfl ?_
      exact v_X7_readPerson_b148 C hN  m
    · refine V.iload_n (pc := 124) C dX7_readPerson_124 2 rfl ?_
      refine V.iconst (pc := 125) C dX7_readPerson_125 (v := 1) (by decide) ?_
      refine V.iload_n (pc := 126) C dX7_readPerson_126 3 rfl ?_
      refine V.ishl (pc := 127) C dX7_readPerson_127 ?_
      refine V.iand (pc := 128) C dX7_readPerson_128 ?_
      refine V.if_eq (pc := 129) C dX7_readPerson_129 142 (by decide) (fun _ => ?_) (fun _ => ?_)
      · refine V.iinc (pc := 142) C dX7_readPerson_142 (v := 1) (L2 := [(3, .int (y3 + 1)), (0, .ref 39), (1, .int y1), (2, .int y2)]) 3 rfl (by decide) (by decide) rfl ?_
        refine V.goto (pc := 145) C dX7_readPerson_145 113 (by decide) ?_
        refine V.wk [1, 2, 3, 0] rfl ?_
        exact ih y1 y2 (y3 + 1) m
      · refine V.aload_n (pc := 132) C dX7_readPerson_132 0 rfl ?_
        refine V.getr (pc := 133) C fl_RX7_19 sX39 (kX39 hN) rfl rX39_2 dX7_readPerson_133 ?_
        refine V.iload_n (pc := 136) C dX7_readPerson_136 1 rfl ?_
        refine V.iload_n (pc := 137) C dX7_readPerson_137 3 rfl ?_
        refine V.iconst (pc := 138) C dX7_readPerson_138 (v := 0) (by decide) ?_
        refine V.callV (pc := 139) (st := []) C (c_X5_adopt l hN 16 (iX16 hN) y1 y3 0 m) obV ck_X5_adopt ml_RX7_152 rfl rfl sX16 (kX16 hN) rfl rfl (Nat.le_of_ble_eq_true rfl) ⟨by decide, by decide⟩ dX7_readPerson_139 (fun r_15 m_16 _ => ?_)
        refine V.iinc (pc := 142) C dX7_readPerson_142 (v := 1) (L2 := [(3, .int (y3 + 1)), (0, .ref 39), (1, .int y1), (2, .int y2)]) 3 rfl (by decide) (by decide) rfl ?_
        refine V.goto (pc := 145) C dX7_readPerson_145 113 (by decide) ?_
        refine V.wk [1, 2, 3, 0] rfl ?_
        exact ih y1 y2 (y3 + 1) m_16
set_option maxRecDepth 100000 in
set_option maxHeartbeats 4000000 in
theorem v_X7_readPerson_b90 {l : Launch} {p : Program} {e : Env} {s : State} {mt : MethodId} {args : Array Value} {below : List Frame} {meth : Method} {c : Code} {A : Nat → Prop} {ad0 : Nat → Nat} {G : Gt} {N : Nat} (C : Cx G p s mt args meth c RX7 cX7_readPerson 4 (some .boolean) "readPerson" A) (hN : 109 ≤ N) (y1 : Int32) (m : Mem) : V G SX oI l p e s mt args below meth c 4 8 A ad0 N N RX N RX 90 [(0, .ref 39), (1, .int y1)] [] m (X7_readPerson_b90  y1 m) := by
  rw [X7_readPerson_b90]
  refine V.aload_n (pc := 90) C dX7_readPerson_90 0 rfl ?_
  refine V.geti (pc := 91) C fl_RX7_45 sX39 (kX39 hN) rfl dX7_readPerson_91 ?_
  refine V.if_ne (pc := 94) C dX7_readPerson_94 148 (by decide) (fun _ => ?_) (fun _ => ?_)
  · refine V.wk [0] rfl ?_
    exact v_X7_readPerson_b148 C hN  m
  · refine V.aload_n (pc := 97) C dX7_readPerson_97 0 rfl ?_
    refine V.ldcs (pc := 98) (k := 6) C (by decide) (by decide) dX7_readPerson_98 ?_
    refine V.callV (pc := 100) (st := []) C (c_X7_isWord l hN 6 (by decide) m) obI ck_X7_isWord ml_RX7_76 rfl rfl sX39 (kX39 hN) rfl rfl (Nat.le_of_ble_eq_true rfl) ⟨by decide, by decide⟩ dX7_readPerson_100 (fun r_11 m_12 _ => ?_)
    refine V.if_eq (pc := 103) C dX7_readPerson_103 148 (by decide) (fun _ => ?_) (fun _ => ?_)
    · refine V.wk [0] rfl ?_
      exact v_X7_readPerson_b148 C hN  m_12
    · refine V.aload_n (pc := 106) C dX7_readPerson_106 0 rfl ?_
      refine V.callV (pc := 107) (st := []) C (c_X7_readThings l hN m_12) obI ck_X7_readThings ml_RX7_146 rfl rfl sX39 (kX39 hN) rfl rfl (Nat.le_of_ble_eq_true rfl) ⟨by decide, by decide⟩ dX7_readPerson_107 (fun r_13 m_14 _ => ?_)
      refine V.istore_n (pc := 110) C dX7_readPerson_110 (L2 := [(2, .int r_13), (0, .ref 39), (1, .int y1)]) (by decide) rfl ?_
      refine V.iconst (pc := 111) C dX7_readPerson_111 (v := 0) (by decide) ?_
      refine V.istore_n (pc := 112) C dX7_readPerson_112 (L2 := [(3, .int 0), (2, .int r_13), (0, .ref 39), (1, .int y1)]) (by decide) rfl ?_
      refine V.wk [2, 3, 1, 0] rfl ?_
      exact v_X7_readPerson_b113 C hN FU y1 r_13 0 m_14
set_option maxRecDepth 100000 in
set_option maxHeartbeats 4000000 in
theorem v_X7_readPerson {l : Launch} {p : Program} {e : Env} {s : State} {mt : MethodId} {args : Array Value} {below : List Frame} {meth : Method} {c : Code} {A : Nat → Prop} {ad0 : Nat → Nat} {G : Gt} {N : Nat} (C : Cx G p s mt args meth c RX7 cX7_readPerson 4 (some .boolean) "readPerson" A) (hN : 109 ≤ N) (m : Mem) : V G SX oI l p e s mt args below meth c 4 8 A ad0 N N RX N RX 0 [(0, .ref 39)] [] m (X7_readPerson   m) := by
  rw [X7_readPerson]
  refine V.aload_n (pc := 0) C dX7_readPerson_0 0 rfl ?_
  refine V.getr (pc := 1) C fl_RX7_15 sX39 (kX39 hN) rfl rX39_1 dX7_readPerson_1 ?_
  refine V.geti (pc := 4) C fl_RX7_131 sX9 (kX9 hN) rfl dX7_readPerson_4 ?_
  refine V.lti (fun x_1 _ => ?_)
  refine V.istore_n (pc := 7) C dX7_readPerson_7 (L2 := [(1, .int x_1), (0, .ref 39)]) (by decide) rfl ?_
  refine V.iload_n (pc := 8) C dX7_readPerson_8 0 rfl ?_
  refine V.bipush (pc := 9) C dX7_readPerson_9 (v := 8) (by decide) ?_
  refine V.icmp_lt (pc := 11) C dX7_readPerson_11 20 (by decide) (fun _ => ?_) (fun _ => ?_)
  · refine V.aload_n (pc := 20) C dX7_readPerson_20 1 rfl ?_
    refine V.callV (pc := 21) (st := []) C (c_X7_next l hN m) obV ck_X7_next ml_RX7_57 rfl rfl sX39 (kX39 hN) rfl rfl (Nat.le_of_ble_eq_true rfl) ⟨by decide, by decide⟩ dX7_readPerson_21 (fun r_2 m_3 _ => ?_)
    refine V.aload_n (pc := 24) C dX7_readPerson_24 1 rfl ?_
    refine V.ldcs (pc := 25) (k := 4) C (by decide) (by decide) dX7_readPerson_25 ?_
    refine V.callV (pc := 27) (st := []) C (c_X7_passWord l hN 4 (by decide) m_3) obI ck_X7_passWord ml_RX7_136 rfl rfl sX39 (kX39 hN) rfl rfl (Nat.le_of_ble_eq_true rfl) ⟨by decide, by decide⟩ dX7_readPerson_27 (fun r_4 m_5 _ => ?_)
    refine V.if_ne (pc := 30) C dX7_readPerson_30 35 (by decide) (fun _ => ?_) (fun _ => ?_)
    · refine V.aload_n (pc := 35) C dX7_readPerson_35 1 rfl ?_
      refine V.getr (pc := 36) C fl_RX7_19 sX39 (kX39 hN) rfl rX39_2 dX7_readPerson_36 ?_
      refine V.getr (pc := 39) C fl_RX7_139 sX16 (kX16 hN) rfl rX16_1 dX7_readPerson_39 ?_
      refine V.iload_n (pc := 42) C dX7_readPerson_42 0 rfl ?_
      refine V.aload_n (pc := 43) C dX7_readPerson_43 1 rfl ?_
      refine V.iconst (pc := 44) C dX7_readPerson_44 (v := 0) (by decide) ?_
      refine V.bipush (pc := 45) C dX7_readPerson_45 (v := 99) (by decide) ?_
      refine V.callV (pc := 47) (st := [.int x_1, .ref 17]) C (c_X7_readNumber l hN 0 99 m_5) obI ck_X7_readNumber ml_RX7_108 rfl rfl sX39 (kX39 hN) rfl rfl (Nat.le_of_ble_eq_true rfl) ⟨by decide, by decide⟩ dX7_readPerson_47 (fun r_6 m_7 _ => ?_)
      refine V.iast (pc := 50) C sX17 (kX17 hN) dX7_readPerson_50 (fun _ => ?_)
      refine V.ltm (fun m_8 => ?_)
      refine V.aload_n (pc := 51) C dX7_readPerson_51 1 rfl ?_
      refine V.getr (pc := 52) C fl_RX7_15 sX39 (kX39 hN) rfl rX39_1 dX7_readPerson_52 ?_
      refine V.getr (pc := 55) C fl_RX7_141 sX9 (kX9 hN) rfl rX9_6 dX7_readPerson_55 ?_
      refine V.iload_n (pc := 58) C dX7_readPerson_58 0 rfl ?_
      refine V.iconst (pc := 59) C dX7_readPerson_59 (v := 0) (by decide) ?_
      refine V.iast (pc := 60) C sX11 (kX11 hN) dX7_readPerson_60 (fun _ => ?_)
      refine V.ltm (fun m_9 => ?_)
      refine V.aload_n (pc := 61) C dX7_readPerson_61 1 rfl ?_
      refine V.geti (pc := 62) C fl_RX7_45 sX39 (kX39 hN) rfl dX7_readPerson_62 ?_
      refine V.if_ne (pc := 65) C dX7_readPerson_65 90 (by decide) (fun _ => ?_) (fun _ => ?_)
      · refine V.wk [1, 0] rfl ?_
        exact v_X7_readPerson_b90 C hN x_1 m_9
      · refine V.aload_n (pc := 68) C dX7_readPerson_68 1 rfl ?_
        refine V.ldcs (pc := 69) (k := 5) C (by decide) (by decide) dX7_readPerson_69 ?_
        refine V.callV (pc := 71) (st := []) C (c_X7_isWord l hN 5 (by decide) m_9) obI ck_X7_isWord ml_RX7_76 rfl rfl sX39 (kX39 hN) rfl rfl (Nat.le_of_ble_eq_true rfl) ⟨by decide, by decide⟩ dX7_readPerson_71 (fun r_17 m_18 _ => ?_)
        refine V.if_eq (pc := 74) C dX7_readPerson_74 90 (by decide) (fun _ => ?_) (fun _ => ?_)
        · refine V.wk [1, 0] rfl ?_
          exact v_X7_readPerson_b90 C hN x_1 m_18
        · refine V.aload_n (pc := 77) C dX7_readPerson_77 1 rfl ?_
          refine V.getr (pc := 78) C fl_RX7_15 sX39 (kX39 hN) rfl rX39_1 dX7_readPerson_78 ?_
          refine V.getr (pc := 81) C fl_RX7_141 sX9 (kX9 hN) rfl rX9_6 dX7_readPerson_81 ?_
          refine V.iload_n (pc := 84) C dX7_readPerson_84 0 rfl ?_
          refine V.aload_n (pc := 85) C dX7_readPerson_85 1 rfl ?_
          refine V.callV (pc := 86) (st := [.int x_1, .ref 11]) C (c_X7_readThings l hN m_18) obI ck_X7_readThings ml_RX7_146 rfl rfl sX39 (kX39 hN) rfl rfl (Nat.le_of_ble_eq_true rfl) ⟨by decide, by decide⟩ dX7_readPerson_86 (fun r_19 m_20 _ => ?_)
          refine V.iast (pc := 89) C sX11 (kX11 hN) dX7_readPerson_89 (fun _ => ?_)
          refine V.ltm (fun m_21 => ?_)
          refine V.wk [1, 0] rfl ?_
          exact v_X7_readPerson_b90 C hN x_1 m_21
    · refine V.iconst (pc := 33) C dX7_readPerson_33 (v := 0) (by decide) ?_
      exact V.zret rfl C dX7_readPerson_34
  · refine V.aload_n (pc := 14) C dX7_readPerson_14 1 rfl ?_
    refine V.iconst (pc := 15) C dX7_readPerson_15 (v := 4) (by decide) ?_
    refine V.callV (pc := 16) (st := []) C (c_X7_blame l hN 4 m) obI ck_X7_blame ml_RX7_123 rfl rfl sX39 (kX39 hN) rfl rfl (Nat.le_of_ble_eq_true rfl) ⟨by decide, by decide⟩ dX7_readPerson_16 (fun r_22 m_23 _ => ?_)
    exact V.bret C dX7_readPerson_19
theorem c_X7_readPerson (l : Launch) {N : Nat} (hN : 109 ≤ N) (m : Mem) : Ct l yX7_readPerson cX7_readPerson 4 (some .boolean) 8 SX oI N N RX RX [.ref 39] m (X7_readPerson   m) :=
  Ct.of (own := RX7) (nm := "readPerson") (by decide) rfl rfl (Nat.le_of_ble_eq_true rfl) (fun _ _ _ _ _ _ _ _ _ _ _ C => v_X7_readPerson C hN  m)
theorem dX7_pass_0 : decode cX7_pass 0 = .ok (.aload_n 0, 1) := by decide +kernel
theorem dX7_pass_1 : decode cX7_pass 1 = .ok (.getfield 60, 3) := by decide +kernel
theorem dX7_pass_4 : decode cX7_pass 4 = .ok (.iload_n 1, 1) := by decide +kernel
theorem dX7_pass_5 : decode cX7_pass 5 = .ok (.if_icmp .eq 8, 3) := by decide +kernel
theorem dX7_pass_8 : decode cX7_pass 8 = .ok (.aload_n 0, 1) := by decide +kernel
theorem dX7_pass_9 : decode cX7_pass 9 = .ok (.invokevirtual 117, 3) := by decide +kernel
theorem dX7_pass_12 : decode cX7_pass 12 = .ok (.ireturn, 1) := by decide +kernel
theorem dX7_pass_13 : decode cX7_pass 13 = .ok (.aload_n 0, 1) := by decide +kernel
theorem dX7_pass_14 : decode cX7_pass 14 = .ok (.invokevirtual 57, 3) := by decide +kernel
theorem dX7_pass_17 : decode cX7_pass 17 = .ok (.iconst 1, 1) := by decide +kernel
theorem dX7_pass_18 : decode cX7_pass 18 = .ok (.ireturn, 1) := by decide +kernel
set_option maxRecDepth 100000 in
set_option maxHeartbeats 4000000 in
theorem v_X7_pass {l : Launch} {p : Program} {e : Env} {s : State} {mt : MethodId} {args : Array Value} {below : List Frame} {meth : Method} {c : Code} {A : Nat → Prop} {ad0 : Nat → Nat} {G : Gt} {N : Nat} (C : Cx G p s mt args meth c RX7 cX7_pass 2 (some .boolean) "pass" A) (hN : 109 ≤ N) (x1 : Int32) (m : Mem) : V G SX oI l p e s mt args below meth c 2 6 A ad0 N N RX N RX 0 [(0, .ref 39), (1, .int x1)] [] m (X7_pass  x1 m) := by
  rw [X7_pass]
  refine V.aload_n (pc := 0) C dX7_pass_0 0 rfl ?_
  refine V.geti (pc := 1) C fl_RX7_60 sX39 (kX39 hN) rfl dX7_pass_1 ?_
  refine V.iload_n (pc := 4) C dX7_pass_4 1 rfl ?_
  refine V.icmp_eq (pc := 5) C dX7_pass_5 13 (by decide) (fun _ => ?_) (fun _ => ?_)
  · refine V.aload_n (pc := 13) C dX7_pass_13 0 rfl ?_
    refine V.callV (pc := 14) (st := []) C (c_X7_next l hN m) obV ck_X7_next ml_RX7_57 rfl rfl sX39 (kX39 hN) rfl rfl (Nat.le_of_ble_eq_true rfl) ⟨by decide, by decide⟩ dX7_pass_14 (fun r_1 m_2 _ => ?_)
    refine V.iconst (pc := 17) C dX7_pass_17 (v := 1) (by decide) ?_
    exact V.zret rfl C dX7_pass_18
  · refine V.aload_n (pc := 8) C dX7_pass_8 0 rfl ?_
    refine V.callV (pc := 9) (st := []) C (c_X7_refuse l hN m) obI ck_X7_refuse ml_RX7_117 rfl rfl sX39 (kX39 hN) rfl rfl (Nat.le_of_ble_eq_true rfl) ⟨by decide, by decide⟩ dX7_pass_9 (fun r_3 m_4 _ => ?_)
    exact V.bret C dX7_pass_12
theorem c_X7_pass (l : Launch) {N : Nat} (hN : 109 ≤ N) (x1 : Int32) (m : Mem) : Ct l yX7_pass cX7_pass 2 (some .boolean) 6 SX oI N N RX RX [.ref 39, .int x1] m (X7_pass  x1 m) :=
  Ct.of (own := RX7) (nm := "pass") (by decide) rfl rfl (Nat.le_of_ble_eq_true rfl) (fun _ _ _ _ _ _ _ _ _ _ _ C => v_X7_pass C hN x1 m)
theorem dX7_goDeeper_0 : decode cX7_goDeeper 0 = .ok (.iload_n 1, 1) := by decide +kernel
theorem dX7_goDeeper_1 : decode cX7_goDeeper 1 = .ok (.bipush 6, 2) := by decide +kernel
theorem dX7_goDeeper_3 : decode cX7_goDeeper 3 = .ok (.if_icmp .lt 9, 3) := by decide +kernel
theorem dX7_goDeeper_6 : decode cX7_goDeeper 6 = .ok (.aload_n 0, 1) := by decide +kernel
theorem dX7_goDeeper_7 : decode cX7_goDeeper 7 = .ok (.iconst 4, 1) := by decide +kernel
theorem dX7_goDeeper_8 : decode cX7_goDeeper 8 = .ok (.invokevirtual 123, 3) := by decide +kernel
theorem dX7_goDeeper_11 : decode cX7_goDeeper 11 = .ok (.ireturn, 1) := by decide +kernel
theorem dX7_goDeeper_12 : decode cX7_goDeeper 12 = .ok (.aload_n 0, 1) := by decide +kernel
theorem dX7_goDeeper_13 : decode cX7_goDeeper 13 = .ok (.invokevirtual 57, 3) := by decide +kernel
theorem dX7_goDeeper_16 : decode cX7_goDeeper 16 = .ok (.iconst 1, 1) := by decide +kernel
theorem dX7_goDeeper_17 : decode cX7_goDeeper 17 = .ok (.ireturn, 1) := by decide +kernel
set_option maxRecDepth 100000 in
set_option maxHeartbeats 4000000 in
theorem v_X7_goDeeper {l : Launch} {p : Program} {e : Env} {s : State} {mt : MethodId} {args : Array Value} {below : List Frame} {meth : Method} {c : Code} {A : Nat → Prop} {ad0 : Nat → Nat} {G : Gt} {N : Nat} (C : Cx G p s mt args meth c RX7 cX7_goDeeper 2 (some .boolean) "goDeeper" A) (hN : 109 ≤ N) (x1 : Int32) (m : Mem) : V G SX oI l p e s mt args below meth c 2 6 A ad0 N N RX N RX 0 [(0, .ref 39), (1, .int x1)] [] m (X7_goDeeper  x1 m) := by
  rw [X7_goDeeper]
  refine V.iload_n (pc := 0) C dX7_goDeeper_0 1 rfl ?_
  refine V.bipush (pc := 1) C dX7_goDeeper_1 (v := 6) (by decide) ?_
  refine V.icmp_lt (pc := 3) C dX7_goDeeper_3 12 (by decide) (fun _ => ?_) (fun _ => ?_)
  · refine V.aload_n (pc := 12) C dX7_goDeeper_12 0 rfl ?_
    refine V.callV (pc := 13) (st := []) C (c_X7_next l hN m) obV ck_X7_next ml_RX7_57 rfl rfl sX39 (kX39 hN) rfl rfl (Nat.le_of_ble_eq_true rfl) ⟨by decide, by decide⟩ dX7_goDeeper_13 (fun r_1 m_2 _ => ?_)
    refine V.iconst (pc := 16) C dX7_goDeeper_16 (v := 1) (by decide) ?_
    exact V.zret rfl C dX7_goDeeper_17
  · refine V.aload_n (pc := 6) C dX7_goDeeper_6 0 rfl ?_
    refine V.iconst (pc := 7) C dX7_goDeeper_7 (v := 4) (by decide) ?_
    refine V.callV (pc := 8) (st := []) C (c_X7_blame l hN 4 m) obI ck_X7_blame ml_RX7_123 rfl rfl sX39 (kX39 hN) rfl rfl (Nat.le_of_ble_eq_true rfl) ⟨by decide, by decide⟩ dX7_goDeeper_8 (fun r_3 m_4 _ => ?_)
    exact V.bret C dX7_goDeeper_11
theorem c_X7_goDeeper (l : Launch) {N : Nat} (hN : 109 ≤ N) (x1 : Int32) (m : Mem) : Ct l yX7_goDeeper cX7_goDeeper 2 (some .boolean) 6 SX oI N N RX RX [.ref 39, .int x1] m (X7_goDeeper  x1 m) :=
  Ct.of (own := RX7) (nm := "goDeeper") (by decide) rfl rfl (Nat.le_of_ble_eq_true rfl) (fun _ _ _ _ _ _ _ _ _ _ _ C => v_X7_goDeeper C hN x1 m)
theorem dX7_comparison_0 : decode cX7_comparison 0 = .ok (.aload_n 0, 1) := by decide +kernel
theorem dX7_comparison_1 : decode cX7_comparison 1 = .ok (.getfield 60, 3) := by decide +kernel
theorem dX7_comparison_4 : decode cX7_comparison 4 = .ok (.tableswitch 37 60 62 #[31, 28, 34], 28) := by decide +kernel
theorem dX7_comparison_32 : decode cX7_comparison 32 = .ok (.bipush (-11), 2) := by decide +kernel
theorem dX7_comparison_34 : decode cX7_comparison 34 = .ok (.ireturn, 1) := by decide +kernel
theorem dX7_comparison_35 : decode cX7_comparison 35 = .ok (.bipush (-12), 2) := by decide +kernel
theorem dX7_comparison_37 : decode cX7_comparison 37 = .ok (.ireturn, 1) := by decide +kernel
theorem dX7_comparison_38 : decode cX7_comparison 38 = .ok (.bipush (-13), 2) := by decide +kernel
theorem dX7_comparison_40 : decode cX7_comparison 40 = .ok (.ireturn, 1) := by decide +kernel
theorem dX7_comparison_41 : decode cX7_comparison 41 = .ok (.iconst 0, 1) := by decide +kernel
theorem dX7_comparison_42 : decode cX7_comparison 42 = .ok (.ireturn, 1) := by decide +kernel
set_option maxRecDepth 100000 in
set_option maxHeartbeats 4000000 in
theorem v_X7_comparison {l : Launch} {p : Program} {e : Env} {s : State} {mt : MethodId} {args : Array Value} {below : List Frame} {meth : Method} {c : Code} {A : Nat → Prop} {ad0 : Nat → Nat} {G : Gt} {N : Nat} (C : Cx G p s mt args meth c RX7 cX7_comparison 1 (some .int) "comparison" A) (hN : 109 ≤ N) (m : Mem) : V G SX oI l p e s mt args below meth c 1 1 A ad0 N N RX N RX 0 [(0, .ref 39)] [] m (X7_comparison   m) := by
  rw [X7_comparison]
  refine V.aload_n (pc := 0) C dX7_comparison_0 0 rfl ?_
  refine V.geti (pc := 1) C fl_RX7_60 sX39 (kX39 hN) rfl dX7_comparison_1 ?_
  refine V.br (fun h_1 => ?_) (fun h_1 => ?_)
  · refine V.tin (pc := 4) (x := (gi m 39 5)) (j := 60) (tgt := 35) C dX7_comparison_4 h_1 (by decide) (by decide) rfl (by decide) ?_
    refine V.bipush (pc := 35) C dX7_comparison_35 (v := (-12)) (by decide) ?_
    exact V.iret C dX7_comparison_37
  · refine V.br (fun h_2 => ?_) (fun h_2 => ?_)
    · refine V.tin (pc := 4) (x := (gi m 39 5)) (j := 61) (tgt := 32) C dX7_comparison_4 h_2 (by decide) (by decide) rfl (by decide) ?_
      refine V.bipush (pc := 32) C dX7_comparison_32 (v := (-11)) (by decide) ?_
      exact V.iret C dX7_comparison_34
    · refine V.br (fun h_3 => ?_) (fun h_3 => ?_)
      · refine V.tin (pc := 4) (x := (gi m 39 5)) (j := 62) (tgt := 38) C dX7_comparison_4 h_3 (by decide) (by decide) rfl (by decide) ?_
        refine V.bipush (pc := 38) C dX7_comparison_38 (v := (-13)) (by decide) ?_
        exact V.iret C dX7_comparison_40
      · have g0 := lv_neT h_1 (show (60 : Int32).toInt = 60 from by decide)
        have g1 := lv_neT h_2 (show (61 : Int32).toInt = 61 from by decide)
        have g2 := lv_neT h_3 (show (62 : Int32).toInt = 62 from by decide)
        refine V.tout (pc := 4) (x := (gi m 39 5)) (tgt := 41) C dX7_comparison_4 (by omega) (by decide) ?_
        refine V.iconst (pc := 41) C dX7_comparison_41 (v := 0) (by decide) ?_
        exact V.iret C dX7_comparison_42
theorem c_X7_comparison (l : Launch) {N : Nat} (hN : 109 ≤ N) (m : Mem) : Ct l yX7_comparison cX7_comparison 1 (some .int) 1 SX oI N N RX RX [.ref 39] m (X7_comparison   m) :=
  Ct.of (own := RX7) (nm := "comparison") (by decide) rfl rfl (Nat.le_of_ble_eq_true rfl) (fun _ _ _ _ _ _ _ _ _ _ _ C => v_X7_comparison C hN  m)
theorem dX7_termWord_0 : decode cX7_termWord 0 = .ok (.aload_n 0, 1) := by decide +kernel
theorem dX7_termWord_1 : decode cX7_termWord 1 = .ok (.ldc 191, 2) := by decide +kernel
theorem dX7_termWord_3 : decode cX7_termWord 3 = .ok (.invokevirtual 76, 3) := by decide +kernel
theorem dX7_termWord_6 : decode cX7_termWord 6 = .ok (.ifCond .eq 5, 3) := by decide +kernel
theorem dX7_termWord_9 : decode cX7_termWord 9 = .ok (.iconst 0, 1) := by decide +kernel
theorem dX7_termWord_10 : decode cX7_termWord 10 = .ok (.ireturn, 1) := by decide +kernel
theorem dX7_termWord_11 : decode cX7_termWord 11 = .ok (.aload_n 0, 1) := by decide +kernel
theorem dX7_termWord_12 : decode cX7_termWord 12 = .ok (.ldc 195, 2) := by decide +kernel
theorem dX7_termWord_14 : decode cX7_termWord 14 = .ok (.invokevirtual 76, 3) := by decide +kernel
theorem dX7_termWord_17 : decode cX7_termWord 17 = .ok (.ifCond .eq 5, 3) := by decide +kernel
theorem dX7_termWord_20 : decode cX7_termWord 20 = .ok (.iconst 1, 1) := by decide +kernel
theorem dX7_termWord_21 : decode cX7_termWord 21 = .ok (.ireturn, 1) := by decide +kernel
theorem dX7_termWord_22 : decode cX7_termWord 22 = .ok (.aload_n 0, 1) := by decide +kernel
theorem dX7_termWord_23 : decode cX7_termWord 23 = .ok (.ldc 197, 2) := by decide +kernel
theorem dX7_termWord_25 : decode cX7_termWord 25 = .ok (.invokevirtual 76, 3) := by decide +kernel
theorem dX7_termWord_28 : decode cX7_termWord 28 = .ok (.ifCond .eq 5, 3) := by decide +kernel
theorem dX7_termWord_31 : decode cX7_termWord 31 = .ok (.iconst 2, 1) := by decide +kernel
theorem dX7_termWord_32 : decode cX7_termWord 32 = .ok (.ireturn, 1) := by decide +kernel
theorem dX7_termWord_33 : decode cX7_termWord 33 = .ok (.aload_n 0, 1) := by decide +kernel
theorem dX7_termWord_34 : decode cX7_termWord 34 = .ok (.ldc 199, 2) := by decide +kernel
theorem dX7_termWord_36 : decode cX7_termWord 36 = .ok (.invokevirtual 76, 3) := by decide +kernel
theorem dX7_termWord_39 : decode cX7_termWord 39 = .ok (.ifCond .eq 5, 3) := by decide +kernel
theorem dX7_termWord_42 : decode cX7_termWord 42 = .ok (.iconst 3, 1) := by decide +kernel
theorem dX7_termWord_43 : decode cX7_termWord 43 = .ok (.ireturn, 1) := by decide +kernel
theorem dX7_termWord_44 : decode cX7_termWord 44 = .ok (.aload_n 0, 1) := by decide +kernel
theorem dX7_termWord_45 : decode cX7_termWord 45 = .ok (.ldc 201, 2) := by decide +kernel
theorem dX7_termWord_47 : decode cX7_termWord 47 = .ok (.invokevirtual 76, 3) := by decide +kernel
theorem dX7_termWord_50 : decode cX7_termWord 50 = .ok (.ifCond .eq 5, 3) := by decide +kernel
theorem dX7_termWord_53 : decode cX7_termWord 53 = .ok (.iconst 4, 1) := by decide +kernel
theorem dX7_termWord_54 : decode cX7_termWord 54 = .ok (.ireturn, 1) := by decide +kernel
theorem dX7_termWord_55 : decode cX7_termWord 55 = .ok (.aload_n 0, 1) := by decide +kernel
theorem dX7_termWord_56 : decode cX7_termWord 56 = .ok (.ldc 203, 2) := by decide +kernel
theorem dX7_termWord_58 : decode cX7_termWord 58 = .ok (.invokevirtual 76, 3) := by decide +kernel
theorem dX7_termWord_61 : decode cX7_termWord 61 = .ok (.ifCond .eq 5, 3) := by decide +kernel
theorem dX7_termWord_64 : decode cX7_termWord 64 = .ok (.iconst 5, 1) := by decide +kernel
theorem dX7_termWord_65 : decode cX7_termWord 65 = .ok (.ireturn, 1) := by decide +kernel
theorem dX7_termWord_66 : decode cX7_termWord 66 = .ok (.aload_n 0, 1) := by decide +kernel
theorem dX7_termWord_67 : decode cX7_termWord 67 = .ok (.ldc 205, 2) := by decide +kernel
theorem dX7_termWord_69 : decode cX7_termWord 69 = .ok (.invokevirtual 76, 3) := by decide +kernel
theorem dX7_termWord_72 : decode cX7_termWord 72 = .ok (.ifCond .eq 8, 3) := by decide +kernel
theorem dX7_termWord_75 : decode cX7_termWord 75 = .ok (.bipush 6, 2) := by decide +kernel
theorem dX7_termWord_77 : decode cX7_termWord 77 = .ok (.goto 4, 3) := by decide +kernel
theorem dX7_termWord_80 : decode cX7_termWord 80 = .ok (.iconst (-1), 1) := by decide +kernel
theorem dX7_termWord_81 : decode cX7_termWord 81 = .ok (.ireturn, 1) := by decide +kernel
set_option maxRecDepth 100000 in
set_option maxHeartbeats 4000000 in
theorem v_X7_termWord {l : Launch} {p : Program} {e : Env} {s : State} {mt : MethodId} {args : Array Value} {below : List Frame} {meth : Method} {c : Code} {A : Nat → Prop} {ad0 : Nat → Nat} {G : Gt} {N : Nat} (C : Cx G p s mt args meth c RX7 cX7_termWord 1 (some .int) "termWord" A) (hN : 109 ≤ N) (m : Mem) : V G SX oI l p e s mt args below meth c 1 6 A ad0 N N RX N RX 0 [(0, .ref 39)] [] m (X7_termWord   m) := by
  rw [X7_termWord]
  refine V.aload_n (pc := 0) C dX7_termWord_0 0 rfl ?_
  refine V.ldcs (pc := 1) (k := 8) C (by decide) (by decide) dX7_termWord_1 ?_
  refine V.callV (pc := 3) (st := []) C (c_X7_isWord l hN 8 (by decide) m) obI ck_X7_isWord ml_RX7_76 rfl rfl sX39 (kX39 hN) rfl rfl (Nat.le_of_ble_eq_true rfl) ⟨by decide, by decide⟩ dX7_termWord_3 (fun r_1 m_2 _ => ?_)
  refine V.if_eq (pc := 6) C dX7_termWord_6 11 (by decide) (fun _ => ?_) (fun _ => ?_)
  · refine V.aload_n (pc := 11) C dX7_termWord_11 0 rfl ?_
    refine V.ldcs (pc := 12) (k := 9) C (by decide) (by decide) dX7_termWord_12 ?_
    refine V.callV (pc := 14) (st := []) C (c_X7_isWord l hN 9 (by decide) m_2) obI ck_X7_isWord ml_RX7_76 rfl rfl sX39 (kX39 hN) rfl rfl (Nat.le_of_ble_eq_true rfl) ⟨by decide, by decide⟩ dX7_termWord_14 (fun r_3 m_4 _ => ?_)
    refine V.if_eq (pc := 17) C dX7_termWord_17 22 (by decide) (fun _ => ?_) (fun _ => ?_)
    · refine V.aload_n (pc := 22) C dX7_termWord_22 0 rfl ?_
      refine V.ldcs (pc := 23) (k := 10) C (by decide) (by decide) dX7_termWord_23 ?_
      refine V.callV (pc := 25) (st := []) C (c_X7_isWord l hN 10 (by decide) m_4) obI ck_X7_isWord ml_RX7_76 rfl rfl sX39 (kX39 hN) rfl rfl (Nat.le_of_ble_eq_true rfl) ⟨by decide, by decide⟩ dX7_termWord_25 (fun r_5 m_6 _ => ?_)
      refine V.if_eq (pc := 28) C dX7_termWord_28 33 (by decide) (fun _ => ?_) (fun _ => ?_)
      · refine V.aload_n (pc := 33) C dX7_termWord_33 0 rfl ?_
        refine V.ldcs (pc := 34) (k := 11) C (by decide) (by decide) dX7_termWord_34 ?_
        refine V.callV (pc := 36) (st := []) C (c_X7_isWord l hN 11 (by decide) m_6) obI ck_X7_isWord ml_RX7_76 rfl rfl sX39 (kX39 hN) rfl rfl (Nat.le_of_ble_eq_true rfl) ⟨by decide, by decide⟩ dX7_termWord_36 (fun r_7 m_8 _ => ?_)
        refine V.if_eq (pc := 39) C dX7_termWord_39 44 (by decide) (fun _ => ?_) (fun _ => ?_)
        · refine V.aload_n (pc := 44) C dX7_termWord_44 0 rfl ?_
          refine V.ldcs (pc := 45) (k := 12) C (by decide) (by decide) dX7_termWord_45 ?_
          refine V.callV (pc := 47) (st := []) C (c_X7_isWord l hN 12 (by decide) m_8) obI ck_X7_isWord ml_RX7_76 rfl rfl sX39 (kX39 hN) rfl rfl (Nat.le_of_ble_eq_true rfl) ⟨by decide, by decide⟩ dX7_termWord_47 (fun r_9 m_10 _ => ?_)
          refine V.if_eq (pc := 50) C dX7_termWord_50 55 (by decide) (fun _ => ?_) (fun _ => ?_)
          · refine V.aload_n (pc := 55) C dX7_termWord_55 0 rfl ?_
            refine V.ldcs (pc := 56) (k := 13) C (by decide) (by decide) dX7_termWord_56 ?_
            refine V.callV (pc := 58) (st := []) C (c_X7_isWord l hN 13 (by decide) m_10) obI ck_X7_isWord ml_RX7_76 rfl rfl sX39 (kX39 hN) rfl rfl (Nat.le_of_ble_eq_true rfl) ⟨by decide, by decide⟩ dX7_termWord_58 (fun r_11 m_12 _ => ?_)
            refine V.if_eq (pc := 61) C dX7_termWord_61 66 (by decide) (fun _ => ?_) (fun _ => ?_)
            · refine V.aload_n (pc := 66) C dX7_termWord_66 0 rfl ?_
              refine V.ldcs (pc := 67) (k := 14) C (by decide) (by decide) dX7_termWord_67 ?_
              refine V.callV (pc := 69) (st := []) C (c_X7_isWord l hN 14 (by decide) m_12) obI ck_X7_isWord ml_RX7_76 rfl rfl sX39 (kX39 hN) rfl rfl (Nat.le_of_ble_eq_true rfl) ⟨by decide, by decide⟩ dX7_termWord_69 (fun r_13 m_14 _ => ?_)
              refine V.if_eq (pc := 72) C dX7_termWord_72 80 (by decide) (fun _ => ?_) (fun _ => ?_)
              · refine V.iconst (pc := 80) C dX7_termWord_80 (v := (-1)) (by decide) ?_
                exact V.iret C dX7_termWord_81
              · refine V.bipush (pc := 75) C dX7_termWord_75 (v := 6) (by decide) ?_
                refine V.goto (pc := 77) C dX7_termWord_77 81 (by decide) ?_
                exact V.iret C dX7_termWord_81
            · refine V.iconst (pc := 64) C dX7_termWord_64 (v := 5) (by decide) ?_
              exact V.iret C dX7_termWord_65
          · refine V.iconst (pc := 53) C dX7_termWord_53 (v := 4) (by decide) ?_
            exact V.iret C dX7_termWord_54
        · refine V.iconst (pc := 42) C dX7_termWord_42 (v := 3) (by decide) ?_
          exact V.iret C dX7_termWord_43
      · refine V.iconst (pc := 31) C dX7_termWord_31 (v := 2) (by decide) ?_
        exact V.iret C dX7_termWord_32
    · refine V.iconst (pc := 20) C dX7_termWord_20 (v := 1) (by decide) ?_
      exact V.iret C dX7_termWord_21
  · refine V.iconst (pc := 9) C dX7_termWord_9 (v := 0) (by decide) ?_
    exact V.iret C dX7_termWord_10
theorem c_X7_termWord (l : Launch) {N : Nat} (hN : 109 ≤ N) (m : Mem) : Ct l yX7_termWord cX7_termWord 1 (some .int) 6 SX oI N N RX RX [.ref 39] m (X7_termWord   m) :=
  Ct.of (own := RX7) (nm := "termWord") (by decide) rfl rfl (Nat.le_of_ble_eq_true rfl) (fun _ _ _ _ _ _ _ _ _ _ _ C => v_X7_termWord C hN  m)
theorem dX7_readTruth_0 : decode cX7_readTruth 0 = .ok (.aload_n 0, 1) := by decide +kernel
theorem dX7_readTruth_1 : decode cX7_readTruth 1 = .ok (.iload_n 1, 1) := by decide +kernel
theorem dX7_readTruth_2 : decode cX7_readTruth 2 = .ok (.invokevirtual 156, 3) := by decide +kernel
theorem dX7_readTruth_5 : decode cX7_readTruth 5 = .ok (.istore_n 2, 1) := by decide +kernel
theorem dX7_readTruth_6 : decode cX7_readTruth 6 = .ok (.iconst 0, 1) := by decide +kernel
theorem dX7_readTruth_7 : decode cX7_readTruth 7 = .ok (.istore_n 3, 1) := by decide +kernel
theorem dX7_readTruth_8 : decode cX7_readTruth 8 = .ok (.iload_n 3, 1) := by decide +kernel
theorem dX7_readTruth_9 : decode cX7_readTruth 9 = .ok (.sipush 900, 3) := by decide +kernel
theorem dX7_readTruth_12 : decode cX7_readTruth 12 = .ok (.if_icmp .gt 41, 3) := by decide +kernel
theorem dX7_readTruth_15 : decode cX7_readTruth 15 = .ok (.iload_n 2, 1) := by decide +kernel
theorem dX7_readTruth_16 : decode cX7_readTruth 16 = .ok (.ifCond .eq 37, 3) := by decide +kernel
theorem dX7_readTruth_19 : decode cX7_readTruth 19 = .ok (.aload_n 0, 1) := by decide +kernel
theorem dX7_readTruth_20 : decode cX7_readTruth 20 = .ok (.ldc 159, 2) := by decide +kernel
theorem dX7_readTruth_22 : decode cX7_readTruth 22 = .ok (.invokevirtual 76, 3) := by decide +kernel
theorem dX7_readTruth_25 : decode cX7_readTruth 25 = .ok (.ifCond .eq 28, 3) := by decide +kernel
theorem dX7_readTruth_28 : decode cX7_readTruth 28 = .ok (.aload_n 0, 1) := by decide +kernel
theorem dX7_readTruth_29 : decode cX7_readTruth 29 = .ok (.invokevirtual 57, 3) := by decide +kernel
theorem dX7_readTruth_32 : decode cX7_readTruth 32 = .ok (.aload_n 0, 1) := by decide +kernel
theorem dX7_readTruth_33 : decode cX7_readTruth 33 = .ok (.iload_n 1, 1) := by decide +kernel
theorem dX7_readTruth_34 : decode cX7_readTruth 34 = .ok (.invokevirtual 156, 3) := by decide +kernel
theorem dX7_readTruth_37 : decode cX7_readTruth 37 = .ok (.istore_n 2, 1) := by decide +kernel
theorem dX7_readTruth_38 : decode cX7_readTruth 38 = .ok (.aload_n 0, 1) := by decide +kernel
theorem dX7_readTruth_39 : decode cX7_readTruth 39 = .ok (.getfield 29, 3) := by decide +kernel
theorem dX7_readTruth_42 : decode cX7_readTruth 42 = .ok (.bipush (-16), 2) := by decide +kernel
theorem dX7_readTruth_44 : decode cX7_readTruth 44 = .ok (.invokevirtual 161, 3) := by decide +kernel
theorem dX7_readTruth_47 : decode cX7_readTruth 47 = .ok (.iinc 3 1, 3) := by decide +kernel
theorem dX7_readTruth_50 : decode cX7_readTruth 50 = .ok (.goto (-42), 3) := by decide +kernel
theorem dX7_readTruth_53 : decode cX7_readTruth 53 = .ok (.iload_n 2, 1) := by decide +kernel
theorem dX7_readTruth_54 : decode cX7_readTruth 54 = .ok (.ireturn, 1) := by decide +kernel
set_option maxRecDepth 100000 in
set_option maxHeartbeats 4000000 in
theorem v_X7_readTruth_b8 {l : Launch} {p : Program} {e : Env} {s : State} {mt : MethodId} {args : Array Value} {below : List Frame} {meth : Method} {c : Code} {A : Nat → Prop} {ad0 : Nat → Nat} {G : Gt} {N : Nat} {fr fr1 : Nat} (hfr : fr1 + 1 ≤ fr ∧ 6 ≤ fr) (C : Cx G p s mt args meth c RX7 cX7_readTruth 4 (some .boolean) "readTruth" A) (hN : 109 ≤ N) (f_X7_readBoth : Int32 → Mem → Option (Int32 × Mem)) (h_X7_readBoth : ∀ (x1 : Int32) (m : Mem), Ct l yX7_readBoth cX7_readBoth 4 (some .boolean) fr1 SX oI N N RX RX [.ref 39, .int x1] m (f_X7_readBoth x1 m)) : ∀ (n : Nat) (y1 : Int32) (y2 : Int32) (y3 : Int32) (m : Mem), V G SX oI l p e s mt args below meth c 4 fr A ad0 N N RX N RX 8 [(0, .ref 39), (1, .int y1), (2, .int y2), (3, .int y3)] [] m (X7_readTruth_b8 f_X7_readBoth n y1 y2 y3 m) := by
  intro n
  induction n with
  | zero =>
    intro y1 y2 y3 m
    rw [X7_readTruth_b8]
    exact V.nil
  | succ n ih =>
    intro y1 y2 y3 m
    rw [X7_readTruth_b8]
    refine V.iload_n (pc := 8) C dX7_readTruth_8 3 rfl ?_
    refine V.sipush (pc := 9) C dX7_readTruth_9 (v := 900) (by decide) ?_
    refine V.icmp_gt (pc := 12) C dX7_readTruth_12 53 (by decide) (fun _ => ?_) (fun _ => ?_)
    · refine V.iload_n (pc := 53) C dX7_readTruth_53 2 rfl ?_
      exact V.bret C dX7_readTruth_54
    · refine V.iload_n (pc := 15) C dX7_readTruth_15 2 rfl ?_
      refine V.if_eq (pc := 16) C dX7_readTruth_16 53 (by decide) (fun _ => ?_) (fun _ => ?_)
      · refine V.iload_n (pc := 53) C dX7_readTruth_53 2 rfl ?_
        exact V.bret C dX7_readTruth_54
      · refine V.aload_n (pc := 19) C dX7_readTruth_19 0 rfl ?_
        refine V.ldcs (pc := 20) (k := 18) C (by decide) (by decide) dX7_readTruth_20 ?_
        refine V.callV (pc := 22) (st := []) C (c_X7_isWord l hN 18 (by decide) m) obI ck_X7_isWord ml_RX7_76 rfl rfl sX39 (kX39 hN) rfl rfl (Nat.le_of_ble_eq_true rfl) ⟨by omega, by decide⟩ dX7_readTruth_22 (fun r_3 m_4 _ => ?_)
        refine V.if_eq (pc := 25) C dX7_readTruth_25 53 (by decide) (fun _ => ?_) (fun _ => ?_)
        · refine V.iload_n (pc := 53) C dX7_readTruth_53 2 rfl ?_
          exact V.bret C dX7_readTruth_54
        · refine V.aload_n (pc := 28) C dX7_readTruth_28 0 rfl ?_
          refine V.callV (pc := 29) (st := []) C (c_X7_next l hN m_4) obV ck_X7_next ml_RX7_57 rfl rfl sX39 (kX39 hN) rfl rfl (Nat.le_of_ble_eq_true rfl) ⟨by omega, by decide⟩ dX7_readTruth_29 (fun r_5 m_6 _ => ?_)
          refine V.aload_n (pc := 32) C dX7_readTruth_32 0 rfl ?_
          refine V.iload_n (pc := 33) C dX7_readTruth_33 1 rfl ?_
          refine V.callV (pc := 34) (st := []) C (h_X7_readBoth y1 m_6) obI ck_X7_readBoth ml_RX7_156 rfl rfl sX39 (kX39 hN) rfl rfl (Nat.le_of_ble_eq_true rfl) ⟨by omega, by decide⟩ dX7_readTruth_34 (fun r_7 m_8 _ => ?_)
          refine V.istore_n (pc := 37) C dX7_readTruth_37 (L2 := [(2, .int r_7), (0, .ref 39), (1, .int y1), (3, .int y3)]) (by decide) rfl ?_
          refine V.aload_n (pc := 38) C dX7_readTruth_38 1 rfl ?_
          refine V.ck (fun h_10 => ?_)
          refine V.getd (pc := 39) C fl_RX7_29 sX39 (kX39 hN) rfl (okl_d h_10) dX7_readTruth_39 ?_
          refine V.ltr (fun b_9 eb_9 => ?_)
          have hb_9 : isLaw N b_9 := by rw [eb_9]; exact okl_law hN h_10
          refine V.bipush (pc := 42) C dX7_readTruth_42 (v := (-16)) (by decide) ?_
          refine V.callV (pc := 44) (st := []) C (c_X4_add l hN b_9 hb_9 (-16) m_8) obV ck_X4_add ml_RX7_161 rfl rfl hb_9.s hb_9.k rfl rfl (Nat.le_of_ble_eq_true rfl) ⟨by omega, by decide⟩ dX7_readTruth_44 (fun r_11 m_12 _ => ?_)
          refine V.iinc (pc := 47) C dX7_readTruth_47 (v := 1) (L2 := [(3, .int (y3 + 1)), (2, .int r_7), (0, .ref 39), (1, .int y1)]) 3 rfl (by decide) (by decide) rfl ?_
          refine V.goto (pc := 50) C dX7_readTruth_50 8 (by decide) ?_
          refine V.wk [2, 3, 1, 0] rfl ?_
          exact ih y1 r_7 (y3 + 1) m_12
set_option maxRecDepth 100000 in
set_option maxHeartbeats 4000000 in
theorem v_X7_readTruth {l : Launch} {p : Program} {e : Env} {s : State} {mt : MethodId} {args : Array Value} {below : List Frame} {meth : Method} {c : Code} {A : Nat → Prop} {ad0 : Nat → Nat} {G : Gt} {N : Nat} {fr fr1 : Nat} (hfr : fr1 + 1 ≤ fr ∧ 6 ≤ fr) (C : Cx G p s mt args meth c RX7 cX7_readTruth 4 (some .boolean) "readTruth" A) (hN : 109 ≤ N) (f_X7_readBoth : Int32 → Mem → Option (Int32 × Mem)) (h_X7_readBoth : ∀ (x1 : Int32) (m : Mem), Ct l yX7_readBoth cX7_readBoth 4 (some .boolean) fr1 SX oI N N RX RX [.ref 39, .int x1] m (f_X7_readBoth x1 m)) (x1 : Int32) (m : Mem) : V G SX oI l p e s mt args below meth c 4 fr A ad0 N N RX N RX 0 [(0, .ref 39), (1, .int x1)] [] m (X7_readTruth f_X7_readBoth x1 m) := by
  rw [X7_readTruth]
  refine V.aload_n (pc := 0) C dX7_readTruth_0 0 rfl ?_
  refine V.iload_n (pc := 1) C dX7_readTruth_1 1 rfl ?_
  refine V.callV (pc := 2) (st := []) C (h_X7_readBoth x1 m) obI ck_X7_readBoth ml_RX7_156 rfl rfl sX39 (kX39 hN) rfl rfl (Nat.le_of_ble_eq_true rfl) ⟨by omega, by decide⟩ dX7_readTruth_2 (fun r_1 m_2 _ => ?_)
  refine V.istore_n (pc := 5) C dX7_readTruth_5 (L2 := [(2, .int r_1), (0, .ref 39), (1, .int x1)]) (by decide) rfl ?_
  refine V.iconst (pc := 6) C dX7_readTruth_6 (v := 0) (by decide) ?_
  refine V.istore_n (pc := 7) C dX7_readTruth_7 (L2 := [(3, .int 0), (2, .int r_1), (0, .ref 39), (1, .int x1)]) (by decide) rfl ?_
  refine V.wk [2, 3, 1, 0] rfl ?_
  exact v_X7_readTruth_b8 hfr C hN f_X7_readBoth h_X7_readBoth FU x1 r_1 0 m_2
theorem c_X7_readTruth (l : Launch) {N : Nat} {fr fr1 : Nat} (hfr : fr1 + 1 ≤ fr ∧ 6 ≤ fr) (hN : 109 ≤ N) (f_X7_readBoth : Int32 → Mem → Option (Int32 × Mem)) (h_X7_readBoth : ∀ (x1 : Int32) (m : Mem), Ct l yX7_readBoth cX7_readBoth 4 (some .boolean) fr1 SX oI N N RX RX [.ref 39, .int x1] m (f_X7_readBoth x1 m)) (x1 : Int32) (m : Mem) : Ct l yX7_readTruth cX7_readTruth 4 (some .boolean) fr SX oI N N RX RX [.ref 39, .int x1] m (X7_readTruth f_X7_readBoth x1 m) :=
  Ct.of (own := RX7) (nm := "readTruth") (by decide) rfl rfl (Nat.le_of_ble_eq_true rfl) (fun _ _ _ _ _ _ _ _ _ _ _ C => v_X7_readTruth hfr C hN f_X7_readBoth h_X7_readBoth x1 m)
theorem dX7_readBoth_0 : decode cX7_readBoth 0 = .ok (.aload_n 0, 1) := by decide +kernel
theorem dX7_readBoth_1 : decode cX7_readBoth 1 = .ok (.iload_n 1, 1) := by decide +kernel
theorem dX7_readBoth_2 : decode cX7_readBoth 2 = .ok (.invokevirtual 165, 3) := by decide +kernel
theorem dX7_readBoth_5 : decode cX7_readBoth 5 = .ok (.istore_n 2, 1) := by decide +kernel
theorem dX7_readBoth_6 : decode cX7_readBoth 6 = .ok (.iconst 0, 1) := by decide +kernel
theorem dX7_readBoth_7 : decode cX7_readBoth 7 = .ok (.istore_n 3, 1) := by decide +kernel
theorem dX7_readBoth_8 : decode cX7_readBoth 8 = .ok (.iload_n 3, 1) := by decide +kernel
theorem dX7_readBoth_9 : decode cX7_readBoth 9 = .ok (.sipush 900, 3) := by decide +kernel
theorem dX7_readBoth_12 : decode cX7_readBoth 12 = .ok (.if_icmp .gt 41, 3) := by decide +kernel
theorem dX7_readBoth_15 : decode cX7_readBoth 15 = .ok (.iload_n 2, 1) := by decide +kernel
theorem dX7_readBoth_16 : decode cX7_readBoth 16 = .ok (.ifCond .eq 37, 3) := by decide +kernel
theorem dX7_readBoth_19 : decode cX7_readBoth 19 = .ok (.aload_n 0, 1) := by decide +kernel
theorem dX7_readBoth_20 : decode cX7_readBoth 20 = .ok (.ldc 168, 2) := by decide +kernel
theorem dX7_readBoth_22 : decode cX7_readBoth 22 = .ok (.invokevirtual 76, 3) := by decide +kernel
theorem dX7_readBoth_25 : decode cX7_readBoth 25 = .ok (.ifCond .eq 28, 3) := by decide +kernel
theorem dX7_readBoth_28 : decode cX7_readBoth 28 = .ok (.aload_n 0, 1) := by decide +kernel
theorem dX7_readBoth_29 : decode cX7_readBoth 29 = .ok (.invokevirtual 57, 3) := by decide +kernel
theorem dX7_readBoth_32 : decode cX7_readBoth 32 = .ok (.aload_n 0, 1) := by decide +kernel
theorem dX7_readBoth_33 : decode cX7_readBoth 33 = .ok (.iload_n 1, 1) := by decide +kernel
theorem dX7_readBoth_34 : decode cX7_readBoth 34 = .ok (.invokevirtual 165, 3) := by decide +kernel
theorem dX7_readBoth_37 : decode cX7_readBoth 37 = .ok (.istore_n 2, 1) := by decide +kernel
theorem dX7_readBoth_38 : decode cX7_readBoth 38 = .ok (.aload_n 0, 1) := by decide +kernel
theorem dX7_readBoth_39 : decode cX7_readBoth 39 = .ok (.getfield 29, 3) := by decide +kernel
theorem dX7_readBoth_42 : decode cX7_readBoth 42 = .ok (.bipush (-15), 2) := by decide +kernel
theorem dX7_readBoth_44 : decode cX7_readBoth 44 = .ok (.invokevirtual 161, 3) := by decide +kernel
theorem dX7_readBoth_47 : decode cX7_readBoth 47 = .ok (.iinc 3 1, 3) := by decide +kernel
theorem dX7_readBoth_50 : decode cX7_readBoth 50 = .ok (.goto (-42), 3) := by decide +kernel
theorem dX7_readBoth_53 : decode cX7_readBoth 53 = .ok (.iload_n 2, 1) := by decide +kernel
theorem dX7_readBoth_54 : decode cX7_readBoth 54 = .ok (.ireturn, 1) := by decide +kernel
set_option maxRecDepth 100000 in
set_option maxHeartbeats 4000000 in
theorem v_X7_readBoth_b8 {l : Launch} {p : Program} {e : Env} {s : State} {mt : MethodId} {args : Array Value} {below : List Frame} {meth : Method} {c : Code} {A : Nat → Prop} {ad0 : Nat → Nat} {G : Gt} {N : Nat} {fr fr1 : Nat} (hfr : fr1 + 1 ≤ fr ∧ 6 ≤ fr) (C : Cx G p s mt args meth c RX7 cX7_readBoth 4 (some .boolean) "readBoth" A) (hN : 109 ≤ N) (f_X7_readUnit : Int32 → Mem → Option (Int32 × Mem)) (h_X7_readUnit : ∀ (x1 : Int32) (m : Mem), Ct l yX7_readUnit cX7_readUnit 4 (some .boolean) fr1 SX oI N N RX RX [.ref 39, .int x1] m (f_X7_readUnit x1 m)) : ∀ (n : Nat) (y1 : Int32) (y2 : Int32) (y3 : Int32) (m : Mem), V G SX oI l p e s mt args below meth c 4 fr A ad0 N N RX N RX 8 [(0, .ref 39), (1, .int y1), (2, .int y2), (3, .int y3)] [] m (X7_readBoth_b8 f_X7_readUnit n y1 y2 y3 m) := by
  intro n
  induction n with
  | zero =>
    intro y1 y2 y3 m
    rw [X7_readBoth_b8]
    exact V.nil
  | succ n ih =>
    intro y1 y2 y3 m
    rw [X7_readBoth_b8]
    refine V.iload_n (pc := 8) C dX7_readBoth_8 3 rfl ?_
    refine V.sipush (pc := 9) C dX7_readBoth_9 (v := 900) (by decide) ?_
    refine V.icmp_gt (pc := 12) C dX7_readBoth_12 53 (by decide) (fun _ => ?_) (fun _ => ?_)
    · refine V.iload_n (pc := 53) C dX7_readBoth_53 2 rfl ?_
      exact V.bret C dX7_readBoth_54
    · refine V.iload_n (pc := 15) C dX7_readBoth_15 2 rfl ?_
      refine V.if_eq (pc := 16) C dX7_readBoth_16 53 (by decide) (fun _ => ?_) (fun _ => ?_)
      · refine V.iload_n (pc := 53) C dX7_readBoth_53 2 rfl ?_
        exact V.bret C dX7_readBoth_54
      · refine V.aload_n (pc := 19) C dX7_readBoth_19 0 rfl ?_
        refine V.ldcs (pc := 20) (k := 17) C (by decide) (by decide) dX7_readBoth_20 ?_
        refine V.callV (pc := 22) (st := []) C (c_X7_isWord l hN 17 (by decide) m) obI ck_X7_isWord ml_RX7_76 rfl rfl sX39 (kX39 hN) rfl rfl (Nat.le_of_ble_eq_true rfl) ⟨by omega, by decide⟩ dX7_readBoth_22 (fun r_3 m_4 _ => ?_)
        refine V.if_eq (pc := 25) C dX7_readBoth_25 53 (by decide) (fun _ => ?_) (fun _ => ?_)
        · refine V.iload_n (pc := 53) C dX7_readBoth_53 2 rfl ?_
          exact V.bret C dX7_readBoth_54
        · refine V.aload_n (pc := 28) C dX7_readBoth_28 0 rfl ?_
          refine V.callV (pc := 29) (st := []) C (c_X7_next l hN m_4) obV ck_X7_next ml_RX7_57 rfl rfl sX39 (kX39 hN) rfl rfl (Nat.le_of_ble_eq_true rfl) ⟨by omega, by decide⟩ dX7_readBoth_29 (fun r_5 m_6 _ => ?_)
          refine V.aload_n (pc := 32) C dX7_readBoth_32 0 rfl ?_
          refine V.iload_n (pc := 33) C dX7_readBoth_33 1 rfl ?_
          refine V.callV (pc := 34) (st := []) C (h_X7_readUnit y1 m_6) obI ck_X7_readUnit ml_RX7_165 rfl rfl sX39 (kX39 hN) rfl rfl (Nat.le_of_ble_eq_true rfl) ⟨by omega, by decide⟩ dX7_readBoth_34 (fun r_7 m_8 _ => ?_)
          refine V.istore_n (pc := 37) C dX7_readBoth_37 (L2 := [(2, .int r_7), (0, .ref 39), (1, .int y1), (3, .int y3)]) (by decide) rfl ?_
          refine V.aload_n (pc := 38) C dX7_readBoth_38 1 rfl ?_
          refine V.ck (fun h_10 => ?_)
          refine V.getd (pc := 39) C fl_RX7_29 sX39 (kX39 hN) rfl (okl_d h_10) dX7_readBoth_39 ?_
          refine V.ltr (fun b_9 eb_9 => ?_)
          have hb_9 : isLaw N b_9 := by rw [eb_9]; exact okl_law hN h_10
          refine V.bipush (pc := 42) C dX7_readBoth_42 (v := (-15)) (by decide) ?_
          refine V.callV (pc := 44) (st := []) C (c_X4_add l hN b_9 hb_9 (-15) m_8) obV ck_X4_add ml_RX7_161 rfl rfl hb_9.s hb_9.k rfl rfl (Nat.le_of_ble_eq_true rfl) ⟨by omega, by decide⟩ dX7_readBoth_44 (fun r_11 m_12 _ => ?_)
          refine V.iinc (pc := 47) C dX7_readBoth_47 (v := 1) (L2 := [(3, .int (y3 + 1)), (2, .int r_7), (0, .ref 39), (1, .int y1)]) 3 rfl (by decide) (by decide) rfl ?_
          refine V.goto (pc := 50) C dX7_readBoth_50 8 (by decide) ?_
          refine V.wk [2, 3, 1, 0] rfl ?_
          exact ih y1 r_7 (y3 + 1) m_12
set_option maxRecDepth 100000 in
set_option maxHeartbeats 4000000 in
theorem v_X7_readBoth {l : Launch} {p : Program} {e : Env} {s : State} {mt : MethodId} {args : Array Value} {below : List Frame} {meth : Method} {c : Code} {A : Nat → Prop} {ad0 : Nat → Nat} {G : Gt} {N : Nat} {fr fr1 : Nat} (hfr : fr1 + 1 ≤ fr ∧ 6 ≤ fr) (C : Cx G p s mt args meth c RX7 cX7_readBoth 4 (some .boolean) "readBoth" A) (hN : 109 ≤ N) (f_X7_readUnit : Int32 → Mem → Option (Int32 × Mem)) (h_X7_readUnit : ∀ (x1 : Int32) (m : Mem), Ct l yX7_readUnit cX7_readUnit 4 (some .boolean) fr1 SX oI N N RX RX [.ref 39, .int x1] m (f_X7_readUnit x1 m)) (x1 : Int32) (m : Mem) : V G SX oI l p e s mt args below meth c 4 fr A ad0 N N RX N RX 0 [(0, .ref 39), (1, .int x1)] [] m (X7_readBoth f_X7_readUnit x1 m) := by
  rw [X7_readBoth]
  refine V.aload_n (pc := 0) C dX7_readBoth_0 0 rfl ?_
  refine V.iload_n (pc := 1) C dX7_readBoth_1 1 rfl ?_
  refine V.callV (pc := 2) (st := []) C (h_X7_readUnit x1 m) obI ck_X7_readUnit ml_RX7_165 rfl rfl sX39 (kX39 hN) rfl rfl (Nat.le_of_ble_eq_true rfl) ⟨by omega, by decide⟩ dX7_readBoth_2 (fun r_1 m_2 _ => ?_)
  refine V.istore_n (pc := 5) C dX7_readBoth_5 (L2 := [(2, .int r_1), (0, .ref 39), (1, .int x1)]) (by decide) rfl ?_
  refine V.iconst (pc := 6) C dX7_readBoth_6 (v := 0) (by decide) ?_
  refine V.istore_n (pc := 7) C dX7_readBoth_7 (L2 := [(3, .int 0), (2, .int r_1), (0, .ref 39), (1, .int x1)]) (by decide) rfl ?_
  refine V.wk [2, 3, 1, 0] rfl ?_
  exact v_X7_readBoth_b8 hfr C hN f_X7_readUnit h_X7_readUnit FU x1 r_1 0 m_2
theorem c_X7_readBoth (l : Launch) {N : Nat} {fr fr1 : Nat} (hfr : fr1 + 1 ≤ fr ∧ 6 ≤ fr) (hN : 109 ≤ N) (f_X7_readUnit : Int32 → Mem → Option (Int32 × Mem)) (h_X7_readUnit : ∀ (x1 : Int32) (m : Mem), Ct l yX7_readUnit cX7_readUnit 4 (some .boolean) fr1 SX oI N N RX RX [.ref 39, .int x1] m (f_X7_readUnit x1 m)) (x1 : Int32) (m : Mem) : Ct l yX7_readBoth cX7_readBoth 4 (some .boolean) fr SX oI N N RX RX [.ref 39, .int x1] m (X7_readBoth f_X7_readUnit x1 m) :=
  Ct.of (own := RX7) (nm := "readBoth") (by decide) rfl rfl (Nat.le_of_ble_eq_true rfl) (fun _ _ _ _ _ _ _ _ _ _ _ C => v_X7_readBoth hfr C hN f_X7_readUnit h_X7_readUnit x1 m)
theorem dX7_readUnit_0 : decode cX7_readUnit 0 = .ok (.aload_n 0, 1) := by decide +kernel
theorem dX7_readUnit_1 : decode cX7_readUnit 1 = .ok (.ldc 170, 2) := by decide +kernel
theorem dX7_readUnit_3 : decode cX7_readUnit 3 = .ok (.invokevirtual 76, 3) := by decide +kernel
theorem dX7_readUnit_6 : decode cX7_readUnit 6 = .ok (.ifCond .eq 34, 3) := by decide +kernel
theorem dX7_readUnit_9 : decode cX7_readUnit 9 = .ok (.aload_n 0, 1) := by decide +kernel
theorem dX7_readUnit_10 : decode cX7_readUnit 10 = .ok (.iload_n 1, 1) := by decide +kernel
theorem dX7_readUnit_11 : decode cX7_readUnit 11 = .ok (.invokevirtual 172, 3) := by decide +kernel
theorem dX7_readUnit_14 : decode cX7_readUnit 14 = .ok (.ifCond .eq 13, 3) := by decide +kernel
theorem dX7_readUnit_17 : decode cX7_readUnit 17 = .ok (.aload_n 0, 1) := by decide +kernel
theorem dX7_readUnit_18 : decode cX7_readUnit 18 = .ok (.iload_n 1, 1) := by decide +kernel
theorem dX7_readUnit_19 : decode cX7_readUnit 19 = .ok (.iconst 1, 1) := by decide +kernel
theorem dX7_readUnit_20 : decode cX7_readUnit 20 = .ok (.iadd, 1) := by decide +kernel
theorem dX7_readUnit_21 : decode cX7_readUnit 21 = .ok (.invokevirtual 165, 3) := by decide +kernel
theorem dX7_readUnit_24 : decode cX7_readUnit 24 = .ok (.ifCond .ne 5, 3) := by decide +kernel
theorem dX7_readUnit_27 : decode cX7_readUnit 27 = .ok (.iconst 0, 1) := by decide +kernel
theorem dX7_readUnit_28 : decode cX7_readUnit 28 = .ok (.ireturn, 1) := by decide +kernel
theorem dX7_readUnit_29 : decode cX7_readUnit 29 = .ok (.aload_n 0, 1) := by decide +kernel
theorem dX7_readUnit_30 : decode cX7_readUnit 30 = .ok (.getfield 29, 3) := by decide +kernel
theorem dX7_readUnit_33 : decode cX7_readUnit 33 = .ok (.bipush (-14), 2) := by decide +kernel
theorem dX7_readUnit_35 : decode cX7_readUnit 35 = .ok (.invokevirtual 161, 3) := by decide +kernel
theorem dX7_readUnit_38 : decode cX7_readUnit 38 = .ok (.iconst 1, 1) := by decide +kernel
theorem dX7_readUnit_39 : decode cX7_readUnit 39 = .ok (.ireturn, 1) := by decide +kernel
theorem dX7_readUnit_40 : decode cX7_readUnit 40 = .ok (.aload_n 0, 1) := by decide +kernel
theorem dX7_readUnit_41 : decode cX7_readUnit 41 = .ok (.getfield 60, 3) := by decide +kernel
theorem dX7_readUnit_44 : decode cX7_readUnit 44 = .ok (.bipush 91, 2) := by decide +kernel
theorem dX7_readUnit_46 : decode cX7_readUnit 46 = .ok (.if_icmp .ne 36, 3) := by decide +kernel
theorem dX7_readUnit_49 : decode cX7_readUnit 49 = .ok (.aload_n 0, 1) := by decide +kernel
theorem dX7_readUnit_50 : decode cX7_readUnit 50 = .ok (.iload_n 1, 1) := by decide +kernel
theorem dX7_readUnit_51 : decode cX7_readUnit 51 = .ok (.invokevirtual 172, 3) := by decide +kernel
theorem dX7_readUnit_54 : decode cX7_readUnit 54 = .ok (.ifCond .eq 26, 3) := by decide +kernel
theorem dX7_readUnit_57 : decode cX7_readUnit 57 = .ok (.aload_n 0, 1) := by decide +kernel
theorem dX7_readUnit_58 : decode cX7_readUnit 58 = .ok (.iload_n 1, 1) := by decide +kernel
theorem dX7_readUnit_59 : decode cX7_readUnit 59 = .ok (.iconst 1, 1) := by decide +kernel
theorem dX7_readUnit_60 : decode cX7_readUnit 60 = .ok (.iadd, 1) := by decide +kernel
theorem dX7_readUnit_61 : decode cX7_readUnit 61 = .ok (.invokevirtual 103, 3) := by decide +kernel
theorem dX7_readUnit_64 : decode cX7_readUnit 64 = .ok (.ifCond .eq 16, 3) := by decide +kernel
theorem dX7_readUnit_67 : decode cX7_readUnit 67 = .ok (.aload_n 0, 1) := by decide +kernel
theorem dX7_readUnit_68 : decode cX7_readUnit 68 = .ok (.bipush 93, 2) := by decide +kernel
theorem dX7_readUnit_70 : decode cX7_readUnit 70 = .ok (.invokevirtual 67, 3) := by decide +kernel
theorem dX7_readUnit_73 : decode cX7_readUnit 73 = .ok (.ifCond .eq 7, 3) := by decide +kernel
theorem dX7_readUnit_76 : decode cX7_readUnit 76 = .ok (.iconst 1, 1) := by decide +kernel
theorem dX7_readUnit_77 : decode cX7_readUnit 77 = .ok (.goto 4, 3) := by decide +kernel
theorem dX7_readUnit_80 : decode cX7_readUnit 80 = .ok (.iconst 0, 1) := by decide +kernel
theorem dX7_readUnit_81 : decode cX7_readUnit 81 = .ok (.ireturn, 1) := by decide +kernel
theorem dX7_readUnit_82 : decode cX7_readUnit 82 = .ok (.aload_n 0, 1) := by decide +kernel
theorem dX7_readUnit_83 : decode cX7_readUnit 83 = .ok (.iload_n 1, 1) := by decide +kernel
theorem dX7_readUnit_84 : decode cX7_readUnit 84 = .ok (.invokevirtual 95, 3) := by decide +kernel
theorem dX7_readUnit_87 : decode cX7_readUnit 87 = .ok (.ifCond .ne 5, 3) := by decide +kernel
theorem dX7_readUnit_90 : decode cX7_readUnit 90 = .ok (.iconst 0, 1) := by decide +kernel
theorem dX7_readUnit_91 : decode cX7_readUnit 91 = .ok (.ireturn, 1) := by decide +kernel
theorem dX7_readUnit_92 : decode cX7_readUnit 92 = .ok (.aload_n 0, 1) := by decide +kernel
theorem dX7_readUnit_93 : decode cX7_readUnit 93 = .ok (.invokevirtual 175, 3) := by decide +kernel
theorem dX7_readUnit_96 : decode cX7_readUnit 96 = .ok (.istore_n 2, 1) := by decide +kernel
theorem dX7_readUnit_97 : decode cX7_readUnit 97 = .ok (.iload_n 2, 1) := by decide +kernel
theorem dX7_readUnit_98 : decode cX7_readUnit 98 = .ok (.ifCond .ne 8, 3) := by decide +kernel
theorem dX7_readUnit_101 : decode cX7_readUnit 101 = .ok (.aload_n 0, 1) := by decide +kernel
theorem dX7_readUnit_102 : decode cX7_readUnit 102 = .ok (.invokevirtual 117, 3) := by decide +kernel
theorem dX7_readUnit_105 : decode cX7_readUnit 105 = .ok (.ireturn, 1) := by decide +kernel
theorem dX7_readUnit_106 : decode cX7_readUnit 106 = .ok (.aload_n 0, 1) := by decide +kernel
theorem dX7_readUnit_107 : decode cX7_readUnit 107 = .ok (.invokevirtual 57, 3) := by decide +kernel
theorem dX7_readUnit_110 : decode cX7_readUnit 110 = .ok (.aload_n 0, 1) := by decide +kernel
theorem dX7_readUnit_111 : decode cX7_readUnit 111 = .ok (.iload_n 1, 1) := by decide +kernel
theorem dX7_readUnit_112 : decode cX7_readUnit 112 = .ok (.invokevirtual 95, 3) := by decide +kernel
theorem dX7_readUnit_115 : decode cX7_readUnit 115 = .ok (.istore_n 3, 1) := by decide +kernel
theorem dX7_readUnit_116 : decode cX7_readUnit 116 = .ok (.aload_n 0, 1) := by decide +kernel
theorem dX7_readUnit_117 : decode cX7_readUnit 117 = .ok (.getfield 29, 3) := by decide +kernel
theorem dX7_readUnit_120 : decode cX7_readUnit 120 = .ok (.iload_n 2, 1) := by decide +kernel
theorem dX7_readUnit_121 : decode cX7_readUnit 121 = .ok (.invokevirtual 161, 3) := by decide +kernel
theorem dX7_readUnit_124 : decode cX7_readUnit 124 = .ok (.iload_n 3, 1) := by decide +kernel
theorem dX7_readUnit_125 : decode cX7_readUnit 125 = .ok (.ireturn, 1) := by decide +kernel
set_option maxRecDepth 100000 in
set_option maxHeartbeats 4000000 in
theorem v_X7_readUnit {l : Launch} {p : Program} {e : Env} {s : State} {mt : MethodId} {args : Array Value} {below : List Frame} {meth : Method} {c : Code} {A : Nat → Prop} {ad0 : Nat → Nat} {G : Gt} {N : Nat} {fr fr1 : Nat} (hfr : fr1 + 1 ≤ fr ∧ 7 ≤ fr) (C : Cx G p s mt args meth c RX7 cX7_readUnit 4 (some .boolean) "readUnit" A) (hN : 109 ≤ N) (f_X7_readTruth : Int32 → Mem → Option (Int32 × Mem)) (h_X7_readTruth : ∀ (x1 : Int32) (m : Mem), Ct l yX7_readTruth cX7_readTruth 4 (some .boolean) fr1 SX oI N N RX RX [.ref 39, .int x1] m (f_X7_readTruth x1 m)) (f_X7_readUnit : Int32 → Mem → Option (Int32 × Mem)) (h_X7_readUnit : ∀ (x1 : Int32) (m : Mem), Ct l yX7_readUnit cX7_readUnit 4 (some .boolean) fr1 SX oI N N RX RX [.ref 39, .int x1] m (f_X7_readUnit x1 m)) (f_X7_readSum : Int32 → Mem → Option (Int32 × Mem)) (h_X7_readSum : ∀ (x1 : Int32) (m : Mem), Ct l yX7_readSum cX7_readSum 5 (some .boolean) fr1 SX oI N N RX RX [.ref 39, .int x1] m (f_X7_readSum x1 m)) (x1 : Int32) (m : Mem) : V G SX oI l p e s mt args below meth c 4 fr A ad0 N N RX N RX 0 [(0, .ref 39), (1, .int x1)] [] m (X7_readUnit f_X7_readTruth f_X7_readUnit f_X7_readSum x1 m) := by
  rw [X7_readUnit]
  refine V.aload_n (pc := 0) C dX7_readUnit_0 0 rfl ?_
  refine V.ldcs (pc := 1) (k := 16) C (by decide) (by decide) dX7_readUnit_1 ?_
  refine V.callV (pc := 3) (st := []) C (c_X7_isWord l hN 16 (by decide) m) obI ck_X7_isWord ml_RX7_76 rfl rfl sX39 (kX39 hN) rfl rfl (Nat.le_of_ble_eq_true rfl) ⟨by omega, by decide⟩ dX7_readUnit_3 (fun r_1 m_2 _ => ?_)
  refine V.if_eq (pc := 6) C dX7_readUnit_6 40 (by decide) (fun _ => ?_) (fun _ => ?_)
  · refine V.aload_n (pc := 40) C dX7_readUnit_40 0 rfl ?_
    refine V.geti (pc := 41) C fl_RX7_60 sX39 (kX39 hN) rfl dX7_readUnit_41 ?_
    refine V.bipush (pc := 44) C dX7_readUnit_44 (v := 91) (by decide) ?_
    refine V.icmp_ne (pc := 46) C dX7_readUnit_46 82 (by decide) (fun _ => ?_) (fun _ => ?_)
    · refine V.aload_n (pc := 82) C dX7_readUnit_82 0 rfl ?_
      refine V.iload_n (pc := 83) C dX7_readUnit_83 1 rfl ?_
      refine V.callV (pc := 84) (st := []) C (h_X7_readSum x1 m_2) obI ck_X7_readSum ml_RX7_95 rfl rfl sX39 (kX39 hN) rfl rfl (Nat.le_of_ble_eq_true rfl) ⟨by omega, by decide⟩ dX7_readUnit_84 (fun r_3 m_4 _ => ?_)
      refine V.if_ne (pc := 87) C dX7_readUnit_87 92 (by decide) (fun _ => ?_) (fun _ => ?_)
      · refine V.aload_n (pc := 92) C dX7_readUnit_92 0 rfl ?_
        refine V.callV (pc := 93) (st := []) C (c_X7_comparison l hN m_4) obI ck_X7_comparison ml_RX7_175 rfl rfl sX39 (kX39 hN) rfl rfl (Nat.le_of_ble_eq_true rfl) ⟨by omega, by decide⟩ dX7_readUnit_93 (fun r_5 m_6 _ => ?_)
        refine V.istore_n (pc := 96) C dX7_readUnit_96 (L2 := [(2, .int r_5), (0, .ref 39), (1, .int x1)]) (by decide) rfl ?_
        refine V.iload_n (pc := 97) C dX7_readUnit_97 0 rfl ?_
        refine V.if_ne (pc := 98) C dX7_readUnit_98 106 (by decide) (fun _ => ?_) (fun _ => ?_)
        · refine V.aload_n (pc := 106) C dX7_readUnit_106 1 rfl ?_
          refine V.callV (pc := 107) (st := []) C (c_X7_next l hN m_6) obV ck_X7_next ml_RX7_57 rfl rfl sX39 (kX39 hN) rfl rfl (Nat.le_of_ble_eq_true rfl) ⟨by omega, by decide⟩ dX7_readUnit_107 (fun r_7 m_8 _ => ?_)
          refine V.aload_n (pc := 110) C dX7_readUnit_110 1 rfl ?_
          refine V.iload_n (pc := 111) C dX7_readUnit_111 2 rfl ?_
          refine V.callV (pc := 112) (st := []) C (h_X7_readSum x1 m_8) obI ck_X7_readSum ml_RX7_95 rfl rfl sX39 (kX39 hN) rfl rfl (Nat.le_of_ble_eq_true rfl) ⟨by omega, by decide⟩ dX7_readUnit_112 (fun r_9 m_10 _ => ?_)
          refine V.istore_n (pc := 115) C dX7_readUnit_115 (L2 := [(3, .int r_9), (2, .int r_5), (0, .ref 39), (1, .int x1)]) (by decide) rfl ?_
          refine V.aload_n (pc := 116) C dX7_readUnit_116 2 rfl ?_
          refine V.ck (fun h_12 => ?_)
          refine V.getd (pc := 117) C fl_RX7_29 sX39 (kX39 hN) rfl (okl_d h_12) dX7_readUnit_117 ?_
          refine V.ltr (fun b_11 eb_11 => ?_)
          have hb_11 : isLaw N b_11 := by rw [eb_11]; exact okl_law hN h_12
          refine V.iload_n (pc := 120) C dX7_readUnit_120 1 rfl ?_
          refine V.callV (pc := 121) (st := []) C (c_X4_add l hN b_11 hb_11 r_5 m_10) obV ck_X4_add ml_RX7_161 rfl rfl hb_11.s hb_11.k rfl rfl (Nat.le_of_ble_eq_true rfl) ⟨by omega, by decide⟩ dX7_readUnit_121 (fun r_13 m_14 _ => ?_)
          refine V.iload_n (pc := 124) C dX7_readUnit_124 0 rfl ?_
          exact V.bret C dX7_readUnit_125
        · refine V.aload_n (pc := 101) C dX7_readUnit_101 1 rfl ?_
          refine V.callV (pc := 102) (st := []) C (c_X7_refuse l hN m_6) obI ck_X7_refuse ml_RX7_117 rfl rfl sX39 (kX39 hN) rfl rfl (Nat.le_of_ble_eq_true rfl) ⟨by omega, by decide⟩ dX7_readUnit_102 (fun r_15 m_16 _ => ?_)
          exact V.bret C dX7_readUnit_105
      · refine V.iconst (pc := 90) C dX7_readUnit_90 (v := 0) (by decide) ?_
        exact V.zret rfl C dX7_readUnit_91
    · refine V.aload_n (pc := 49) C dX7_readUnit_49 0 rfl ?_
      refine V.iload_n (pc := 50) C dX7_readUnit_50 1 rfl ?_
      refine V.callV (pc := 51) (st := []) C (c_X7_goDeeper l hN x1 m_2) obI ck_X7_goDeeper ml_RX7_172 rfl rfl sX39 (kX39 hN) rfl rfl (Nat.le_of_ble_eq_true rfl) ⟨by omega, by decide⟩ dX7_readUnit_51 (fun r_17 m_18 _ => ?_)
      refine V.if_eq (pc := 54) C dX7_readUnit_54 80 (by decide) (fun _ => ?_) (fun _ => ?_)
      · refine V.iconst (pc := 80) C dX7_readUnit_80 (v := 0) (by decide) ?_
        exact V.zret rfl C dX7_readUnit_81
      · refine V.aload_n (pc := 57) C dX7_readUnit_57 0 rfl ?_
        refine V.iload_n (pc := 58) C dX7_readUnit_58 1 rfl ?_
        refine V.iconst (pc := 59) C dX7_readUnit_59 (v := 1) (by decide) ?_
        refine V.iadd (pc := 60) C dX7_readUnit_60 ?_
        refine V.callV (pc := 61) (st := []) C (h_X7_readTruth (x1 + 1) m_18) obI ck_X7_readTruth ml_RX7_103 rfl rfl sX39 (kX39 hN) rfl rfl (Nat.le_of_ble_eq_true rfl) ⟨by omega, by decide⟩ dX7_readUnit_61 (fun r_19 m_20 _ => ?_)
        refine V.if_eq (pc := 64) C dX7_readUnit_64 80 (by decide) (fun _ => ?_) (fun _ => ?_)
        · refine V.iconst (pc := 80) C dX7_readUnit_80 (v := 0) (by decide) ?_
          exact V.zret rfl C dX7_readUnit_81
        · refine V.aload_n (pc := 67) C dX7_readUnit_67 0 rfl ?_
          refine V.bipush (pc := 68) C dX7_readUnit_68 (v := 93) (by decide) ?_
          refine V.callV (pc := 70) (st := []) C (c_X7_pass l hN 93 m_20) obI ck_X7_pass ml_RX7_67 rfl rfl sX39 (kX39 hN) rfl rfl (Nat.le_of_ble_eq_true rfl) ⟨by omega, by decide⟩ dX7_readUnit_70 (fun r_21 m_22 _ => ?_)
          refine V.if_eq (pc := 73) C dX7_readUnit_73 80 (by decide) (fun _ => ?_) (fun _ => ?_)
          · refine V.iconst (pc := 80) C dX7_readUnit_80 (v := 0) (by decide) ?_
            exact V.zret rfl C dX7_readUnit_81
          · refine V.iconst (pc := 76) C dX7_readUnit_76 (v := 1) (by decide) ?_
            refine V.goto (pc := 77) C dX7_readUnit_77 81 (by decide) ?_
            exact V.zret rfl C dX7_readUnit_81
  · refine V.aload_n (pc := 9) C dX7_readUnit_9 0 rfl ?_
    refine V.iload_n (pc := 10) C dX7_readUnit_10 1 rfl ?_
    refine V.callV (pc := 11) (st := []) C (c_X7_goDeeper l hN x1 m_2) obI ck_X7_goDeeper ml_RX7_172 rfl rfl sX39 (kX39 hN) rfl rfl (Nat.le_of_ble_eq_true rfl) ⟨by omega, by decide⟩ dX7_readUnit_11 (fun r_23 m_24 _ => ?_)
    refine V.if_eq (pc := 14) C dX7_readUnit_14 27 (by decide) (fun _ => ?_) (fun _ => ?_)
    · refine V.iconst (pc := 27) C dX7_readUnit_27 (v := 0) (by decide) ?_
      exact V.zret rfl C dX7_readUnit_28
    · refine V.aload_n (pc := 17) C dX7_readUnit_17 0 rfl ?_
      refine V.iload_n (pc := 18) C dX7_readUnit_18 1 rfl ?_
      refine V.iconst (pc := 19) C dX7_readUnit_19 (v := 1) (by decide) ?_
      refine V.iadd (pc := 20) C dX7_readUnit_20 ?_
      refine V.callV (pc := 21) (st := []) C (h_X7_readUnit (x1 + 1) m_24) obI ck_X7_readUnit ml_RX7_165 rfl rfl sX39 (kX39 hN) rfl rfl (Nat.le_of_ble_eq_true rfl) ⟨by omega, by decide⟩ dX7_readUnit_21 (fun r_25 m_26 _ => ?_)
      refine V.if_ne (pc := 24) C dX7_readUnit_24 29 (by decide) (fun _ => ?_) (fun _ => ?_)
      · refine V.aload_n (pc := 29) C dX7_readUnit_29 0 rfl ?_
        refine V.ck (fun h_28 => ?_)
        refine V.getd (pc := 30) C fl_RX7_29 sX39 (kX39 hN) rfl (okl_d h_28) dX7_readUnit_30 ?_
        refine V.ltr (fun b_27 eb_27 => ?_)
        have hb_27 : isLaw N b_27 := by rw [eb_27]; exact okl_law hN h_28
        refine V.bipush (pc := 33) C dX7_readUnit_33 (v := (-14)) (by decide) ?_
        refine V.callV (pc := 35) (st := []) C (c_X4_add l hN b_27 hb_27 (-14) m_26) obV ck_X4_add ml_RX7_161 rfl rfl hb_27.s hb_27.k rfl rfl (Nat.le_of_ble_eq_true rfl) ⟨by omega, by decide⟩ dX7_readUnit_35 (fun r_29 m_30 _ => ?_)
        refine V.iconst (pc := 38) C dX7_readUnit_38 (v := 1) (by decide) ?_
        exact V.zret rfl C dX7_readUnit_39
      · refine V.iconst (pc := 27) C dX7_readUnit_27 (v := 0) (by decide) ?_
        exact V.zret rfl C dX7_readUnit_28
theorem c_X7_readUnit (l : Launch) {N : Nat} {fr fr1 : Nat} (hfr : fr1 + 1 ≤ fr ∧ 7 ≤ fr) (hN : 109 ≤ N) (f_X7_readTruth : Int32 → Mem → Option (Int32 × Mem)) (h_X7_readTruth : ∀ (x1 : Int32) (m : Mem), Ct l yX7_readTruth cX7_readTruth 4 (some .boolean) fr1 SX oI N N RX RX [.ref 39, .int x1] m (f_X7_readTruth x1 m)) (f_X7_readUnit : Int32 → Mem → Option (Int32 × Mem)) (h_X7_readUnit : ∀ (x1 : Int32) (m : Mem), Ct l yX7_readUnit cX7_readUnit 4 (some .boolean) fr1 SX oI N N RX RX [.ref 39, .int x1] m (f_X7_readUnit x1 m)) (f_X7_readSum : Int32 → Mem → Option (Int32 × Mem)) (h_X7_readSum : ∀ (x1 : Int32) (m : Mem), Ct l yX7_readSum cX7_readSum 5 (some .boolean) fr1 SX oI N N RX RX [.ref 39, .int x1] m (f_X7_readSum x1 m)) (x1 : Int32) (m : Mem) : Ct l yX7_readUnit cX7_readUnit 4 (some .boolean) fr SX oI N N RX RX [.ref 39, .int x1] m (X7_readUnit f_X7_readTruth f_X7_readUnit f_X7_readSum x1 m) :=
  Ct.of (own := RX7) (nm := "readUnit") (by decide) rfl rfl (Nat.le_of_ble_eq_true rfl) (fun _ _ _ _ _ _ _ _ _ _ _ C => v_X7_readUnit hfr C hN f_X7_readTruth h_X7_readTruth f_X7_readUnit h_X7_readUnit f_X7_readSum h_X7_readSum x1 m)
