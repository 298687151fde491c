theorem cg_X6_settle (l : Launch) {N : Nat} (hN : 109 ≤ N) : ∀ d : Nat, (∀ (x1 : Int32) (m : Mem), Ct l yX6_settle cX6_settle 3 (some .boolean) (d + 3) SX oI N N RX RX [.ref 90, .int x1] m (g_X6_settle d x1 m))
  | 0 => fun _ _ => ct_none
  | d + 1 => by
    have ih := cg_X6_settle l hN d
    exact fun x1 m => c_X6_settle l (fr := d + 1 + 3) (fr1 := d + 3) ⟨by omega, by omega⟩ hN _ (ih) x1 m
theorem c_X6_settle_top (l : Launch) {N : Nat} (hN : 109 ≤ N) (x1 : Int32) (m : Mem) : Ct l yX6_settle cX6_settle 3 (some .boolean) 67 SX oI N N RX RX [.ref 90, .int x1] m (X6_settle_top x1 m) := (cg_X6_settle l hN 64) x1 m
theorem dX11_stable_0 : decode cX11_stable 0 = .ok (.aload_n 0, 1) := by decide +kernel
theorem dX11_stable_1 : decode cX11_stable 1 = .ok (.iload_n 1, 1) := by decide +kernel
theorem dX11_stable_2 : decode cX11_stable 2 = .ok (.invokevirtual 271, 3) := by decide +kernel
theorem dX11_stable_5 : decode cX11_stable 5 = .ok (.ifCond .ne 6, 3) := by decide +kernel
theorem dX11_stable_8 : decode cX11_stable 8 = .ok (.bipush (-2), 2) := by decide +kernel
theorem dX11_stable_10 : decode cX11_stable 10 = .ok (.ireturn, 1) := by decide +kernel
theorem dX11_stable_11 : decode cX11_stable 11 = .ok (.aload_n 0, 1) := by decide +kernel
theorem dX11_stable_12 : decode cX11_stable 12 = .ok (.getfield 64, 3) := by decide +kernel
theorem dX11_stable_15 : decode cX11_stable 15 = .ok (.aload_n 0, 1) := by decide +kernel
theorem dX11_stable_16 : decode cX11_stable 16 = .ok (.getfield 38, 3) := by decide +kernel
theorem dX11_stable_19 : decode cX11_stable 19 = .ok (.invokevirtual 262, 3) := by decide +kernel
theorem dX11_stable_22 : decode cX11_stable 22 = .ok (.aload_n 0, 1) := by decide +kernel
theorem dX11_stable_23 : decode cX11_stable 23 = .ok (.getfield 64, 3) := by decide +kernel
theorem dX11_stable_26 : decode cX11_stable 26 = .ok (.invokevirtual 283, 3) := by decide +kernel
theorem dX11_stable_29 : decode cX11_stable 29 = .ok (.aload_n 0, 1) := by decide +kernel
theorem dX11_stable_30 : decode cX11_stable 30 = .ok (.getfield 64, 3) := by decide +kernel
theorem dX11_stable_33 : decode cX11_stable 33 = .ok (.iconst 0, 1) := by decide +kernel
theorem dX11_stable_34 : decode cX11_stable 34 = .ok (.invokevirtual 286, 3) := by decide +kernel
theorem dX11_stable_37 : decode cX11_stable 37 = .ok (.pop, 1) := by decide +kernel
theorem dX11_stable_38 : decode cX11_stable 38 = .ok (.aload_n 0, 1) := by decide +kernel
theorem dX11_stable_39 : decode cX11_stable 39 = .ok (.getfield 64, 3) := by decide +kernel
theorem dX11_stable_42 : decode cX11_stable 42 = .ok (.iload_n 1, 1) := by decide +kernel
theorem dX11_stable_43 : decode cX11_stable 43 = .ok (.invokevirtual 280, 3) := by decide +kernel
theorem dX11_stable_46 : decode cX11_stable 46 = .ok (.ireturn, 1) := by decide +kernel
set_option maxRecDepth 100000 in
set_option maxHeartbeats 4000000 in
theorem v_X11_stable {l : Launch} {p : Program} {e : Env} {s : State} {mt : MethodId} {args : Array Value} {below : List Frame} {meth : Method} {c : Code} {A : Nat → Prop} {ad0 : Nat → Nat} {G : Gt} {N : Nat} (C : Cx G p s mt args meth c RX11 cX11_stable 2 (some .int) "stable" A) (hN : 109 ≤ N) (x1 : Int32) (m : Mem) : V G SX oI l p e s mt args below meth c 2 68 A ad0 N N RX N RX 0 [(0, .ref 0), (1, .int x1)] [] m (X11_stable  x1 m) := by
  rw [X11_stable]
  refine V.aload_n (pc := 0) C dX11_stable_0 0 rfl ?_
  refine V.iload_n (pc := 1) C dX11_stable_1 1 rfl ?_
  refine V.callV (pc := 2) (st := []) C (c_X11_isMatchingQuestion l hN x1 m) obI ck_X11_isMatchingQuestion ml_RX11_271 rfl rfl sX0 (kX0 hN) rfl rfl (Nat.le_of_ble_eq_true rfl) ⟨by decide, by decide⟩ dX11_stable_2 (fun r_1 m_2 _ => ?_)
  refine V.if_ne (pc := 5) C dX11_stable_5 11 (by decide) (fun _ => ?_) (fun _ => ?_)
  · refine V.aload_n (pc := 11) C dX11_stable_11 0 rfl ?_
    refine V.getr (pc := 12) C fl_RX11_64 sX0 (kX0 hN) rfl rX0_10 dX11_stable_12 ?_
    refine V.aload_n (pc := 15) C dX11_stable_15 0 rfl ?_
    refine V.getr (pc := 16) C fl_RX11_38 sX0 (kX0 hN) rfl rX0_6 dX11_stable_16 ?_
    refine V.callV (pc := 19) (st := []) C (c_X6_survey l hN 25 (iX25 hN) m_2) obV ck_X6_survey ml_RX11_262 rfl rfl sX90 (kX90 hN) rfl rfl (Nat.le_of_ble_eq_true rfl) ⟨by decide, by decide⟩ dX11_stable_19 (fun r_3 m_4 _ => ?_)
    refine V.aload_n (pc := 22) C dX11_stable_22 0 rfl ?_
    refine V.getr (pc := 23) C fl_RX11_64 sX0 (kX0 hN) rfl rX0_10 dX11_stable_23 ?_
    refine V.callV (pc := 26) (st := []) C (c_X6_leaveAlone l hN m_4) obV ck_X6_leaveAlone ml_RX11_283 rfl rfl sX90 (kX90 hN) rfl rfl (Nat.le_of_ble_eq_true rfl) ⟨by decide, by decide⟩ dX11_stable_26 (fun r_5 m_6 _ => ?_)
    refine V.aload_n (pc := 29) C dX11_stable_29 0 rfl ?_
    refine V.getr (pc := 30) C fl_RX11_64 sX0 (kX0 hN) rfl rX0_10 dX11_stable_30 ?_
    refine V.iconst (pc := 33) C dX11_stable_33 (v := 0) (by decide) ?_
    refine V.callN (pc := 34) (st := []) (host := "LoatheMatch") C (c_X6_settle_top l hN 0 m_6) obI ck_X6_settle (by decide) rfl rfl sX90 (kX90 hN) rfl rfl (Nat.le_of_ble_eq_true rfl) ⟨by decide, by decide⟩ dX11_stable_34 (fun r_7 m_8 _ => ?_)
    refine V.pop (pc := 37) C dX11_stable_37 rfl ?_
    refine V.aload_n (pc := 38) C dX11_stable_38 0 rfl ?_
    refine V.getr (pc := 39) C fl_RX11_64 sX0 (kX0 hN) rfl rX0_10 dX11_stable_39 ?_
    refine V.iload_n (pc := 42) C dX11_stable_42 1 rfl ?_
    refine V.callV (pc := 43) (st := []) C (c_X6_answer l hN x1 m_8) obI ck_X6_answer ml_RX11_280 rfl rfl sX90 (kX90 hN) rfl rfl (Nat.le_of_ble_eq_true rfl) ⟨by decide, by decide⟩ dX11_stable_43 (fun r_9 m_10 _ => ?_)
    exact V.iret C dX11_stable_46
  · refine V.bipush (pc := 8) C dX11_stable_8 (v := (-2)) (by decide) ?_
    exact V.iret C dX11_stable_10
theorem c_X11_stable (l : Launch) {N : Nat} (hN : 109 ≤ N) (x1 : Int32) (m : Mem) : Ct l yX11_stable cX11_stable 2 (some .int) 68 SX oI N N RX RX [.ref 0, .int x1] m (X11_stable  x1 m) :=
  Ct.of (own := RX11) (nm := "stable") (by decide) rfl rfl (Nat.le_of_ble_eq_true rfl) (fun _ _ _ _ _ _ _ _ _ _ _ C => v_X11_stable C hN x1 m)
theorem dX11_strikes_0 : decode cX11_strikes 0 = .ok (.aload_n 0, 1) := by decide +kernel
theorem dX11_strikes_1 : decode cX11_strikes 1 = .ok (.getfield 38, 3) := by decide +kernel
theorem dX11_strikes_4 : decode cX11_strikes 4 = .ok (.iload_n 1, 1) := by decide +kernel
theorem dX11_strikes_5 : decode cX11_strikes 5 = .ok (.iload_n 2, 1) := by decide +kernel
theorem dX11_strikes_6 : decode cX11_strikes 6 = .ok (.invokevirtual 163, 3) := by decide +kernel
theorem dX11_strikes_9 : decode cX11_strikes 9 = .ok (.ifCond .eq 14, 3) := by decide +kernel
theorem dX11_strikes_12 : decode cX11_strikes 12 = .ok (.aload_n 0, 1) := by decide +kernel
theorem dX11_strikes_13 : decode cX11_strikes 13 = .ok (.getfield 38, 3) := by decide +kernel
theorem dX11_strikes_16 : decode cX11_strikes 16 = .ok (.iload_n 3, 1) := by decide +kernel
theorem dX11_strikes_17 : decode cX11_strikes 17 = .ok (.invokevirtual 140, 3) := by decide +kernel
theorem dX11_strikes_20 : decode cX11_strikes 20 = .ok (.ifCond .ne 6, 3) := by decide +kernel
theorem dX11_strikes_23 : decode cX11_strikes 23 = .ok (.ldc 181, 2) := by decide +kernel
theorem dX11_strikes_25 : decode cX11_strikes 25 = .ok (.ireturn, 1) := by decide +kernel
theorem dX11_strikes_26 : decode cX11_strikes 26 = .ok (.iconst 1, 1) := by decide +kernel
theorem dX11_strikes_27 : decode cX11_strikes 27 = .ok (.iload_n 3, 1) := by decide +kernel
theorem dX11_strikes_28 : decode cX11_strikes 28 = .ok (.ishl, 1) := by decide +kernel
theorem dX11_strikes_29 : decode cX11_strikes 29 = .ok (.iconst (-1), 1) := by decide +kernel
theorem dX11_strikes_30 : decode cX11_strikes 30 = .ok (.ixor, 1) := by decide +kernel
theorem dX11_strikes_31 : decode cX11_strikes 31 = .ok (.istore 4, 2) := by decide +kernel
theorem dX11_strikes_33 : decode cX11_strikes 33 = .ok (.aload_n 0, 1) := by decide +kernel
theorem dX11_strikes_34 : decode cX11_strikes 34 = .ok (.getfield 38, 3) := by decide +kernel
theorem dX11_strikes_37 : decode cX11_strikes 37 = .ok (.iload_n 1, 1) := by decide +kernel
theorem dX11_strikes_38 : decode cX11_strikes 38 = .ok (.iload_n 2, 1) := by decide +kernel
theorem dX11_strikes_39 : decode cX11_strikes 39 = .ok (.aload_n 0, 1) := by decide +kernel
theorem dX11_strikes_40 : decode cX11_strikes 40 = .ok (.getfield 38, 3) := by decide +kernel
theorem dX11_strikes_43 : decode cX11_strikes 43 = .ok (.getfield 108, 3) := by decide +kernel
theorem dX11_strikes_46 : decode cX11_strikes 46 = .ok (.getfield 134, 3) := by decide +kernel
theorem dX11_strikes_49 : decode cX11_strikes 49 = .ok (.iload_n 1, 1) := by decide +kernel
theorem dX11_strikes_50 : decode cX11_strikes 50 = .ok (.iaload, 1) := by decide +kernel
theorem dX11_strikes_51 : decode cX11_strikes 51 = .ok (.iload 4, 2) := by decide +kernel
theorem dX11_strikes_53 : decode cX11_strikes 53 = .ok (.iand, 1) := by decide +kernel
theorem dX11_strikes_54 : decode cX11_strikes 54 = .ok (.aload_n 0, 1) := by decide +kernel
theorem dX11_strikes_55 : decode cX11_strikes 55 = .ok (.getfield 38, 3) := by decide +kernel
theorem dX11_strikes_58 : decode cX11_strikes 58 = .ok (.getfield 108, 3) := by decide +kernel
theorem dX11_strikes_61 : decode cX11_strikes 61 = .ok (.getfield 134, 3) := by decide +kernel
theorem dX11_strikes_64 : decode cX11_strikes 64 = .ok (.iload_n 2, 1) := by decide +kernel
theorem dX11_strikes_65 : decode cX11_strikes 65 = .ok (.iaload, 1) := by decide +kernel
theorem dX11_strikes_66 : decode cX11_strikes 66 = .ok (.iload 4, 2) := by decide +kernel
theorem dX11_strikes_68 : decode cX11_strikes 68 = .ok (.iand, 1) := by decide +kernel
theorem dX11_strikes_69 : decode cX11_strikes 69 = .ok (.invokevirtual 328, 3) := by decide +kernel
theorem dX11_strikes_72 : decode cX11_strikes 72 = .ok (.istore 5, 2) := by decide +kernel
theorem dX11_strikes_74 : decode cX11_strikes 74 = .ok (.aload_n 0, 1) := by decide +kernel
theorem dX11_strikes_75 : decode cX11_strikes 75 = .ok (.getfield 38, 3) := by decide +kernel
theorem dX11_strikes_78 : decode cX11_strikes 78 = .ok (.iload_n 1, 1) := by decide +kernel
theorem dX11_strikes_79 : decode cX11_strikes 79 = .ok (.iload_n 2, 1) := by decide +kernel
theorem dX11_strikes_80 : decode cX11_strikes 80 = .ok (.invokevirtual 177, 3) := by decide +kernel
theorem dX11_strikes_83 : decode cX11_strikes 83 = .ok (.iload 5, 2) := by decide +kernel
theorem dX11_strikes_85 : decode cX11_strikes 85 = .ok (.isub, 1) := by decide +kernel
theorem dX11_strikes_86 : decode cX11_strikes 86 = .ok (.ireturn, 1) := by decide +kernel
set_option maxRecDepth 100000 in
set_option maxHeartbeats 4000000 in
theorem v_X11_strikes {l : Launch} {p : Program} {e : Env} {s : State} {mt : MethodId} {args : Array Value} {below : List Frame} {meth : Method} {c : Code} {A : Nat → Prop} {ad0 : Nat → Nat} {G : Gt} {N : Nat} (C : Cx G p s mt args meth c RX11 cX11_strikes 6 (some .int) "strikes" A) (hN : 109 ≤ N) (x1 : Int32) (x2 : Int32) (x3 : Int32) (m : Mem) : V G SX oI l p e s mt args below meth c 6 5 A ad0 N N RX N RX 0 [(0, .ref 0), (1, .int x1), (2, .int x2), (3, .int x3)] [] m (X11_strikes  x1 x2 x3 m) := by
  rw [X11_strikes]
  refine V.aload_n (pc := 0) C dX11_strikes_0 0 rfl ?_
  refine V.getr (pc := 1) C fl_RX11_38 sX0 (kX0 hN) rfl rX0_6 dX11_strikes_1 ?_
  refine V.iload_n (pc := 4) C dX11_strikes_4 1 rfl ?_
  refine V.iload_n (pc := 5) C dX11_strikes_5 2 rfl ?_
  refine V.callV (pc := 6) (st := []) C (c_X10_areTwo l hN 25 (iX25 hN) x1 x2 m) obI ck_X10_areTwo ml_RX11_163 rfl rfl sX25 (kX25 hN) rfl rfl (Nat.le_of_ble_eq_true rfl) ⟨by decide, by decide⟩ dX11_strikes_6 (fun r_1 m_2 _ => ?_)
  refine V.if_eq (pc := 9) C dX11_strikes_9 23 (by decide) (fun _ => ?_) (fun _ => ?_)
  · refine V.ldc (pc := 23) C dX11_strikes_23 (v := (-2000000)) cn_RX11_181 ?_
    exact V.iret C dX11_strikes_25
  · refine V.aload_n (pc := 12) C dX11_strikes_12 0 rfl ?_
    refine V.getr (pc := 13) C fl_RX11_38 sX0 (kX0 hN) rfl rX0_6 dX11_strikes_13 ?_
    refine V.iload_n (pc := 16) C dX11_strikes_16 3 rfl ?_
    refine V.callV (pc := 17) (st := []) C (c_X10_isThing l hN 25 (iX25 hN) x3 m_2) obI ck_X10_isThing ml_RX11_140 rfl rfl sX25 (kX25 hN) rfl rfl (Nat.le_of_ble_eq_true rfl) ⟨by decide, by decide⟩ dX11_strikes_17 (fun r_3 m_4 _ => ?_)
    refine V.if_ne (pc := 20) C dX11_strikes_20 26 (by decide) (fun _ => ?_) (fun _ => ?_)
    · refine V.iconst (pc := 26) C dX11_strikes_26 (v := 1) (by decide) ?_
      refine V.iload_n (pc := 27) C dX11_strikes_27 3 rfl ?_
      refine V.ishl (pc := 28) C dX11_strikes_28 ?_
      refine V.iconst (pc := 29) C dX11_strikes_29 (v := (-1)) (by decide) ?_
      refine V.ixor (pc := 30) C dX11_strikes_30 ?_
      refine V.lti (fun x_5 _ => ?_)
      refine V.istore (pc := 31) C dX11_strikes_31 (L2 := [(4, .int x_5), (0, .ref 0), (1, .int x1), (2, .int x2), (3, .int x3)]) (by decide) rfl ?_
      refine V.aload_n (pc := 33) C dX11_strikes_33 1 rfl ?_
      refine V.getr (pc := 34) C fl_RX11_38 sX0 (kX0 hN) rfl rX0_6 dX11_strikes_34 ?_
      refine V.iload_n (pc := 37) C dX11_strikes_37 2 rfl ?_
      refine V.iload_n (pc := 38) C dX11_strikes_38 3 rfl ?_
      refine V.aload_n (pc := 39) C dX11_strikes_39 1 rfl ?_
      refine V.getr (pc := 40) C fl_RX11_38 sX0 (kX0 hN) rfl rX0_6 dX11_strikes_40 ?_
      refine V.getr (pc := 43) C fl_RX11_108 sX25 (kX25 hN) rfl rX25_2 dX11_strikes_43 ?_
      refine V.getr (pc := 46) C fl_RX11_134 sX26 (kX26 hN) rfl rX26_3 dX11_strikes_46 ?_
      refine V.iload_n (pc := 49) C dX11_strikes_49 2 rfl ?_
      refine V.iald (pc := 50) C sX29 (kX29 hN) dX11_strikes_50 (fun _ => ?_)
      refine V.iload (pc := 51) C dX11_strikes_51 0 rfl ?_
      refine V.iand (pc := 53) C dX11_strikes_53 ?_
      refine V.aload_n (pc := 54) C dX11_strikes_54 1 rfl ?_
      refine V.getr (pc := 55) C fl_RX11_38 sX0 (kX0 hN) rfl rX0_6 dX11_strikes_55 ?_
      refine V.getr (pc := 58) C fl_RX11_108 sX25 (kX25 hN) rfl rX25_2 dX11_strikes_58 ?_
      refine V.getr (pc := 61) C fl_RX11_134 sX26 (kX26 hN) rfl rX26_3 dX11_strikes_61 ?_
      refine V.iload_n (pc := 64) C dX11_strikes_64 3 rfl ?_
      refine V.iald (pc := 65) C sX29 (kX29 hN) dX11_strikes_65 (fun _ => ?_)
      refine V.iload (pc := 66) C dX11_strikes_66 0 rfl ?_
      refine V.iand (pc := 68) C dX11_strikes_68 ?_
      refine V.callV (pc := 69) (st := []) C (c_X10_goodnessWith l hN 25 (iX25 hN) x1 x2 ((gi m_4 29 (ix x1)) &&& x_5) ((gi m_4 29 (ix x2)) &&& x_5) m_4) obI ck_X10_goodnessWith ml_RX11_328 rfl rfl sX25 (kX25 hN) rfl rfl (Nat.le_of_ble_eq_true rfl) ⟨by decide, by decide⟩ dX11_strikes_69 (fun r_6 m_7 _ => ?_)
      refine V.istore (pc := 72) C dX11_strikes_72 (L2 := [(5, .int r_6), (4, .int x_5), (0, .ref 0), (1, .int x1), (2, .int x2), (3, .int x3)]) (by decide) rfl ?_
      refine V.aload_n (pc := 74) C dX11_strikes_74 2 rfl ?_
      refine V.getr (pc := 75) C fl_RX11_38 sX0 (kX0 hN) rfl rX0_6 dX11_strikes_75 ?_
      refine V.iload_n (pc := 78) C dX11_strikes_78 3 rfl ?_
      refine V.iload_n (pc := 79) C dX11_strikes_79 4 rfl ?_
      refine V.callV (pc := 80) (st := []) C (c_X10_goodness l hN 25 (iX25 hN) x1 x2 m_7) obI ck_X10_goodness ml_RX11_177 rfl rfl sX25 (kX25 hN) rfl rfl (Nat.le_of_ble_eq_true rfl) ⟨by decide, by decide⟩ dX11_strikes_80 (fun r_8 m_9 _ => ?_)
      refine V.iload (pc := 83) C dX11_strikes_83 0 rfl ?_
      refine V.isub (pc := 85) C dX11_strikes_85 ?_
      exact V.iret C dX11_strikes_86
    · refine V.ldc (pc := 23) C dX11_strikes_23 (v := (-2000000)) cn_RX11_181 ?_
      exact V.iret C dX11_strikes_25
theorem c_X11_strikes (l : Launch) {N : Nat} (hN : 109 ≤ N) (x1 : Int32) (x2 : Int32) (x3 : Int32) (m : Mem) : Ct l yX11_strikes cX11_strikes 6 (some .int) 5 SX oI N N RX RX [.ref 0, .int x1, .int x2, .int x3] m (X11_strikes  x1 x2 x3 m) :=
  Ct.of (own := RX11) (nm := "strikes") (by decide) rfl rfl (Nat.le_of_ble_eq_true rfl) (fun _ _ _ _ _ _ _ _ _ _ _ C => v_X11_strikes C hN x1 x2 x3 m)
theorem dX11_takes_0 : decode cX11_takes 0 = .ok (.aload_n 0, 1) := by decide +kernel
theorem dX11_takes_1 : decode cX11_takes 1 = .ok (.getfield 38, 3) := by decide +kernel
theorem dX11_takes_4 : decode cX11_takes 4 = .ok (.iload_n 1, 1) := by decide +kernel
theorem dX11_takes_5 : decode cX11_takes 5 = .ok (.iload_n 2, 1) := by decide +kernel
theorem dX11_takes_6 : decode cX11_takes 6 = .ok (.invokevirtual 198, 3) := by decide +kernel
theorem dX11_takes_9 : decode cX11_takes 9 = .ok (.istore_n 3, 1) := by decide +kernel
theorem dX11_takes_10 : decode cX11_takes 10 = .ok (.iload_n 3, 1) := by decide +kernel
theorem dX11_takes_11 : decode cX11_takes 11 = .ok (.ifCond .eq 8, 3) := by decide +kernel
theorem dX11_takes_14 : decode cX11_takes 14 = .ok (.bipush (-10), 2) := by decide +kernel
theorem dX11_takes_16 : decode cX11_takes 16 = .ok (.iload_n 3, 1) := by decide +kernel
theorem dX11_takes_17 : decode cX11_takes 17 = .ok (.isub, 1) := by decide +kernel
theorem dX11_takes_18 : decode cX11_takes 18 = .ok (.ireturn, 1) := by decide +kernel
theorem dX11_takes_19 : decode cX11_takes 19 = .ok (.aload_n 0, 1) := by decide +kernel
theorem dX11_takes_20 : decode cX11_takes 20 = .ok (.getfield 57, 3) := by decide +kernel
theorem dX11_takes_23 : decode cX11_takes 23 = .ok (.aload_n 0, 1) := by decide +kernel
theorem dX11_takes_24 : decode cX11_takes 24 = .ok (.getfield 38, 3) := by decide +kernel
theorem dX11_takes_27 : decode cX11_takes 27 = .ok (.getfield 108, 3) := by decide +kernel
theorem dX11_takes_30 : decode cX11_takes 30 = .ok (.invokevirtual 188, 3) := by decide +kernel
theorem dX11_takes_33 : decode cX11_takes 33 = .ok (.aload_n 0, 1) := by decide +kernel
theorem dX11_takes_34 : decode cX11_takes 34 = .ok (.getfield 38, 3) := by decide +kernel
theorem dX11_takes_37 : decode cX11_takes 37 = .ok (.iload_n 1, 1) := by decide +kernel
theorem dX11_takes_38 : decode cX11_takes 38 = .ok (.iload_n 2, 1) := by decide +kernel
theorem dX11_takes_39 : decode cX11_takes 39 = .ok (.invokevirtual 201, 3) := by decide +kernel
theorem dX11_takes_42 : decode cX11_takes 42 = .ok (.aload_n 0, 1) := by decide +kernel
theorem dX11_takes_43 : decode cX11_takes 43 = .ok (.getfield 38, 3) := by decide +kernel
theorem dX11_takes_46 : decode cX11_takes 46 = .ok (.getfield 108, 3) := by decide +kernel
theorem dX11_takes_49 : decode cX11_takes 49 = .ok (.getfield 134, 3) := by decide +kernel
theorem dX11_takes_52 : decode cX11_takes 52 = .ok (.iload_n 1, 1) := by decide +kernel
theorem dX11_takes_53 : decode cX11_takes 53 = .ok (.iaload, 1) := by decide +kernel
theorem dX11_takes_54 : decode cX11_takes 54 = .ok (.invokestatic 204, 3) := by decide +kernel
theorem dX11_takes_57 : decode cX11_takes 57 = .ok (.ireturn, 1) := by decide +kernel
set_option maxRecDepth 100000 in
set_option maxHeartbeats 4000000 in
theorem v_X11_takes {l : Launch} {p : Program} {e : Env} {s : State} {mt : MethodId} {args : Array Value} {below : List Frame} {meth : Method} {c : Code} {A : Nat → Prop} {ad0 : Nat → Nat} {G : Gt} {N : Nat} (C : Cx G p s mt args meth c RX11 cX11_takes 4 (some .int) "takes" A) (hN : 109 ≤ N) (x1 : Int32) (x2 : Int32) (m : Mem) : V G SX oI l p e s mt args below meth c 4 4 A ad0 N N RX N RX 0 [(0, .ref 0), (1, .int x1), (2, .int x2)] [] m (X11_takes  x1 x2 m) := by
  rw [X11_takes]
  refine V.aload_n (pc := 0) C dX11_takes_0 0 rfl ?_
  refine V.getr (pc := 1) C fl_RX11_38 sX0 (kX0 hN) rfl rX0_6 dX11_takes_1 ?_
  refine V.iload_n (pc := 4) C dX11_takes_4 1 rfl ?_
  refine V.iload_n (pc := 5) C dX11_takes_5 2 rfl ?_
  refine V.callV (pc := 6) (st := []) C (c_X10_whyNotTake l hN 25 (iX25 hN) x1 x2 m) obI ck_X10_whyNotTake ml_RX11_198 rfl rfl sX25 (kX25 hN) rfl rfl (Nat.le_of_ble_eq_true rfl) ⟨by decide, by decide⟩ dX11_takes_6 (fun r_1 m_2 _ => ?_)
  refine V.istore_n (pc := 9) C dX11_takes_9 (L2 := [(3, .int r_1), (0, .ref 0), (1, .int x1), (2, .int x2)]) (by decide) rfl ?_
  refine V.iload_n (pc := 10) C dX11_takes_10 0 rfl ?_
  refine V.if_eq (pc := 11) C dX11_takes_11 19 (by decide) (fun _ => ?_) (fun _ => ?_)
  · refine V.aload_n (pc := 19) C dX11_takes_19 1 rfl ?_
    refine V.getr (pc := 20) C fl_RX11_57 sX0 (kX0 hN) rfl rX0_9 dX11_takes_20 ?_
    refine V.aload_n (pc := 23) C dX11_takes_23 1 rfl ?_
    refine V.getr (pc := 24) C fl_RX11_38 sX0 (kX0 hN) rfl rX0_6 dX11_takes_24 ?_
    refine V.getr (pc := 27) C fl_RX11_108 sX25 (kX25 hN) rfl rX25_2 dX11_takes_27 ?_
    refine V.callV (pc := 30) (st := []) C (c_X2_keep l hN 26 (iX26 hN) m_2) obV ck_X2_keep ml_RX11_188 rfl rfl sX40 (kX40 hN) rfl rfl (Nat.le_of_ble_eq_true rfl) ⟨by decide, by decide⟩ dX11_takes_30 (fun r_3 m_4 _ => ?_)
    refine V.aload_n (pc := 33) C dX11_takes_33 1 rfl ?_
    refine V.getr (pc := 34) C fl_RX11_38 sX0 (kX0 hN) rfl rX0_6 dX11_takes_34 ?_
    refine V.iload_n (pc := 37) C dX11_takes_37 2 rfl ?_
    refine V.iload_n (pc := 38) C dX11_takes_38 3 rfl ?_
    refine V.callV (pc := 39) (st := []) C (c_X10_takeOrGive l hN 25 (iX25 hN) x1 x2 m_4) obV ck_X10_takeOrGive ml_RX11_201 rfl rfl sX25 (kX25 hN) rfl rfl (Nat.le_of_ble_eq_true rfl) ⟨by decide, by decide⟩ dX11_takes_39 (fun r_5 m_6 _ => ?_)
    refine V.aload_n (pc := 42) C dX11_takes_42 1 rfl ?_
    refine V.getr (pc := 43) C fl_RX11_38 sX0 (kX0 hN) rfl rX0_6 dX11_takes_43 ?_
    refine V.getr (pc := 46) C fl_RX11_108 sX25 (kX25 hN) rfl rX25_2 dX11_takes_46 ?_
    refine V.getr (pc := 49) C fl_RX11_134 sX26 (kX26 hN) rfl rX26_3 dX11_takes_49 ?_
    refine V.iload_n (pc := 52) C dX11_takes_52 2 rfl ?_
    refine V.iald (pc := 53) C sX29 (kX29 hN) dX11_takes_53 (fun _ => ?_)
    refine V.callS (pc := 54) (st := []) C (c_J6_bitCount_0f7a4 l (gi m_6 29 (ix x1)) m_6) obI ck_J6_bitCount_0f7a4 ml_RX11_204 rfl rfl (Nat.le_of_ble_eq_true rfl) ⟨by decide, by decide⟩ dX11_takes_54 (fun r_7 m_8 _ => ?_)
    exact V.iret C dX11_takes_57
  · refine V.bipush (pc := 14) C dX11_takes_14 (v := (-10)) (by decide) ?_
    refine V.iload_n (pc := 16) C dX11_takes_16 0 rfl ?_
    refine V.isub (pc := 17) C dX11_takes_17 ?_
    exact V.iret C dX11_takes_18
theorem c_X11_takes (l : Launch) {N : Nat} (hN : 109 ≤ N) (x1 : Int32) (x2 : Int32) (m : Mem) : Ct l yX11_takes cX11_takes 4 (some .int) 4 SX oI N N RX RX [.ref 0, .int x1, .int x2] m (X11_takes  x1 x2 m) :=
  Ct.of (own := RX11) (nm := "takes") (by decide) rfl rfl (Nat.le_of_ble_eq_true rfl) (fun _ _ _ _ _ _ _ _ _ _ _ C => v_X11_takes C hN x1 x2 m)
theorem dX8_whoAre_0 : decode cX8_whoAre 0 = .ok (.iconst 0, 1) := by decide +kernel
theorem dX8_whoAre_1 : decode cX8_whoAre 1 = .ok (.istore_n 2, 1) := by decide +kernel
theorem dX8_whoAre_2 : decode cX8_whoAre 2 = .ok (.iconst 0, 1) := by decide +kernel
theorem dX8_whoAre_3 : decode cX8_whoAre 3 = .ok (.istore_n 3, 1) := by decide +kernel
theorem dX8_whoAre_4 : decode cX8_whoAre 4 = .ok (.iload_n 3, 1) := by decide +kernel
theorem dX8_whoAre_5 : decode cX8_whoAre 5 = .ok (.aload_n 0, 1) := by decide +kernel
theorem dX8_whoAre_6 : decode cX8_whoAre 6 = .ok (.getfield 41, 3) := by decide +kernel
theorem dX8_whoAre_9 : decode cX8_whoAre 9 = .ok (.if_icmp .ge 28, 3) := by decide +kernel
theorem dX8_whoAre_12 : decode cX8_whoAre 12 = .ok (.aload_n 0, 1) := by decide +kernel
theorem dX8_whoAre_13 : decode cX8_whoAre 13 = .ok (.getfield 15, 3) := by decide +kernel
theorem dX8_whoAre_16 : decode cX8_whoAre 16 = .ok (.iload_n 3, 1) := by decide +kernel
theorem dX8_whoAre_17 : decode cX8_whoAre 17 = .ok (.iaload, 1) := by decide +kernel
theorem dX8_whoAre_18 : decode cX8_whoAre 18 = .ok (.iconst 1, 1) := by decide +kernel
theorem dX8_whoAre_19 : decode cX8_whoAre 19 = .ok (.iload_n 1, 1) := by decide +kernel
theorem dX8_whoAre_20 : decode cX8_whoAre 20 = .ok (.ishl, 1) := by decide +kernel
theorem dX8_whoAre_21 : decode cX8_whoAre 21 = .ok (.iand, 1) := by decide +kernel
theorem dX8_whoAre_22 : decode cX8_whoAre 22 = .ok (.ifCond .eq 9, 3) := by decide +kernel
theorem dX8_whoAre_25 : decode cX8_whoAre 25 = .ok (.iload_n 2, 1) := by decide +kernel
theorem dX8_whoAre_26 : decode cX8_whoAre 26 = .ok (.iconst 1, 1) := by decide +kernel
theorem dX8_whoAre_27 : decode cX8_whoAre 27 = .ok (.iload_n 3, 1) := by decide +kernel
theorem dX8_whoAre_28 : decode cX8_whoAre 28 = .ok (.ishl, 1) := by decide +kernel
theorem dX8_whoAre_29 : decode cX8_whoAre 29 = .ok (.ior, 1) := by decide +kernel
theorem dX8_whoAre_30 : decode cX8_whoAre 30 = .ok (.istore_n 2, 1) := by decide +kernel
theorem dX8_whoAre_31 : decode cX8_whoAre 31 = .ok (.iinc 3 1, 3) := by decide +kernel
theorem dX8_whoAre_34 : decode cX8_whoAre 34 = .ok (.goto (-30), 3) := by decide +kernel
theorem dX8_whoAre_37 : decode cX8_whoAre 37 = .ok (.iload_n 2, 1) := by decide +kernel
theorem dX8_whoAre_38 : decode cX8_whoAre 38 = .ok (.ireturn, 1) := by decide +kernel
set_option maxRecDepth 100000 in
set_option maxHeartbeats 4000000 in
theorem v_X8_whoAre_b4 {l : Launch} {p : Program} {e : Env} {s : State} {mt : MethodId} {args : Array Value} {below : List Frame} {meth : Method} {c : Code} {A : Nat → Prop} {ad0 : Nat → Nat} {G : Gt} {N : Nat} (C : Cx G p s mt args meth c RX8 cX8_whoAre 4 (some .int) "whoAre" A) (hN : 109 ≤ N) (a : Nat) (ha : isRules N a) : ∀ (n : Nat) (y1 : Int32) (y2 : Int32) (y3 : Int32) (m : Mem), V G SX oI l p e s mt args below meth c 4 1 A ad0 N N RX N RX 4 [(0, .ref a), (1, .int y1), (2, .int y2), (3, .int y3)] [] m (X8_whoAre_b4 a n y1 y2 y3 m) := by
  intro n
  induction n with
  | zero =>
    intro y1 y2 y3 m
    rw [X8_whoAre_b4]
    exact V.nil
  | succ n ih =>
    intro y1 y2 y3 m
    rw [X8_whoAre_b4]
    refine V.iload_n (pc := 4) C dX8_whoAre_4 3 rfl ?_
    refine V.aload_n (pc := 5) C dX8_whoAre_5 0 rfl ?_
    refine V.geti (pc := 6) C fl_RX8_41 ha.s ha.k rfl dX8_whoAre_6 ?_
    refine V.icmp_ge (pc := 9) C dX8_whoAre_9 37 (by decide) (fun _ => ?_) (fun _ => ?_)
    · refine V.iload_n (pc := 37) C dX8_whoAre_37 2 rfl ?_
      exact V.iret C dX8_whoAre_38
    · refine V.aload_n (pc := 12) C dX8_whoAre_12 0 rfl ?_
      refine V.getr (pc := 13) C fl_RX8_15 ha.s ha.k rfl ha.r6 dX8_whoAre_13 ?_
      refine V.iload_n (pc := 16) C dX8_whoAre_16 3 rfl ?_
      refine V.iald (pc := 17) C ha.s2 ha.k2 dX8_whoAre_17 (fun _ => ?_)
      refine V.iconst (pc := 18) C dX8_whoAre_18 (v := 1) (by decide) ?_
      refine V.iload_n (pc := 19) C dX8_whoAre_19 1 rfl ?_
      refine V.ishl (pc := 20) C dX8_whoAre_20 ?_
      refine V.iand (pc := 21) C dX8_whoAre_21 ?_
      refine V.if_eq (pc := 22) C dX8_whoAre_22 31 (by decide) (fun _ => ?_) (fun _ => ?_)
      · refine V.iinc (pc := 31) C dX8_whoAre_31 (v := 1) (L2 := [(3, .int (y3 + 1)), (0, .ref a), (1, .int y1), (2, .int y2)]) 3 rfl (by decide) (by decide) rfl ?_
        refine V.goto (pc := 34) C dX8_whoAre_34 4 (by decide) ?_
        refine V.wk [1, 2, 3, 0] rfl ?_
        exact ih y1 y2 (y3 + 1) m
      · refine V.iload_n (pc := 25) C dX8_whoAre_25 2 rfl ?_
        refine V.iconst (pc := 26) C dX8_whoAre_26 (v := 1) (by decide) ?_
        refine V.iload_n (pc := 27) C dX8_whoAre_27 3 rfl ?_
        refine V.ishl (pc := 28) C dX8_whoAre_28 ?_
        refine V.ior (pc := 29) C dX8_whoAre_29 ?_
        refine V.lti (fun x_1 _ => ?_)
        refine V.istore_n (pc := 30) C dX8_whoAre_30 (L2 := [(2, .int x_1), (0, .ref a), (1, .int y1), (3, .int y3)]) (by decide) rfl ?_
        refine V.iinc (pc := 31) C dX8_whoAre_31 (v := 1) (L2 := [(3, .int (y3 + 1)), (2, .int x_1), (0, .ref a), (1, .int y1)]) 3 rfl (by decide) (by decide) rfl ?_
        refine V.goto (pc := 34) C dX8_whoAre_34 4 (by decide) ?_
        refine V.wk [2, 3, 1, 0] rfl ?_
        exact ih y1 x_1 (y3 + 1) m
set_option maxRecDepth 100000 in
set_option maxHeartbeats 4000000 in
theorem v_X8_whoAre {l : Launch} {p : Program} {e : Env} {s : State} {mt : MethodId} {args : Array Value} {below : List Frame} {meth : Method} {c : Code} {A : Nat → Prop} {ad0 : Nat → Nat} {G : Gt} {N : Nat} (C : Cx G p s mt args meth c RX8 cX8_whoAre 4 (some .int) "whoAre" A) (hN : 109 ≤ N) (a : Nat) (ha : isRules N a) (x1 : Int32) (m : Mem) : V G SX oI l p e s mt args below meth c 4 1 A ad0 N N RX N RX 0 [(0, .ref a), (1, .int x1)] [] m (X8_whoAre a x1 m) := by
  rw [X8_whoAre]
  refine V.iconst (pc := 0) C dX8_whoAre_0 (v := 0) (by decide) ?_
  refine V.istore_n (pc := 1) C dX8_whoAre_1 (L2 := [(2, .int 0), (0, .ref a), (1, .int x1)]) (by decide) rfl ?_
  refine V.iconst (pc := 2) C dX8_whoAre_2 (v := 0) (by decide) ?_
  refine V.istore_n (pc := 3) C dX8_whoAre_3 (L2 := [(3, .int 0), (2, .int 0), (0, .ref a), (1, .int x1)]) (by decide) rfl ?_
  refine V.wk [2, 3, 1, 0] rfl ?_
  exact v_X8_whoAre_b4 C hN a ha FU x1 0 0 m
theorem c_X8_whoAre (l : Launch) {N : Nat} (hN : 109 ≤ N) (a : Nat) (ha : isRules N a) (x1 : Int32) (m : Mem) : Ct l yX8_whoAre cX8_whoAre 4 (some .int) 1 SX oI N N RX RX [.ref a, .int x1] m (X8_whoAre a x1 m) :=
  Ct.of (own := RX8) (nm := "whoAre") (by decide) rfl rfl (Nat.le_of_ble_eq_true rfl) (fun _ _ _ _ _ _ _ _ _ _ _ C => v_X8_whoAre C hN a ha x1 m)
theorem dX11_thing_0 : decode cX11_thing 0 = .ok (.aload_n 0, 1) := by decide +kernel
theorem dX11_thing_1 : decode cX11_thing 1 = .ok (.getfield 38, 3) := by decide +kernel
theorem dX11_thing_4 : decode cX11_thing 4 = .ok (.iload_n 1, 1) := by decide +kernel
theorem dX11_thing_5 : decode cX11_thing 5 = .ok (.invokevirtual 140, 3) := by decide +kernel
theorem dX11_thing_8 : decode cX11_thing 8 = .ok (.ifCond .ne 6, 3) := by decide +kernel
theorem dX11_thing_11 : decode cX11_thing 11 = .ok (.bipush (-2), 2) := by decide +kernel
theorem dX11_thing_13 : decode cX11_thing 13 = .ok (.ireturn, 1) := by decide +kernel
theorem dX11_thing_14 : decode cX11_thing 14 = .ok (.iload_n 2, 1) := by decide +kernel
theorem dX11_thing_15 : decode cX11_thing 15 = .ok (.tableswitch 70 0 3 #[29, 39, 52, 61], 29) := by decide +kernel
theorem dX11_thing_44 : decode cX11_thing 44 = .ok (.aload_n 0, 1) := by decide +kernel
theorem dX11_thing_45 : decode cX11_thing 45 = .ok (.getfield 16, 3) := by decide +kernel
theorem dX11_thing_48 : decode cX11_thing 48 = .ok (.getfield 150, 3) := by decide +kernel
theorem dX11_thing_51 : decode cX11_thing 51 = .ok (.iload_n 1, 1) := by decide +kernel
theorem dX11_thing_52 : decode cX11_thing 52 = .ok (.iaload, 1) := by decide +kernel
theorem dX11_thing_53 : decode cX11_thing 53 = .ok (.ireturn, 1) := by decide +kernel
theorem dX11_thing_54 : decode cX11_thing 54 = .ok (.aload_n 0, 1) := by decide +kernel
theorem dX11_thing_55 : decode cX11_thing 55 = .ok (.getfield 38, 3) := by decide +kernel
theorem dX11_thing_58 : decode cX11_thing 58 = .ok (.getfield 108, 3) := by decide +kernel
theorem dX11_thing_61 : decode cX11_thing 61 = .ok (.getfield 153, 3) := by decide +kernel
theorem dX11_thing_64 : decode cX11_thing 64 = .ok (.iload_n 1, 1) := by decide +kernel
theorem dX11_thing_65 : decode cX11_thing 65 = .ok (.iaload, 1) := by decide +kernel
theorem dX11_thing_66 : decode cX11_thing 66 = .ok (.ireturn, 1) := by decide +kernel
theorem dX11_thing_67 : decode cX11_thing 67 = .ok (.aload_n 0, 1) := by decide +kernel
theorem dX11_thing_68 : decode cX11_thing 68 = .ok (.getfield 38, 3) := by decide +kernel
theorem dX11_thing_71 : decode cX11_thing 71 = .ok (.iload_n 1, 1) := by decide +kernel
theorem dX11_thing_72 : decode cX11_thing 72 = .ok (.invokevirtual 156, 3) := by decide +kernel
theorem dX11_thing_75 : decode cX11_thing 75 = .ok (.ireturn, 1) := by decide +kernel
theorem dX11_thing_76 : decode cX11_thing 76 = .ok (.aload_n 0, 1) := by decide +kernel
theorem dX11_thing_77 : decode cX11_thing 77 = .ok (.getfield 16, 3) := by decide +kernel
theorem dX11_thing_80 : decode cX11_thing 80 = .ok (.iload_n 1, 1) := by decide +kernel
theorem dX11_thing_81 : decode cX11_thing 81 = .ok (.invokevirtual 160, 3) := by decide +kernel
theorem dX11_thing_84 : decode cX11_thing 84 = .ok (.ireturn, 1) := by decide +kernel
theorem dX11_thing_85 : decode cX11_thing 85 = .ok (.bipush (-2), 2) := by decide +kernel
theorem dX11_thing_87 : decode cX11_thing 87 = .ok (.ireturn, 1) := by decide +kernel
set_option maxRecDepth 100000 in
set_option maxHeartbeats 4000000 in
theorem v_X11_thing {l : Launch} {p : Program} {e : Env} {s : State} {mt : MethodId} {args : Array Value} {below : List Frame} {meth : Method} {c : Code} {A : Nat → Prop} {ad0 : Nat → Nat} {G : Gt} {N : Nat} (C : Cx G p s mt args meth c RX11 cX11_thing 3 (some .int) "thing" A) (hN : 109 ≤ N) (x1 : Int32) (x2 : Int32) (m : Mem) : V G SX oI l p e s mt args below meth c 3 3 A ad0 N N RX N RX 0 [(0, .ref 0), (1, .int x1), (2, .int x2)] [] m (X11_thing  x1 x2 m) := by
  rw [X11_thing]
  refine V.aload_n (pc := 0) C dX11_thing_0 0 rfl ?_
  refine V.getr (pc := 1) C fl_RX11_38 sX0 (kX0 hN) rfl rX0_6 dX11_thing_1 ?_
  refine V.iload_n (pc := 4) C dX11_thing_4 1 rfl ?_
  refine V.callV (pc := 5) (st := []) C (c_X10_isThing l hN 25 (iX25 hN) x1 m) obI ck_X10_isThing ml_RX11_140 rfl rfl sX25 (kX25 hN) rfl rfl (Nat.le_of_ble_eq_true rfl) ⟨by decide, by decide⟩ dX11_thing_5 (fun r_1 m_2 _ => ?_)
  refine V.if_ne (pc := 8) C dX11_thing_8 14 (by decide) (fun _ => ?_) (fun _ => ?_)
  · refine V.iload_n (pc := 14) C dX11_thing_14 2 rfl ?_
    refine V.br (fun h_3 => ?_) (fun h_3 => ?_)
    · refine V.tin (pc := 15) (x := x2) (j := 0) (tgt := 44) C dX11_thing_15 h_3 (by decide) (by decide) rfl (by decide) ?_
      refine V.aload_n (pc := 44) C dX11_thing_44 0 rfl ?_
      refine V.getr (pc := 45) C fl_RX11_16 sX0 (kX0 hN) rfl rX0_3 dX11_thing_45 ?_
      refine V.getr (pc := 48) C fl_RX11_150 sX2 (kX2 hN) rfl rX2_5 dX11_thing_48 ?_
      refine V.iload_n (pc := 51) C dX11_thing_51 1 rfl ?_
      refine V.iald (pc := 52) C sX3 (kX3 hN) dX11_thing_52 (fun _ => ?_)
      exact V.iret C dX11_thing_53
    · refine V.br (fun h_4 => ?_) (fun h_4 => ?_)
      · refine V.tin (pc := 15) (x := x2) (j := 1) (tgt := 54) C dX11_thing_15 h_4 (by decide) (by decide) rfl (by decide) ?_
        refine V.aload_n (pc := 54) C dX11_thing_54 0 rfl ?_
        refine V.getr (pc := 55) C fl_RX11_38 sX0 (kX0 hN) rfl rX0_6 dX11_thing_55 ?_
        refine V.getr (pc := 58) C fl_RX11_108 sX25 (kX25 hN) rfl rX25_2 dX11_thing_58 ?_
        refine V.getr (pc := 61) C fl_RX11_153 sX26 (kX26 hN) rfl rX26_4 dX11_thing_61 ?_
        refine V.iload_n (pc := 64) C dX11_thing_64 1 rfl ?_
        refine V.iald (pc := 65) C sX30 (kX30 hN) dX11_thing_65 (fun _ => ?_)
        exact V.iret C dX11_thing_66
      · refine V.br (fun h_7 => ?_) (fun h_7 => ?_)
        · refine V.tin (pc := 15) (x := x2) (j := 2) (tgt := 67) C dX11_thing_15 h_7 (by decide) (by decide) rfl (by decide) ?_
          refine V.aload_n (pc := 67) C dX11_thing_67 0 rfl ?_
          refine V.getr (pc := 68) C fl_RX11_38 sX0 (kX0 hN) rfl rX0_6 dX11_thing_68 ?_
          refine V.iload_n (pc := 71) C dX11_thing_71 1 rfl ?_
          refine V.callV (pc := 72) (st := []) C (c_X10_rarity l hN 25 (iX25 hN) x1 m_2) obI ck_X10_rarity ml_RX11_156 rfl rfl sX25 (kX25 hN) rfl rfl (Nat.le_of_ble_eq_true rfl) ⟨by decide, by decide⟩ dX11_thing_72 (fun r_5 m_6 _ => ?_)
          exact V.iret C dX11_thing_75
        · refine V.br (fun h_10 => ?_) (fun h_10 => ?_)
          · refine V.tin (pc := 15) (x := x2) (j := 3) (tgt := 76) C dX11_thing_15 h_10 (by decide) (by decide) rfl (by decide) ?_
            refine V.aload_n (pc := 76) C dX11_thing_76 0 rfl ?_
            refine V.getr (pc := 77) C fl_RX11_16 sX0 (kX0 hN) rfl rX0_3 dX11_thing_77 ?_
            refine V.iload_n (pc := 80) C dX11_thing_80 1 rfl ?_
            refine V.callV (pc := 81) (st := []) C (c_X8_whoAre l hN 2 (iX2 hN) x1 m_2) obI ck_X8_whoAre ml_RX11_160 rfl rfl sX2 (kX2 hN) rfl rfl (Nat.le_of_ble_eq_true rfl) ⟨by decide, by decide⟩ dX11_thing_81 (fun r_8 m_9 _ => ?_)
            exact V.iret C dX11_thing_84
          · have g0 := lv_neT h_3 (show (0 : Int32).toInt = 0 from by decide)
            have g1 := lv_neT h_4 (show (1 : Int32).toInt = 1 from by decide)
            have g2 := lv_neT h_7 (show (2 : Int32).toInt = 2 from by decide)
            have g3 := lv_neT h_10 (show (3 : Int32).toInt = 3 from by decide)
            refine V.tout (pc := 15) (x := x2) (tgt := 85) C dX11_thing_15 (by omega) (by decide) ?_
            refine V.bipush (pc := 85) C dX11_thing_85 (v := (-2)) (by decide) ?_
            exact V.iret C dX11_thing_87
  · refine V.bipush (pc := 11) C dX11_thing_11 (v := (-2)) (by decide) ?_
    exact V.iret C dX11_thing_13
theorem c_X11_thing (l : Launch) {N : Nat} (hN : 109 ≤ N) (x1 : Int32) (x2 : Int32) (m : Mem) : Ct l yX11_thing cX11_thing 3 (some .int) 3 SX oI N N RX RX [.ref 0, .int x1, .int x2] m (X11_thing  x1 x2 m) :=
  Ct.of (own := RX11) (nm := "thing") (by decide) rfl rfl (Nat.le_of_ble_eq_true rfl) (fun _ _ _ _ _ _ _ _ _ _ _ C => v_X11_thing C hN x1 x2 m)
theorem dX2_bringBack_0 : decode cX2_bringBack 0 = .ok (.iload_n 1, 1) := by decide +kernel
theorem dX2_bringBack_1 : decode cX2_bringBack 1 = .ok (.ifCond .le 42, 3) := by decide +kernel
theorem dX2_bringBack_4 : decode cX2_bringBack 4 = .ok (.iload_n 1, 1) := by decide +kernel
theorem dX2_bringBack_5 : decode cX2_bringBack 5 = .ok (.aload_n 0, 1) := by decide +kernel
theorem dX2_bringBack_6 : decode cX2_bringBack 6 = .ok (.getfield 18, 3) := by decide +kernel
theorem dX2_bringBack_9 : decode cX2_bringBack 9 = .ok (.if_icmp .gt 34, 3) := by decide +kernel
theorem dX2_bringBack_12 : decode cX2_bringBack 12 = .ok (.aload_n 0, 1) := by decide +kernel
theorem dX2_bringBack_13 : decode cX2_bringBack 13 = .ok (.dup, 1) := by decide +kernel
theorem dX2_bringBack_14 : decode cX2_bringBack 14 = .ok (.getfield 18, 3) := by decide +kernel
theorem dX2_bringBack_17 : decode cX2_bringBack 17 = .ok (.iload_n 1, 1) := by decide +kernel
theorem dX2_bringBack_18 : decode cX2_bringBack 18 = .ok (.isub, 1) := by decide +kernel
theorem dX2_bringBack_19 : decode cX2_bringBack 19 = .ok (.putfield 18, 3) := by decide +kernel
theorem dX2_bringBack_22 : decode cX2_bringBack 22 = .ok (.aload_n 2, 1) := by decide +kernel
theorem dX2_bringBack_23 : decode cX2_bringBack 23 = .ok (.aload_n 0, 1) := by decide +kernel
theorem dX2_bringBack_24 : decode cX2_bringBack 24 = .ok (.getfield 11, 3) := by decide +kernel
theorem dX2_bringBack_27 : decode cX2_bringBack 27 = .ok (.aload_n 0, 1) := by decide +kernel
theorem dX2_bringBack_28 : decode cX2_bringBack 28 = .ok (.getfield 22, 3) := by decide +kernel
theorem dX2_bringBack_31 : decode cX2_bringBack 31 = .ok (.aload_n 0, 1) := by decide +kernel
theorem dX2_bringBack_32 : decode cX2_bringBack 32 = .ok (.getfield 18, 3) := by decide +kernel
theorem dX2_bringBack_35 : decode cX2_bringBack 35 = .ok (.iadd, 1) := by decide +kernel
theorem dX2_bringBack_36 : decode cX2_bringBack 36 = .ok (.bipush 8, 2) := by decide +kernel
theorem dX2_bringBack_38 : decode cX2_bringBack 38 = .ok (.irem, 1) := by decide +kernel
theorem dX2_bringBack_39 : decode cX2_bringBack 39 = .ok (.aaload, 1) := by decide +kernel
theorem dX2_bringBack_40 : decode cX2_bringBack 40 = .ok (.invokevirtual 25, 3) := by decide +kernel
theorem dX2_bringBack_43 : decode cX2_bringBack 43 = .ok (.return_, 1) := by decide +kernel
set_option maxRecDepth 100000 in
set_option maxHeartbeats 4000000 in
theorem v_X2_bringBack {l : Launch} {p : Program} {e : Env} {s : State} {mt : MethodId} {args : Array Value} {below : List Frame} {meth : Method} {c : Code} {A : Nat → Prop} {ad0 : Nat → Nat} {G : Gt} {N : Nat} (C : Cx G p s mt args meth c RX2 cX2_bringBack 3 none "bringBack" A) (hN : 109 ≤ N) (b2 : Nat) (hb2 : isLife N b2) (x1 : Int32) (m : Mem) : V G SX oV l p e s mt args below meth c 3 3 A ad0 N N RX N RX 0 [(0, .ref 40), (1, .int x1), (2, .ref b2)] [] m (X2_bringBack b2 x1 m) := by
  rw [X2_bringBack]
  refine V.iload_n (pc := 0) C dX2_bringBack_0 1 rfl ?_
  refine V.if_le (pc := 1) C dX2_bringBack_1 43 (by decide) (fun _ => ?_) (fun _ => ?_)
  · exact V.vret C dX2_bringBack_43
  · refine V.iload_n (pc := 4) C dX2_bringBack_4 1 rfl ?_
    refine V.aload_n (pc := 5) C dX2_bringBack_5 0 rfl ?_
    refine V.geti (pc := 6) C fl_RX2_18 sX40 (kX40 hN) rfl dX2_bringBack_6 ?_
    refine V.icmp_gt (pc := 9) C dX2_bringBack_9 43 (by decide) (fun _ => ?_) (fun _ => ?_)
    · exact V.vret C dX2_bringBack_43
    · refine V.aload_n (pc := 12) C dX2_bringBack_12 0 rfl ?_
      refine V.dup (pc := 13) C dX2_bringBack_13 rfl ?_
      refine V.geti (pc := 14) C fl_RX2_18 sX40 (kX40 hN) rfl dX2_bringBack_14 ?_
      refine V.iload_n (pc := 17) C dX2_bringBack_17 1 rfl ?_
      refine V.isub (pc := 18) C dX2_bringBack_18 ?_
      refine V.puti (pc := 19) C fp_RX2_18 sX40 (kX40 hN) rfl dX2_bringBack_19 ?_
      refine V.ltm (fun m_1 => ?_)
      refine V.aload_n (pc := 22) C dX2_bringBack_22 2 rfl ?_
      refine V.aload_n (pc := 23) C dX2_bringBack_23 0 rfl ?_
      refine V.getr (pc := 24) C fl_RX2_11 sX40 (kX40 hN) rfl rX40_0 dX2_bringBack_24 ?_
      refine V.aload_n (pc := 27) C dX2_bringBack_27 0 rfl ?_
      refine V.geti (pc := 28) C fl_RX2_22 sX40 (kX40 hN) rfl dX2_bringBack_28 ?_
      refine V.aload_n (pc := 31) C dX2_bringBack_31 0 rfl ?_
      refine V.geti (pc := 32) C fl_RX2_18 sX40 (kX40 hN) rfl dX2_bringBack_32 ?_
      refine V.iadd (pc := 35) C dX2_bringBack_35 ?_
      refine V.bipush (pc := 36) C dX2_bringBack_36 (v := 8) (by decide) ?_
      refine V.irem (pc := 38) C dX2_bringBack_38 (by decide) ?_
      refine V.aald (pc := 39) (f := fun j => 42 + 6 * j) C sX41 (Or.inl rfl) (kX41 hN) rPast dX2_bringBack_39 (fun h_3 => ?_)
      refine V.ltr (fun b_2 eb_2 => ?_)
      have hb_2 : isLife N b_2 := by rw [eb_2]; exact lifePast hN h_3
      refine V.callV (pc := 40) (st := []) C (c_X5_become l hN b2 hb2 b_2 hb_2 m_1) obV ck_X5_become ml_RX2_25 rfl rfl hb2.s hb2.k rfl rfl (Nat.le_of_ble_eq_true rfl) ⟨by decide, by decide⟩ dX2_bringBack_40 (fun r_4 m_5 _ => ?_)
      exact V.vret C dX2_bringBack_43
theorem c_X2_bringBack (l : Launch) {N : Nat} (hN : 109 ≤ N) (b2 : Nat) (hb2 : isLife N b2) (x1 : Int32) (m : Mem) : Ct l yX2_bringBack cX2_bringBack 3 none 3 SX oV N N RX RX [.ref 40, .int x1, .ref b2] m (X2_bringBack b2 x1 m) :=
  Ct.of (own := RX2) (nm := "bringBack") (by decide) rfl rfl (Nat.le_of_ble_eq_true rfl) (fun _ _ _ _ _ _ _ _ _ _ _ C => v_X2_bringBack C hN b2 hb2 x1 m)
theorem dX11_undo_0 : decode cX11_undo 0 = .ok (.iload_n 1, 1) := by decide +kernel
theorem dX11_undo_1 : decode cX11_undo 1 = .ok (.iconst 1, 1) := by decide +kernel
theorem dX11_undo_2 : decode cX11_undo 2 = .ok (.if_icmp .lt 14, 3) := by decide +kernel
theorem dX11_undo_5 : decode cX11_undo 5 = .ok (.iload_n 1, 1) := by decide +kernel
theorem dX11_undo_6 : decode cX11_undo 6 = .ok (.aload_n 0, 1) := by decide +kernel
theorem dX11_undo_7 : decode cX11_undo 7 = .ok (.getfield 57, 3) := by decide +kernel
theorem dX11_undo_10 : decode cX11_undo 10 = .ok (.getfield 216, 3) := by decide +kernel
theorem dX11_undo_13 : decode cX11_undo 13 = .ok (.if_icmp .le 6, 3) := by decide +kernel
theorem dX11_undo_16 : decode cX11_undo 16 = .ok (.bipush (-3), 2) := by decide +kernel
theorem dX11_undo_18 : decode cX11_undo 18 = .ok (.ireturn, 1) := by decide +kernel
theorem dX11_undo_19 : decode cX11_undo 19 = .ok (.aload_n 0, 1) := by decide +kernel
theorem dX11_undo_20 : decode cX11_undo 20 = .ok (.getfield 57, 3) := by decide +kernel
theorem dX11_undo_23 : decode cX11_undo 23 = .ok (.iload_n 1, 1) := by decide +kernel
theorem dX11_undo_24 : decode cX11_undo 24 = .ok (.aload_n 0, 1) := by decide +kernel
theorem dX11_undo_25 : decode cX11_undo 25 = .ok (.getfield 38, 3) := by decide +kernel
theorem dX11_undo_28 : decode cX11_undo 28 = .ok (.getfield 108, 3) := by decide +kernel
theorem dX11_undo_31 : decode cX11_undo 31 = .ok (.invokevirtual 219, 3) := by decide +kernel
theorem dX11_undo_34 : decode cX11_undo 34 = .ok (.aload_n 0, 1) := by decide +kernel
theorem dX11_undo_35 : decode cX11_undo 35 = .ok (.getfield 57, 3) := by decide +kernel
theorem dX11_undo_38 : decode cX11_undo 38 = .ok (.getfield 216, 3) := by decide +kernel
theorem dX11_undo_41 : decode cX11_undo 41 = .ok (.ireturn, 1) := by decide +kernel
set_option maxRecDepth 100000 in
set_option maxHeartbeats 4000000 in
theorem v_X11_undo {l : Launch} {p : Program} {e : Env} {s : State} {mt : MethodId} {args : Array Value} {below : List Frame} {meth : Method} {c : Code} {A : Nat → Prop} {ad0 : Nat → Nat} {G : Gt} {N : Nat} (C : Cx G p s mt args meth c RX11 cX11_undo 2 (some .int) "undo" A) (hN : 109 ≤ N) (x1 : Int32) (m : Mem) : V G SX oI l p e s mt args below meth c 2 4 A ad0 N N RX N RX 0 [(0, .ref 0), (1, .int x1)] [] m (X11_undo  x1 m) := by
  rw [X11_undo]
  refine V.iload_n (pc := 0) C dX11_undo_0 1 rfl ?_
  refine V.iconst (pc := 1) C dX11_undo_1 (v := 1) (by decide) ?_
  refine V.icmp_lt (pc := 2) C dX11_undo_2 16 (by decide) (fun _ => ?_) (fun _ => ?_)
  · refine V.bipush (pc := 16) C dX11_undo_16 (v := (-3)) (by decide) ?_
    exact V.iret C dX11_undo_18
  · refine V.iload_n (pc := 5) C dX11_undo_5 1 rfl ?_
    refine V.aload_n (pc := 6) C dX11_undo_6 0 rfl ?_
    refine V.getr (pc := 7) C fl_RX11_57 sX0 (kX0 hN) rfl rX0_9 dX11_undo_7 ?_
    refine V.geti (pc := 10) C fl_RX11_216 sX40 (kX40 hN) rfl dX11_undo_10 ?_
    refine V.icmp_le (pc := 13) C dX11_undo_13 19 (by decide) (fun _ => ?_) (fun _ => ?_)
    · refine V.aload_n (pc := 19) C dX11_undo_19 0 rfl ?_
      refine V.getr (pc := 20) C fl_RX11_57 sX0 (kX0 hN) rfl rX0_9 dX11_undo_20 ?_
      refine V.iload_n (pc := 23) C dX11_undo_23 1 rfl ?_
      refine V.aload_n (pc := 24) C dX11_undo_24 0 rfl ?_
      refine V.getr (pc := 25) C fl_RX11_38 sX0 (kX0 hN) rfl rX0_6 dX11_undo_25 ?_
      refine V.getr (pc := 28) C fl_RX11_108 sX25 (kX25 hN) rfl rX25_2 dX11_undo_28 ?_
      refine V.callV (pc := 31) (st := []) C (c_X2_bringBack l hN 26 (iX26 hN) x1 m) obV ck_X2_bringBack ml_RX11_219 rfl rfl sX40 (kX40 hN) rfl rfl (Nat.le_of_ble_eq_true rfl) ⟨by decide, by decide⟩ dX11_undo_31 (fun r_1 m_2 _ => ?_)
      refine V.aload_n (pc := 34) C dX11_undo_34 0 rfl ?_
      refine V.getr (pc := 35) C fl_RX11_57 sX0 (kX0 hN) rfl rX0_9 dX11_undo_35 ?_
      refine V.geti (pc := 38) C fl_RX11_216 sX40 (kX40 hN) rfl dX11_undo_38 ?_
      exact V.iret C dX11_undo_41
    · refine V.bipush (pc := 16) C dX11_undo_16 (v := (-3)) (by decide) ?_
      exact V.iret C dX11_undo_18
theorem c_X11_undo (l : Launch) {N : Nat} (hN : 109 ≤ N) (x1 : Int32) (m : Mem) : Ct l yX11_undo cX11_undo 2 (some .int) 4 SX oI N N RX RX [.ref 0, .int x1] m (X11_undo  x1 m) :=
  Ct.of (own := RX11) (nm := "undo") (by decide) rfl rfl (Nat.le_of_ble_eq_true rfl) (fun _ _ _ _ _ _ _ _ _ _ _ C => v_X11_undo C hN x1 m)
theorem dX11_wed_0 : decode cX11_wed 0 = .ok (.aload_n 0, 1) := by decide +kernel
theorem dX11_wed_1 : decode cX11_wed 1 = .ok (.getfield 38, 3) := by decide +kernel
theorem dX11_wed_4 : decode cX11_wed 4 = .ok (.iload_n 1, 1) := by decide +kernel
theorem dX11_wed_5 : decode cX11_wed 5 = .ok (.iload_n 2, 1) := by decide +kernel
theorem dX11_wed_6 : decode cX11_wed 6 = .ok (.invokevirtual 185, 3) := by decide +kernel
theorem dX11_wed_9 : decode cX11_wed 9 = .ok (.istore_n 3, 1) := by decide +kernel
theorem dX11_wed_10 : decode cX11_wed 10 = .ok (.iload_n 3, 1) := by decide +kernel
theorem dX11_wed_11 : decode cX11_wed 11 = .ok (.ifCond .eq 8, 3) := by decide +kernel
theorem dX11_wed_14 : decode cX11_wed 14 = .ok (.bipush (-10), 2) := by decide +kernel
theorem dX11_wed_16 : decode cX11_wed 16 = .ok (.iload_n 3, 1) := by decide +kernel
theorem dX11_wed_17 : decode cX11_wed 17 = .ok (.isub, 1) := by decide +kernel
theorem dX11_wed_18 : decode cX11_wed 18 = .ok (.ireturn, 1) := by decide +kernel
theorem dX11_wed_19 : decode cX11_wed 19 = .ok (.aload_n 0, 1) := by decide +kernel
theorem dX11_wed_20 : decode cX11_wed 20 = .ok (.getfield 57, 3) := by decide +kernel
theorem dX11_wed_23 : decode cX11_wed 23 = .ok (.aload_n 0, 1) := by decide +kernel
theorem dX11_wed_24 : decode cX11_wed 24 = .ok (.getfield 38, 3) := by decide +kernel
theorem dX11_wed_27 : decode cX11_wed 27 = .ok (.getfield 108, 3) := by decide +kernel
theorem dX11_wed_30 : decode cX11_wed 30 = .ok (.invokevirtual 188, 3) := by decide +kernel
theorem dX11_wed_33 : decode cX11_wed 33 = .ok (.aload_n 0, 1) := by decide +kernel
theorem dX11_wed_34 : decode cX11_wed 34 = .ok (.getfield 38, 3) := by decide +kernel
theorem dX11_wed_37 : decode cX11_wed 37 = .ok (.getfield 108, 3) := by decide +kernel
theorem dX11_wed_40 : decode cX11_wed 40 = .ok (.iload_n 1, 1) := by decide +kernel
theorem dX11_wed_41 : decode cX11_wed 41 = .ok (.iload_n 2, 1) := by decide +kernel
theorem dX11_wed_42 : decode cX11_wed 42 = .ok (.invokevirtual 191, 3) := by decide +kernel
theorem dX11_wed_45 : decode cX11_wed 45 = .ok (.aload_n 0, 1) := by decide +kernel
theorem dX11_wed_46 : decode cX11_wed 46 = .ok (.getfield 38, 3) := by decide +kernel
theorem dX11_wed_49 : decode cX11_wed 49 = .ok (.iload_n 1, 1) := by decide +kernel
theorem dX11_wed_50 : decode cX11_wed 50 = .ok (.iload_n 2, 1) := by decide +kernel
theorem dX11_wed_51 : decode cX11_wed 51 = .ok (.invokevirtual 177, 3) := by decide +kernel
theorem dX11_wed_54 : decode cX11_wed 54 = .ok (.ireturn, 1) := by decide +kernel
set_option maxRecDepth 100000 in
set_option maxHeartbeats 4000000 in
theorem v_X11_wed {l : Launch} {p : Program} {e : Env} {s : State} {mt : MethodId} {args : Array Value} {below : List Frame} {meth : Method} {c : Code} {A : Nat → Prop} {ad0 : Nat → Nat} {G : Gt} {N : Nat} (C : Cx G p s mt args meth c RX11 cX11_wed 4 (some .int) "wed" A) (hN : 109 ≤ N) (x1 : Int32) (x2 : Int32) (m : Mem) : V G SX oI l p e s mt args below meth c 4 5 A ad0 N N RX N RX 0 [(0, .ref 0), (1, .int x1), (2, .int x2)] [] m (X11_wed  x1 x2 m) := by
  rw [X11_wed]
  refine V.aload_n (pc := 0) C dX11_wed_0 0 rfl ?_
  refine V.getr (pc := 1) C fl_RX11_38 sX0 (kX0 hN) rfl rX0_6 dX11_wed_1 ?_
  refine V.iload_n (pc := 4) C dX11_wed_4 1 rfl ?_
  refine V.iload_n (pc := 5) C dX11_wed_5 2 rfl ?_
  refine V.callV (pc := 6) (st := []) C (c_X10_whyNotMarry l hN 25 (iX25 hN) x1 x2 m) obI ck_X10_whyNotMarry ml_RX11_185 rfl rfl sX25 (kX25 hN) rfl rfl (Nat.le_of_ble_eq_true rfl) ⟨by decide, by decide⟩ dX11_wed_6 (fun r_1 m_2 _ => ?_)
  refine V.istore_n (pc := 9) C dX11_wed_9 (L2 := [(3, .int r_1), (0, .ref 0), (1, .int x1), (2, .int x2)]) (by decide) rfl ?_
  refine V.iload_n (pc := 10) C dX11_wed_10 0 rfl ?_
  refine V.if_eq (pc := 11) C dX11_wed_11 19 (by decide) (fun _ => ?_) (fun _ => ?_)
  · refine V.aload_n (pc := 19) C dX11_wed_19 1 rfl ?_
    refine V.getr (pc := 20) C fl_RX11_57 sX0 (kX0 hN) rfl rX0_9 dX11_wed_20 ?_
    refine V.aload_n (pc := 23) C dX11_wed_23 1 rfl ?_
    refine V.getr (pc := 24) C fl_RX11_38 sX0 (kX0 hN) rfl rX0_6 dX11_wed_24 ?_
    refine V.getr (pc := 27) C fl_RX11_108 sX25 (kX25 hN) rfl rX25_2 dX11_wed_27 ?_
    refine V.callV (pc := 30) (st := []) C (c_X2_keep l hN 26 (iX26 hN) m_2) obV ck_X2_keep ml_RX11_188 rfl rfl sX40 (kX40 hN) rfl rfl (Nat.le_of_ble_eq_true rfl) ⟨by decide, by decide⟩ dX11_wed_30 (fun r_3 m_4 _ => ?_)
    refine V.aload_n (pc := 33) C dX11_wed_33 1 rfl ?_
    refine V.getr (pc := 34) C fl_RX11_38 sX0 (kX0 hN) rfl rX0_6 dX11_wed_34 ?_
    refine V.getr (pc := 37) C fl_RX11_108 sX25 (kX25 hN) rfl rX25_2 dX11_wed_37 ?_
    refine V.iload_n (pc := 40) C dX11_wed_40 2 rfl ?_
    refine V.iload_n (pc := 41) C dX11_wed_41 3 rfl ?_
    refine V.callV (pc := 42) (st := []) C (c_X5_marry l hN 26 (iX26 hN) x1 x2 m_4) obV ck_X5_marry ml_RX11_191 rfl rfl sX26 (kX26 hN) rfl rfl (Nat.le_of_ble_eq_true rfl) ⟨by decide, by decide⟩ dX11_wed_42 (fun r_5 m_6 _ => ?_)
    refine V.aload_n (pc := 45) C dX11_wed_45 1 rfl ?_
    refine V.getr (pc := 46) C fl_RX11_38 sX0 (kX0 hN) rfl rX0_6 dX11_wed_46 ?_
    refine V.iload_n (pc := 49) C dX11_wed_49 2 rfl ?_
    refine V.iload_n (pc := 50) C dX11_wed_50 3 rfl ?_
    refine V.callV (pc := 51) (st := []) C (c_X10_goodness l hN 25 (iX25 hN) x1 x2 m_6) obI ck_X10_goodness ml_RX11_177 rfl rfl sX25 (kX25 hN) rfl rfl (Nat.le_of_ble_eq_true rfl) ⟨by decide, by decide⟩ dX11_wed_51 (fun r_7 m_8 _ => ?_)
    exact V.iret C dX11_wed_54
  · refine V.bipush (pc := 14) C dX11_wed_14 (v := (-10)) (by decide) ?_
    refine V.iload_n (pc := 16) C dX11_wed_16 0 rfl ?_
    refine V.isub (pc := 17) C dX11_wed_17 ?_
    exact V.iret C dX11_wed_18
theorem c_X11_wed (l : Launch) {N : Nat} (hN : 109 ≤ N) (x1 : Int32) (x2 : Int32) (m : Mem) : Ct l yX11_wed cX11_wed 4 (some .int) 5 SX oI N N RX RX [.ref 0, .int x1, .int x2] m (X11_wed  x1 x2 m) :=
  Ct.of (own := RX11) (nm := "wed") (by decide) rfl rfl (Nat.le_of_ble_eq_true rfl) (fun _ _ _ _ _ _ _ _ _ _ _ C => v_X11_wed C hN x1 x2 m)
theorem dX11_write_0 : decode cX11_write 0 = .ok (.iload_n 1, 1) := by decide +kernel
theorem dX11_write_1 : decode cX11_write 1 = .ok (.invokestatic 223, 3) := by decide +kernel
theorem dX11_write_4 : decode cX11_write 4 = .ok (.ifCond .ne 7, 3) := by decide +kernel
theorem dX11_write_7 : decode cX11_write 7 = .ok (.ldc2_w 344, 3) := by decide +kernel
theorem dX11_write_10 : decode cX11_write 10 = .ok (.lreturn, 1) := by decide +kernel
theorem dX11_write_11 : decode cX11_write 11 = .ok (.aload_n 0, 1) := by decide +kernel
theorem dX11_write_12 : decode cX11_write 12 = .ok (.getfield 79, 3) := by decide +kernel
theorem dX11_write_15 : decode cX11_write 15 = .ok (.iload_n 1, 1) := by decide +kernel
theorem dX11_write_16 : decode cX11_write 16 = .ok (.aaload, 1) := by decide +kernel
theorem dX11_write_17 : decode cX11_write 17 = .ok (.astore 5, 2) := by decide +kernel
theorem dX11_write_19 : decode cX11_write 19 = .ok (.aload 5, 2) := by decide +kernel
theorem dX11_write_21 : decode cX11_write 21 = .ok (.getfield 226, 3) := by decide +kernel
theorem dX11_write_24 : decode cX11_write 24 = .ok (.ifCond .ne 7, 3) := by decide +kernel
theorem dX11_write_27 : decode cX11_write 27 = .ok (.ldc2_w 346, 3) := by decide +kernel
theorem dX11_write_30 : decode cX11_write 30 = .ok (.lreturn, 1) := by decide +kernel
theorem dX11_write_31 : decode cX11_write 31 = .ok (.iload_n 2, 1) := by decide +kernel
theorem dX11_write_32 : decode cX11_write 32 = .ok (.ifCond .lt 12, 3) := by decide +kernel
theorem dX11_write_35 : decode cX11_write 35 = .ok (.iload_n 2, 1) := by decide +kernel
theorem dX11_write_36 : decode cX11_write 36 = .ok (.aload 5, 2) := by decide +kernel
theorem dX11_write_38 : decode cX11_write 38 = .ok (.getfield 348, 3) := by decide +kernel
theorem dX11_write_41 : decode cX11_write 41 = .ok (.if_icmp .lt 7, 3) := by decide +kernel
theorem dX11_write_44 : decode cX11_write 44 = .ok (.ldc2_w 351, 3) := by decide +kernel
theorem dX11_write_47 : decode cX11_write 47 = .ok (.lreturn, 1) := by decide +kernel
theorem dX11_write_48 : decode cX11_write 48 = .ok (.aload 5, 2) := by decide +kernel
theorem dX11_write_50 : decode cX11_write 50 = .ok (.getfield 353, 3) := by decide +kernel
theorem dX11_write_53 : decode cX11_write 53 = .ok (.iload_n 2, 1) := by decide +kernel
theorem dX11_write_54 : decode cX11_write 54 = .ok (.aload 5, 2) := by decide +kernel
theorem dX11_write_56 : decode cX11_write 56 = .ok (.lload_n 3, 1) := by decide +kernel
theorem dX11_write_57 : decode cX11_write 57 = .ok (.invokevirtual 357, 3) := by decide +kernel
theorem dX11_write_60 : decode cX11_write 60 = .ok (.lastore, 1) := by decide +kernel
theorem dX11_write_61 : decode cX11_write 61 = .ok (.aload 5, 2) := by decide +kernel
theorem dX11_write_63 : decode cX11_write 63 = .ok (.getfield 353, 3) := by decide +kernel
theorem dX11_write_66 : decode cX11_write 66 = .ok (.iload_n 2, 1) := by decide +kernel
theorem dX11_write_67 : decode cX11_write 67 = .ok (.laload, 1) := by decide +kernel
theorem dX11_write_68 : decode cX11_write 68 = .ok (.lreturn, 1) := by decide +kernel
set_option maxRecDepth 100000 in
set_option maxHeartbeats 4000000 in
theorem v_X11_write {l : Launch} {p : Program} {e : Env} {s : State} {mt : MethodId} {args : Array Value} {below : List Frame} {meth : Method} {c : Code} {A : Nat → Prop} {ad0 : Nat → Nat} {G : Gt} {N : Nat} (C : Cx G p s mt args meth c RX11 cX11_write 6 (some .long) "write" A) (hN : 109 ≤ N) (x1 : Int32) (x2 : Int32) (x3 : Int64) (m : Mem) : V G SX oL l p e s mt args below meth c 6 2 A ad0 N N RX N RX 0 [(0, .ref 0), (1, .int x1), (2, .int x2), (3, .long x3)] [] m (X11_write  x1 x2 x3 m) := by
  rw [X11_write]
  refine V.iload_n (pc := 0) C dX11_write_0 1 rfl ?_
  refine V.callS (pc := 1) (st := []) C (c_X11_isTray l hN x1 m) obI ck_X11_isTray ml_RX11_223 rfl rfl (Nat.le_of_ble_eq_true rfl) ⟨by decide, by decide⟩ dX11_write_1 (fun r_1 m_2 _ => ?_)
  refine V.if_ne (pc := 4) C dX11_write_4 11 (by decide) (fun _ => ?_) (fun _ => ?_)
  · refine V.aload_n (pc := 11) C dX11_write_11 0 rfl ?_
    refine V.getr (pc := 12) C fl_RX11_79 sX0 (kX0 hN) rfl rX0_12 dX11_write_12 ?_
    refine V.iload_n (pc := 15) C dX11_write_15 1 rfl ?_
    refine V.aald (pc := 16) (f := fun j => 100 + 2 * j) C sX99 (Or.inr rfl) (kX99 hN) rTrays dX11_write_16 (fun h_4 => ?_)
    refine V.ltr (fun b_3 eb_3 => ?_)
    have hb_3 : isTray N b_3 := by rw [eb_3]; exact trayAt hN h_4
    refine V.astore (pc := 17) C dX11_write_17 (L2 := [(5, .ref b_3), (0, .ref 0), (1, .int x1), (2, .int x2), (3, .long x3)]) (by decide) rfl ?_
    refine V.aload (pc := 19) C dX11_write_19 0 rfl ?_
    refine V.geti (pc := 21) C fl_RX11_226 hb_3.s hb_3.k rfl dX11_write_21 ?_
    refine V.if_ne (pc := 24) C dX11_write_24 31 (by decide) (fun _ => ?_) (fun _ => ?_)
    · refine V.iload_n (pc := 31) C dX11_write_31 3 rfl ?_
      refine V.if_lt (pc := 32) C dX11_write_32 44 (by decide) (fun _ => ?_) (fun _ => ?_)
      · refine V.ldc2 (pc := 44) C dX11_write_44 (v := (-7)) cl_RX11_351 ?_
        exact V.lret C dX11_write_47
      · refine V.iload_n (pc := 35) C dX11_write_35 3 rfl ?_
        refine V.aload (pc := 36) C dX11_write_36 0 rfl ?_
        refine V.geti (pc := 38) C fl_RX11_348 hb_3.s hb_3.k rfl dX11_write_38 ?_
        refine V.icmp_lt (pc := 41) C dX11_write_41 48 (by decide) (fun _ => ?_) (fun _ => ?_)
        · refine V.aload (pc := 48) C dX11_write_48 0 rfl ?_
          refine V.getr (pc := 50) C fl_RX11_353 hb_3.s hb_3.k rfl hb_3.r3 dX11_write_50 ?_
          refine V.iload_n (pc := 53) C dX11_write_53 3 rfl ?_
          refine V.aload (pc := 54) C dX11_write_54 0 rfl ?_
          refine V.lload_n (pc := 56) C dX11_write_56 4 rfl ?_
          refine V.callV (pc := 57) (st := [.int x2, .ref (b_3 + 1)]) C (c_X9_cut l hN b_3 hb_3 x3 m_2) obL ck_X9_cut ml_RX11_357 rfl rfl hb_3.s hb_3.k rfl rfl (Nat.le_of_ble_eq_true rfl) ⟨by decide, by decide⟩ dX11_write_57 (fun r_5 m_6 _ => ?_)
          refine V.last (pc := 60) C hb_3.s1 hb_3.k1 dX11_write_60 (fun _ => ?_)
          refine V.ltm (fun m_7 => ?_)
          refine V.aload (pc := 61) C dX11_write_61 0 rfl ?_
          refine V.getr (pc := 63) C fl_RX11_353 hb_3.s hb_3.k rfl hb_3.r3 dX11_write_63 ?_
          refine V.iload_n (pc := 66) C dX11_write_66 3 rfl ?_
          refine V.lald (pc := 67) C hb_3.s1 hb_3.k1 dX11_write_67 (fun _ => ?_)
          exact V.lret C dX11_write_68
        · refine V.ldc2 (pc := 44) C dX11_write_44 (v := (-7)) cl_RX11_351 ?_
          exact V.lret C dX11_write_47
    · refine V.ldc2 (pc := 27) C dX11_write_27 (v := (-6)) cl_RX11_346 ?_
      exact V.lret C dX11_write_30
  · refine V.ldc2 (pc := 7) C dX11_write_7 (v := (-2)) cl_RX11_344 ?_
    exact V.lret C dX11_write_10
theorem c_X11_write (l : Launch) {N : Nat} (hN : 109 ≤ N) (x1 : Int32) (x2 : Int32) (x3 : Int64) (m : Mem) : Ct l yX11_write cX11_write 6 (some .long) 2 SX oL N N RX RX [.ref 0, .int x1, .int x2, .long x3] m (X11_write  x1 x2 x3 m) :=
  Ct.of (own := RX11) (nm := "write") (by decide) rfl rfl (Nat.le_of_ble_eq_true rfl) (fun _ _ _ _ _ _ _ _ _ _ _ C => v_X11_write C hN x1 x2 x3 m)
theorem dX11_years_0 : decode cX11_years 0 = .ok (.iload_n 1, 1) := by decide +kernel
theorem dX11_years_1 : decode cX11_years 1 = .ok (.iconst 1, 1) := by decide +kernel
theorem dX11_years_2 : decode cX11_years 2 = .ok (.if_icmp .lt 9, 3) := by decide +kernel
theorem dX11_years_5 : decode cX11_years 5 = .ok (.iload_n 1, 1) := by decide +kernel
theorem dX11_years_6 : decode cX11_years 6 = .ok (.bipush 60, 2) := by decide +kernel
theorem dX11_years_8 : decode cX11_years 8 = .ok (.if_icmp .le 6, 3) := by decide +kernel
theorem dX11_years_11 : decode cX11_years 11 = .ok (.bipush (-3), 2) := by decide +kernel
theorem dX11_years_13 : decode cX11_years 13 = .ok (.ireturn, 1) := by decide +kernel
theorem dX11_years_14 : decode cX11_years 14 = .ok (.aload_n 0, 1) := by decide +kernel
theorem dX11_years_15 : decode cX11_years 15 = .ok (.getfield 57, 3) := by decide +kernel
theorem dX11_years_18 : decode cX11_years 18 = .ok (.aload_n 0, 1) := by decide +kernel
theorem dX11_years_19 : decode cX11_years 19 = .ok (.getfield 38, 3) := by decide +kernel
theorem dX11_years_22 : decode cX11_years 22 = .ok (.getfield 108, 3) := by decide +kernel
theorem dX11_years_25 : decode cX11_years 25 = .ok (.invokevirtual 188, 3) := by decide +kernel
theorem dX11_years_28 : decode cX11_years 28 = .ok (.iconst 0, 1) := by decide +kernel
theorem dX11_years_29 : decode cX11_years 29 = .ok (.istore_n 2, 1) := by decide +kernel
theorem dX11_years_30 : decode cX11_years 30 = .ok (.iconst 0, 1) := by decide +kernel
theorem dX11_years_31 : decode cX11_years 31 = .ok (.istore_n 3, 1) := by decide +kernel
theorem dX11_years_32 : decode cX11_years 32 = .ok (.iload_n 3, 1) := by decide +kernel
theorem dX11_years_33 : decode cX11_years 33 = .ok (.iload_n 1, 1) := by decide +kernel
theorem dX11_years_34 : decode cX11_years 34 = .ok (.if_icmp .ge 19, 3) := by decide +kernel
theorem dX11_years_37 : decode cX11_years 37 = .ok (.iload_n 2, 1) := by decide +kernel
theorem dX11_years_38 : decode cX11_years 38 = .ok (.aload_n 0, 1) := by decide +kernel
theorem dX11_years_39 : decode cX11_years 39 = .ok (.getfield 38, 3) := by decide +kernel
theorem dX11_years_42 : decode cX11_years 42 = .ok (.invokevirtual 212, 3) := by decide +kernel
theorem dX11_years_45 : decode cX11_years 45 = .ok (.iadd, 1) := by decide +kernel
theorem dX11_years_46 : decode cX11_years 46 = .ok (.istore_n 2, 1) := by decide +kernel
theorem dX11_years_47 : decode cX11_years 47 = .ok (.iinc 3 1, 3) := by decide +kernel
theorem dX11_years_50 : decode cX11_years 50 = .ok (.goto (-18), 3) := by decide +kernel
theorem dX11_years_53 : decode cX11_years 53 = .ok (.iload_n 2, 1) := by decide +kernel
theorem dX11_years_54 : decode cX11_years 54 = .ok (.ireturn, 1) := by decide +kernel
set_option maxRecDepth 100000 in
set_option maxHeartbeats 4000000 in
theorem v_X11_years_b32 {l : Launch} {p : Program} {e : Env} {s : State} {mt : MethodId} {args : Array Value} {below : List Frame} {meth : Method} {c : Code} {A : Nat → Prop} {ad0 : Nat → Nat} {G : Gt} {N : Nat} (C : Cx G p s mt args meth c RX11 cX11_years 4 (some .int) "years" A) (hN : 109 ≤ N) : ∀ (n : Nat) (y1 : Int32) (y2 : Int32) (y3 : Int32) (m : Mem), V G SX oI l p e s mt args below meth c 4 6 A ad0 N N RX N RX 32 [(0, .ref 0), (1, .int y1), (2, .int y2), (3, .int y3)] [] m (X11_years_b32  n y1 y2 y3 m) := by
  intro n
  induction n with
  | zero =>
    intro y1 y2 y3 m
    rw [X11_years_b32]
    exact V.nil
  | succ n ih =>
    intro y1 y2 y3 m
    rw [X11_years_b32]
    refine V.iload_n (pc := 32) C dX11_years_32 3 rfl ?_
    refine V.iload_n (pc := 33) C dX11_years_33 1 rfl ?_
    refine V.icmp_ge (pc := 34) C dX11_years_34 53 (by decide) (fun _ => ?_) (fun _ => ?_)
    · refine V.iload_n (pc := 53) C dX11_years_53 2 rfl ?_
      exact V.iret C dX11_years_54
    · refine V.iload_n (pc := 37) C dX11_years_37 2 rfl ?_
      refine V.aload_n (pc := 38) C dX11_years_38 0 rfl ?_
      refine V.getr (pc := 39) C fl_RX11_38 sX0 (kX0 hN) rfl rX0_6 dX11_years_39 ?_
      refine V.callV (pc := 42) (st := [.int y2]) C (c_X10_passYear l hN 25 (iX25 hN) m) obI ck_X10_passYear ml_RX11_212 rfl rfl sX25 (kX25 hN) rfl rfl (Nat.le_of_ble_eq_true rfl) ⟨by decide, by decide⟩ dX11_years_42 (fun r_3 m_4 _ => ?_)
      refine V.iadd (pc := 45) C dX11_years_45 ?_
      refine V.lti (fun x_5 _ => ?_)
      refine V.istore_n (pc := 46) C dX11_years_46 (L2 := [(2, .int x_5), (0, .ref 0), (1, .int y1), (3, .int y3)]) (by decide) rfl ?_
      refine V.iinc (pc := 47) C dX11_years_47 (v := 1) (L2 := [(3, .int (y3 + 1)), (2, .int x_5), (0, .ref 0), (1, .int y1)]) 3 rfl (by decide) (by decide) rfl ?_
      refine V.goto (pc := 50) C dX11_years_50 32 (by decide) ?_
      refine V.wk [2, 3, 1, 0] rfl ?_
      exact ih y1 x_5 (y3 + 1) m_4
set_option maxRecDepth 100000 in
set_option maxHeartbeats 4000000 in
theorem v_X11_years {l : Launch} {p : Program} {e : Env} {s : State} {mt : MethodId} {args : Array Value} {below : List Frame} {meth : Method} {c : Code} {A : Nat → Prop} {ad0 : Nat → Nat} {G : Gt} {N : Nat} (C : Cx G p s mt args meth c RX11 cX11_years 4 (some .int) "years" A) (hN : 109 ≤ N) (x1 : Int32) (m : Mem) : V G SX oI l p e s mt args below meth c 4 6 A ad0 N N RX N RX 0 [(0, .ref 0), (1, .int x1)] [] m (X11_years  x1 m) := by
  rw [X11_years]
  refine V.iload_n (pc := 0) C dX11_years_0 1 rfl ?_
  refine V.iconst (pc := 1) C dX11_years_1 (v := 1) (by decide) ?_
  refine V.icmp_lt (pc := 2) C dX11_years_2 11 (by decide) (fun _ => ?_) (fun _ => ?_)
  · refine V.bipush (pc := 11) C dX11_years_11 (v := (-3)) (by decide) ?_
    exact V.iret C dX11_years_13
  · refine V.iload_n (pc := 5) C dX11_years_5 1 rfl ?_
    refine V.bipush (pc := 6) C dX11_years_6 (v := 60) (by decide) ?_
    refine V.icmp_le (pc := 8) C dX11_years_8 14 (by decide) (fun _ => ?_) (fun _ => ?_)
    · refine V.aload_n (pc := 14) C dX11_years_14 0 rfl ?_
      refine V.getr (pc := 15) C fl_RX11_57 sX0 (kX0 hN) rfl rX0_9 dX11_years_15 ?_
      refine V.aload_n (pc := 18) C dX11_years_18 0 rfl ?_
      refine V.getr (pc := 19) C fl_RX11_38 sX0 (kX0 hN) rfl rX0_6 dX11_years_19 ?_
      refine V.getr (pc := 22) C fl_RX11_108 sX25 (kX25 hN) rfl rX25_2 dX11_years_22 ?_
      refine V.callV (pc := 25) (st := []) C (c_X2_keep l hN 26 (iX26 hN) m) obV ck_X2_keep ml_RX11_188 rfl rfl sX40 (kX40 hN) rfl rfl (Nat.le_of_ble_eq_true rfl) ⟨by decide, by decide⟩ dX11_years_25 (fun r_1 m_2 _ => ?_)
      refine V.iconst (pc := 28) C dX11_years_28 (v := 0) (by decide) ?_
      refine V.istore_n (pc := 29) C dX11_years_29 (L2 := [(2, .int 0), (0, .ref 0), (1, .int x1)]) (by decide) rfl ?_
      refine V.iconst (pc := 30) C dX11_years_30 (v := 0) (by decide) ?_
      refine V.istore_n (pc := 31) C dX11_years_31 (L2 := [(3, .int 0), (2, .int 0), (0, .ref 0), (1, .int x1)]) (by decide) rfl ?_
      refine V.wk [2, 3, 1, 0] rfl ?_
      exact v_X11_years_b32 C hN FU x1 0 0 m_2
    · refine V.bipush (pc := 11) C dX11_years_11 (v := (-3)) (by decide) ?_
      exact V.iret C dX11_years_13
theorem c_X11_years (l : Launch) {N : Nat} (hN : 109 ≤ N) (x1 : Int32) (m : Mem) : Ct l yX11_years cX11_years 4 (some .int) 6 SX oI N N RX RX [.ref 0, .int x1] m (X11_years  x1 m) :=
  Ct.of (own := RX11) (nm := "years") (by decide) rfl rfl (Nat.le_of_ble_eq_true rfl) (fun _ _ _ _ _ _ _ _ _ _ _ C => v_X11_years C hN x1 m)
theorem dX12_listOf_0 : decode cX12_listOf 0 = .ok (.iconst 0, 1) := by decide +kernel
theorem dX12_listOf_1 : decode cX12_listOf 1 = .ok (.istore_n 2, 1) := by decide +kernel
theorem dX12_listOf_2 : decode cX12_listOf 2 = .ok (.iconst 0, 1) := by decide +kernel
theorem dX12_listOf_3 : decode cX12_listOf 3 = .ok (.istore_n 3, 1) := by decide +kernel
theorem dX12_listOf_4 : decode cX12_listOf 4 = .ok (.iload_n 3, 1) := by decide +kernel
theorem dX12_listOf_5 : decode cX12_listOf 5 = .ok (.aload_n 0, 1) := by decide +kernel
theorem dX12_listOf_6 : decode cX12_listOf 6 = .ok (.getfield 13, 3) := by decide +kernel
theorem dX12_listOf_9 : decode cX12_listOf 9 = .ok (.iconst 1, 1) := by decide +kernel
theorem dX12_listOf_10 : decode cX12_listOf 10 = .ok (.iaload, 1) := by decide +kernel
theorem dX12_listOf_11 : decode cX12_listOf 11 = .ok (.if_icmp .ge 33, 3) := by decide +kernel
theorem dX12_listOf_14 : decode cX12_listOf 14 = .ok (.aload_n 0, 1) := by decide +kernel
theorem dX12_listOf_15 : decode cX12_listOf 15 = .ok (.getfield 13, 3) := by decide +kernel
theorem dX12_listOf_18 : decode cX12_listOf 18 = .ok (.bipush 41, 2) := by decide +kernel
theorem dX12_listOf_20 : decode cX12_listOf 20 = .ok (.bipush 14, 2) := by decide +kernel
theorem dX12_listOf_22 : decode cX12_listOf 22 = .ok (.iload_n 1, 1) := by decide +kernel
theorem dX12_listOf_23 : decode cX12_listOf 23 = .ok (.imul, 1) := by decide +kernel
theorem dX12_listOf_24 : decode cX12_listOf 24 = .ok (.iadd, 1) := by decide +kernel
theorem dX12_listOf_25 : decode cX12_listOf 25 = .ok (.iload_n 3, 1) := by decide +kernel
theorem dX12_listOf_26 : decode cX12_listOf 26 = .ok (.iadd, 1) := by decide +kernel
theorem dX12_listOf_27 : decode cX12_listOf 27 = .ok (.iaload, 1) := by decide +kernel
theorem dX12_listOf_28 : decode cX12_listOf 28 = .ok (.iconst (-1), 1) := by decide +kernel
theorem dX12_listOf_29 : decode cX12_listOf 29 = .ok (.if_icmp .eq 9, 3) := by decide +kernel
theorem dX12_listOf_32 : decode cX12_listOf 32 = .ok (.iload_n 2, 1) := by decide +kernel
theorem dX12_listOf_33 : decode cX12_listOf 33 = .ok (.iconst 1, 1) := by decide +kernel
theorem dX12_listOf_34 : decode cX12_listOf 34 = .ok (.iload_n 3, 1) := by decide +kernel
theorem dX12_listOf_35 : decode cX12_listOf 35 = .ok (.ishl, 1) := by decide +kernel
theorem dX12_listOf_36 : decode cX12_listOf 36 = .ok (.ior, 1) := by decide +kernel
theorem dX12_listOf_37 : decode cX12_listOf 37 = .ok (.istore_n 2, 1) := by decide +kernel
theorem dX12_listOf_38 : decode cX12_listOf 38 = .ok (.iinc 3 1, 3) := by decide +kernel
theorem dX12_listOf_41 : decode cX12_listOf 41 = .ok (.goto (-37), 3) := by decide +kernel
theorem dX12_listOf_44 : decode cX12_listOf 44 = .ok (.iload_n 2, 1) := by decide +kernel
theorem dX12_listOf_45 : decode cX12_listOf 45 = .ok (.ireturn, 1) := by decide +kernel
set_option maxRecDepth 100000 in
set_option maxHeartbeats 4000000 in
theorem v_X12_listOf_b4 {l : Launch} {p : Program} {e : Env} {s : State} {mt : MethodId} {args : Array Value} {below : List Frame} {meth : Method} {c : Code} {A : Nat → Prop} {ad0 : Nat → Nat} {G : Gt}  (C : Cx G p s mt args meth c RX12 cX12_listOf 4 (some .int) "listOf" A)  : ∀ (n : Nat) (y1 : Int32) (y2 : Int32) (y3 : Int32) (m : Mem), V G SM oI l p e s mt args below meth c 4 1 A ad0 17 17 RM 17 RM 4 [(0, .ref 0), (1, .int y1), (2, .int y2), (3, .int y3)] [] m (X12_listOf_b4  n y1 y2 y3 m) := by
  intro n
  induction n with
  | zero =>
    intro y1 y2 y3 m
    rw [X12_listOf_b4]
    exact V.nil
  | succ n ih =>
    intro y1 y2 y3 m
    rw [X12_listOf_b4]
    refine V.iload_n (pc := 4) C dX12_listOf_4 3 rfl ?_
    refine V.aload_n (pc := 5) C dX12_listOf_5 0 rfl ?_
    refine V.getr (pc := 6) C fl_RX12_13 sM0 kM0 rfl rM0_1 dX12_listOf_6 ?_
    refine V.iconst (pc := 9) C dX12_listOf_9 (v := 1) (by decide) ?_
    refine V.iald (pc := 10) C sM1 kM1 dX12_listOf_10 (fun _ => ?_)
    refine V.icmp_ge (pc := 11) C dX12_listOf_11 44 (by decide) (fun _ => ?_) (fun _ => ?_)
    · refine V.iload_n (pc := 44) C dX12_listOf_44 2 rfl ?_
      exact V.iret C dX12_listOf_45
    · refine V.aload_n (pc := 14) C dX12_listOf_14 0 rfl ?_
      refine V.getr (pc := 15) C fl_RX12_13 sM0 kM0 rfl rM0_1 dX12_listOf_15 ?_
      refine V.bipush (pc := 18) C dX12_listOf_18 (v := 41) (by decide) ?_
      refine V.bipush (pc := 20) C dX12_listOf_20 (v := 14) (by decide) ?_
      refine V.iload_n (pc := 22) C dX12_listOf_22 1 rfl ?_
      refine V.imul (pc := 23) C dX12_listOf_23 ?_
      refine V.iadd (pc := 24) C dX12_listOf_24 ?_
      refine V.iload_n (pc := 25) C dX12_listOf_25 3 rfl ?_
      refine V.iadd (pc := 26) C dX12_listOf_26 ?_
      refine V.iald (pc := 27) C sM1 kM1 dX12_listOf_27 (fun _ => ?_)
      refine V.iconst (pc := 28) C dX12_listOf_28 (v := (-1)) (by decide) ?_
      refine V.icmp_eq (pc := 29) C dX12_listOf_29 38 (by decide) (fun _ => ?_) (fun _ => ?_)
      · refine V.iinc (pc := 38) C dX12_listOf_38 (v := 1) (L2 := [(3, .int (y3 + 1)), (0, .ref 0), (1, .int y1), (2, .int y2)]) 3 rfl (by decide) (by decide) rfl ?_
        refine V.goto (pc := 41) C dX12_listOf_41 4 (by decide) ?_
        refine V.wk [1, 2, 3, 0] rfl ?_
        exact ih y1 y2 (y3 + 1) m
      · refine V.iload_n (pc := 32) C dX12_listOf_32 2 rfl ?_
        refine V.iconst (pc := 33) C dX12_listOf_33 (v := 1) (by decide) ?_
        refine V.iload_n (pc := 34) C dX12_listOf_34 3 rfl ?_
        refine V.ishl (pc := 35) C dX12_listOf_35 ?_
        refine V.ior (pc := 36) C dX12_listOf_36 ?_
        refine V.lti (fun x_1 _ => ?_)
        refine V.istore_n (pc := 37) C dX12_listOf_37 (L2 := [(2, .int x_1), (0, .ref 0), (1, .int y1), (3, .int y3)]) (by decide) rfl ?_
        refine V.iinc (pc := 38) C dX12_listOf_38 (v := 1) (L2 := [(3, .int (y3 + 1)), (2, .int x_1), (0, .ref 0), (1, .int y1)]) 3 rfl (by decide) (by decide) rfl ?_
        refine V.goto (pc := 41) C dX12_listOf_41 4 (by decide) ?_
        refine V.wk [2, 3, 1, 0] rfl ?_
        exact ih y1 x_1 (y3 + 1) m
set_option maxRecDepth 100000 in
set_option maxHeartbeats 4000000 in
theorem v_X12_listOf {l : Launch} {p : Program} {e : Env} {s : State} {mt : MethodId} {args : Array Value} {below : List Frame} {meth : Method} {c : Code} {A : Nat → Prop} {ad0 : Nat → Nat} {G : Gt}  (C : Cx G p s mt args meth c RX12 cX12_listOf 4 (some .int) "listOf" A)  (x1 : Int32) (m : Mem) : V G SM oI l p e s mt args below meth c 4 1 A ad0 17 17 RM 17 RM 0 [(0, .ref 0), (1, .int x1)] [] m (X12_listOf  x1 m) := by
  rw [X12_listOf]
  refine V.iconst (pc := 0) C dX12_listOf_0 (v := 0) (by decide) ?_
  refine V.istore_n (pc := 1) C dX12_listOf_1 (L2 := [(2, .int 0), (0, .ref 0), (1, .int x1)]) (by decide) rfl ?_
  refine V.iconst (pc := 2) C dX12_listOf_2 (v := 0) (by decide) ?_
  refine V.istore_n (pc := 3) C dX12_listOf_3 (L2 := [(3, .int 0), (2, .int 0), (0, .ref 0), (1, .int x1)]) (by decide) rfl ?_
  refine V.wk [2, 3, 1, 0] rfl ?_
  exact v_X12_listOf_b4 C  FU x1 0 0 m
theorem c_X12_listOf (l : Launch)   (x1 : Int32) (m : Mem) : Ct l yX12_listOf cX12_listOf 4 (some .int) 1 SM oI 17 17 RM RM [.ref 0, .int x1] m (X12_listOf  x1 m) :=
  Ct.of (own := RX12) (nm := "listOf") (by decide) rfl rfl (Nat.le_of_ble_eq_true rfl) (fun _ _ _ _ _ _ _ _ _ _ _ C => v_X12_listOf C  x1 m)
theorem dX12_angersOf_0 : decode cX12_angersOf 0 = .ok (.iconst 0, 1) := by decide +kernel
theorem dX12_angersOf_1 : decode cX12_angersOf 1 = .ok (.istore_n 2, 1) := by decide +kernel
theorem dX12_angersOf_2 : decode cX12_angersOf 2 = .ok (.iconst 0, 1) := by decide +kernel
theorem dX12_angersOf_3 : decode cX12_angersOf 3 = .ok (.istore_n 3, 1) := by decide +kernel
theorem dX12_angersOf_4 : decode cX12_angersOf 4 = .ok (.iload_n 3, 1) := by decide +kernel
theorem dX12_angersOf_5 : decode cX12_angersOf 5 = .ok (.aload_n 0, 1) := by decide +kernel
theorem dX12_angersOf_6 : decode cX12_angersOf 6 = .ok (.getfield 13, 3) := by decide +kernel
theorem dX12_angersOf_9 : decode cX12_angersOf 9 = .ok (.iconst 2, 1) := by decide +kernel
theorem dX12_angersOf_10 : decode cX12_angersOf 10 = .ok (.iaload, 1) := by decide +kernel
theorem dX12_angersOf_11 : decode cX12_angersOf 11 = .ok (.if_icmp .ge 32, 3) := by decide +kernel
theorem dX12_angersOf_14 : decode cX12_angersOf 14 = .ok (.iload_n 3, 1) := by decide +kernel
theorem dX12_angersOf_15 : decode cX12_angersOf 15 = .ok (.iload_n 1, 1) := by decide +kernel
theorem dX12_angersOf_16 : decode cX12_angersOf 16 = .ok (.if_icmp .eq 21, 3) := by decide +kernel
theorem dX12_angersOf_19 : decode cX12_angersOf 19 = .ok (.iload_n 2, 1) := by decide +kernel
theorem dX12_angersOf_20 : decode cX12_angersOf 20 = .ok (.aload_n 0, 1) := by decide +kernel
theorem dX12_angersOf_21 : decode cX12_angersOf 21 = .ok (.iload_n 1, 1) := by decide +kernel
theorem dX12_angersOf_22 : decode cX12_angersOf 22 = .ok (.invokevirtual 207, 3) := by decide +kernel
theorem dX12_angersOf_25 : decode cX12_angersOf 25 = .ok (.aload_n 0, 1) := by decide +kernel
theorem dX12_angersOf_26 : decode cX12_angersOf 26 = .ok (.getfield 13, 3) := by decide +kernel
theorem dX12_angersOf_29 : decode cX12_angersOf 29 = .ok (.bipush 25, 2) := by decide +kernel
theorem dX12_angersOf_31 : decode cX12_angersOf 31 = .ok (.iload_n 3, 1) := by decide +kernel
theorem dX12_angersOf_32 : decode cX12_angersOf 32 = .ok (.iadd, 1) := by decide +kernel
theorem dX12_angersOf_33 : decode cX12_angersOf 33 = .ok (.iaload, 1) := by decide +kernel
theorem dX12_angersOf_34 : decode cX12_angersOf 34 = .ok (.iand, 1) := by decide +kernel
theorem dX12_angersOf_35 : decode cX12_angersOf 35 = .ok (.ior, 1) := by decide +kernel
theorem dX12_angersOf_36 : decode cX12_angersOf 36 = .ok (.istore_n 2, 1) := by decide +kernel
theorem dX12_angersOf_37 : decode cX12_angersOf 37 = .ok (.iinc 3 1, 3) := by decide +kernel
theorem dX12_angersOf_40 : decode cX12_angersOf 40 = .ok (.goto (-36), 3) := by decide +kernel
theorem dX12_angersOf_43 : decode cX12_angersOf 43 = .ok (.iload_n 2, 1) := by decide +kernel
theorem dX12_angersOf_44 : decode cX12_angersOf 44 = .ok (.ireturn, 1) := by decide +kernel
set_option maxRecDepth 100000 in
set_option maxHeartbeats 4000000 in
theorem v_X12_angersOf_b4 {l : Launch} {p : Program} {e : Env} {s : State} {mt : MethodId} {args : Array Value} {below : List Frame} {meth : Method} {c : Code} {A : Nat → Prop} {ad0 : Nat → Nat} {G : Gt}  (C : Cx G p s mt args meth c RX12 cX12_angersOf 4 (some .int) "angersOf" A)  : ∀ (n : Nat) (y1 : Int32) (y2 : Int32) (y3 : Int32) (m : Mem), V G SM oI l p e s mt args below meth c 4 2 A ad0 17 17 RM 17 RM 4 [(0, .ref 0), (1, .int y1), (2, .int y2), (3, .int y3)] [] m (X12_angersOf_b4  n y1 y2 y3 m) := by
  intro n
  induction n with
  | zero =>
    intro y1 y2 y3 m
    rw [X12_angersOf_b4]
    exact V.nil
  | succ n ih =>
    intro y1 y2 y3 m
    rw [X12_angersOf_b4]
    refine V.iload_n (pc := 4) C dX12_angersOf_4 3 rfl ?_
    refine V.aload_n (pc := 5) C dX12_angersOf_5 0 rfl ?_
    refine V.getr (pc := 6) C fl_RX12_13 sM0 kM0 rfl rM0_1 dX12_angersOf_6 ?_
    refine V.iconst (pc := 9) C dX12_angersOf_9 (v := 2) (by decide) ?_
    refine V.iald (pc := 10) C sM1 kM1 dX12_angersOf_10 (fun _ => ?_)
    refine V.icmp_ge (pc := 11) C dX12_angersOf_11 43 (by decide) (fun _ => ?_) (fun _ => ?_)
    · refine V.iload_n (pc := 43) C dX12_angersOf_43 2 rfl ?_
      exact V.iret C dX12_angersOf_44
    · refine V.iload_n (pc := 14) C dX12_angersOf_14 3 rfl ?_
      refine V.iload_n (pc := 15) C dX12_angersOf_15 1 rfl ?_
      refine V.icmp_eq (pc := 16) C dX12_angersOf_16 37 (by decide) (fun _ => ?_) (fun _ => ?_)
      · refine V.iinc (pc := 37) C dX12_angersOf_37 (v := 1) (L2 := [(3, .int (y3 + 1)), (0, .ref 0), (1, .int y1), (2, .int y2)]) 3 rfl (by decide) (by decide) rfl ?_
        refine V.goto (pc := 40) C dX12_angersOf_40 4 (by decide) ?_
        refine V.wk [1, 2, 3, 0] rfl ?_
        exact ih y1 y2 (y3 + 1) m
      · refine V.iload_n (pc := 19) C dX12_angersOf_19 2 rfl ?_
        refine V.aload_n (pc := 20) C dX12_angersOf_20 0 rfl ?_
        refine V.iload_n (pc := 21) C dX12_angersOf_21 1 rfl ?_
        refine V.callV (pc := 22) (st := [.int y2]) C (c_X12_listOf l y1 m) obI ck_X12_listOf ml_RX12_207 rfl rfl sM0 kM0 rfl rfl (Nat.le_of_ble_eq_true rfl) ⟨by decide, by decide⟩ dX12_angersOf_22 (fun r_1 m_2 _ => ?_)
        refine V.aload_n (pc := 25) C dX12_angersOf_25 0 rfl ?_
        refine V.getr (pc := 26) C fl_RX12_13 sM0 kM0 rfl rM0_1 dX12_angersOf_26 ?_
        refine V.bipush (pc := 29) C dX12_angersOf_29 (v := 25) (by decide) ?_
        refine V.iload_n (pc := 31) C dX12_angersOf_31 3 rfl ?_
        refine V.iadd (pc := 32) C dX12_angersOf_32 ?_
        refine V.iald (pc := 33) C sM1 kM1 dX12_angersOf_33 (fun _ => ?_)
        refine V.iand (pc := 34) C dX12_angersOf_34 ?_
        refine V.ior (pc := 35) C dX12_angersOf_35 ?_
        refine V.lti (fun x_3 _ => ?_)
        refine V.istore_n (pc := 36) C dX12_angersOf_36 (L2 := [(2, .int x_3), (0, .ref 0), (1, .int y1), (3, .int y3)]) (by decide) rfl ?_
        refine V.iinc (pc := 37) C dX12_angersOf_37 (v := 1) (L2 := [(3, .int (y3 + 1)), (2, .int x_3), (0, .ref 0), (1, .int y1)]) 3 rfl (by decide) (by decide) rfl ?_
        refine V.goto (pc := 40) C dX12_angersOf_40 4 (by decide) ?_
        refine V.wk [2, 3, 1, 0] rfl ?_
        exact ih y1 x_3 (y3 + 1) m_2
set_option maxRecDepth 100000 in
set_option maxHeartbeats 4000000 in
theorem v_X12_angersOf {l : Launch} {p : Program} {e : Env} {s : State} {mt : MethodId} {args : Array Value} {below : List Frame} {meth : Method} {c : Code} {A : Nat → Prop} {ad0 : Nat → Nat} {G : Gt}  (C : Cx G p s mt args meth c RX12 cX12_angersOf 4 (some .int) "angersOf" A)  (x1 : Int32) (m : Mem) : V G SM oI l p e s mt args below meth c 4 2 A ad0 17 17 RM 17 RM 0 [(0, .ref 0), (1, .int x1)] [] m (X12_angersOf  x1 m) := by
  rw [X12_angersOf]
  refine V.iconst (pc := 0) C dX12_angersOf_0 (v := 0) (by decide) ?_
  refine V.istore_n (pc := 1) C dX12_angersOf_1 (L2 := [(2, .int 0), (0, .ref 0), (1, .int x1)]) (by decide) rfl ?_
  refine V.iconst (pc := 2) C dX12_angersOf_2 (v := 0) (by decide) ?_
  refine V.istore_n (pc := 3) C dX12_angersOf_3 (L2 := [(3, .int 0), (2, .int 0), (0, .ref 0), (1, .int x1)]) (by decide) rfl ?_
  refine V.wk [2, 3, 1, 0] rfl ?_
  exact v_X12_angersOf_b4 C  FU x1 0 0 m
theorem c_X12_angersOf (l : Launch)   (x1 : Int32) (m : Mem) : Ct l yX12_angersOf cX12_angersOf 4 (some .int) 2 SM oI 17 17 RM RM [.ref 0, .int x1] m (X12_angersOf  x1 m) :=
  Ct.of (own := RX12) (nm := "angersOf") (by decide) rfl rfl (Nat.le_of_ble_eq_true rfl) (fun _ _ _ _ _ _ _ _ _ _ _ C => v_X12_angersOf C  x1 m)
theorem dX12_angry_0 : decode cX12_angry 0 = .ok (.aload_n 0, 1) := by decide +kernel
theorem dX12_angry_1 : decode cX12_angry 1 = .ok (.iconst 0, 1) := by decide +kernel
theorem dX12_angry_2 : decode cX12_angry 2 = .ok (.putfield 1, 3) := by decide +kernel
theorem dX12_angry_5 : decode cX12_angry 5 = .ok (.iconst 0, 1) := by decide +kernel
theorem dX12_angry_6 : decode cX12_angry 6 = .ok (.istore_n 1, 1) := by decide +kernel
theorem dX12_angry_7 : decode cX12_angry 7 = .ok (.iconst 0, 1) := by decide +kernel
theorem dX12_angry_8 : decode cX12_angry 8 = .ok (.istore_n 2, 1) := by decide +kernel
theorem dX12_angry_9 : decode cX12_angry 9 = .ok (.iload_n 2, 1) := by decide +kernel
theorem dX12_angry_10 : decode cX12_angry 10 = .ok (.aload_n 0, 1) := by decide +kernel
theorem dX12_angry_11 : decode cX12_angry 11 = .ok (.getfield 13, 3) := by decide +kernel
theorem dX12_angry_14 : decode cX12_angry 14 = .ok (.iconst 2, 1) := by decide +kernel
theorem dX12_angry_15 : decode cX12_angry 15 = .ok (.iaload, 1) := by decide +kernel
theorem dX12_angry_16 : decode cX12_angry 16 = .ok (.if_icmp .ge 23, 3) := by decide +kernel
theorem dX12_angry_19 : decode cX12_angry 19 = .ok (.aload_n 0, 1) := by decide +kernel
theorem dX12_angry_20 : decode cX12_angry 20 = .ok (.iload_n 2, 1) := by decide +kernel
theorem dX12_angry_21 : decode cX12_angry 21 = .ok (.invokevirtual 372, 3) := by decide +kernel
theorem dX12_angry_24 : decode cX12_angry 24 = .ok (.ifCond .eq 9, 3) := by decide +kernel
theorem dX12_angry_27 : decode cX12_angry 27 = .ok (.iload_n 1, 1) := by decide +kernel
theorem dX12_angry_28 : decode cX12_angry 28 = .ok (.iconst 1, 1) := by decide +kernel
theorem dX12_angry_29 : decode cX12_angry 29 = .ok (.iload_n 2, 1) := by decide +kernel
theorem dX12_angry_30 : decode cX12_angry 30 = .ok (.ishl, 1) := by decide +kernel
theorem dX12_angry_31 : decode cX12_angry 31 = .ok (.ior, 1) := by decide +kernel
theorem dX12_angry_32 : decode cX12_angry 32 = .ok (.istore_n 1, 1) := by decide +kernel
theorem dX12_angry_33 : decode cX12_angry 33 = .ok (.iinc 2 1, 3) := by decide +kernel
theorem dX12_angry_36 : decode cX12_angry 36 = .ok (.goto (-27), 3) := by decide +kernel
theorem dX12_angry_39 : decode cX12_angry 39 = .ok (.iload_n 1, 1) := by decide +kernel
theorem dX12_angry_40 : decode cX12_angry 40 = .ok (.ireturn, 1) := by decide +kernel
set_option maxRecDepth 100000 in
set_option maxHeartbeats 4000000 in
theorem v_X12_angry_b9 {l : Launch} {p : Program} {e : Env} {s : State} {mt : MethodId} {args : Array Value} {below : List Frame} {meth : Method} {c : Code} {A : Nat → Prop} {ad0 : Nat → Nat} {G : Gt}  (C : Cx G p s mt args meth c RX12 cX12_angry 3 (some .int) "angry" A)  : ∀ (n : Nat) (y1 : Int32) (y2 : Int32) (m : Mem), V G SM oI l p e s mt args below meth c 3 3 A ad0 17 17 RM 17 RM 9 [(0, .ref 0), (1, .int y1), (2, .int y2)] [] m (X12_angry_b9  n y1 y2 m) := by
  intro n
  induction n with
  | zero =>
    intro y1 y2 m
    rw [X12_angry_b9]
    exact V.nil
  | succ n ih =>
    intro y1 y2 m
    rw [X12_angry_b9]
    refine V.iload_n (pc := 9) C dX12_angry_9 2 rfl ?_
    refine V.aload_n (pc := 10) C dX12_angry_10 0 rfl ?_
    refine V.getr (pc := 11) C fl_RX12_13 sM0 kM0 rfl rM0_1 dX12_angry_11 ?_
    refine V.iconst (pc := 14) C dX12_angry_14 (v := 2) (by decide) ?_
    refine V.iald (pc := 15) C sM1 kM1 dX12_angry_15 (fun _ => ?_)
    refine V.icmp_ge (pc := 16) C dX12_angry_16 39 (by decide) (fun _ => ?_) (fun _ => ?_)
    · refine V.iload_n (pc := 39) C dX12_angry_39 1 rfl ?_
      exact V.iret C dX12_angry_40
    · refine V.aload_n (pc := 19) C dX12_angry_19 0 rfl ?_
      refine V.iload_n (pc := 20) C dX12_angry_20 2 rfl ?_
      refine V.callV (pc := 21) (st := []) C (c_X12_angersOf l y2 m) obI ck_X12_angersOf ml_RX12_372 rfl rfl sM0 kM0 rfl rfl (Nat.le_of_ble_eq_true rfl) ⟨by decide, by decide⟩ dX12_angry_21 (fun r_2 m_3 _ => ?_)
      refine V.if_eq (pc := 24) C dX12_angry_24 33 (by decide) (fun _ => ?_) (fun _ => ?_)
      · refine V.iinc (pc := 33) C dX12_angry_33 (v := 1) (L2 := [(2, .int (y2 + 1)), (0, .ref 0), (1, .int y1)]) 2 rfl (by decide) (by decide) rfl ?_
        refine V.goto (pc := 36) C dX12_angry_36 9 (by decide) ?_
        refine V.wk [1, 2, 0] rfl ?_
        exact ih y1 (y2 + 1) m_3
      · refine V.iload_n (pc := 27) C dX12_angry_27 1 rfl ?_
        refine V.iconst (pc := 28) C dX12_angry_28 (v := 1) (by decide) ?_
        refine V.iload_n (pc := 29) C dX12_angry_29 2 rfl ?_
        refine V.ishl (pc := 30) C dX12_angry_30 ?_
        refine V.ior (pc := 31) C dX12_angry_31 ?_
        refine V.lti (fun x_4 _ => ?_)
        refine V.istore_n (pc := 32) C dX12_angry_32 (L2 := [(1, .int x_4), (0, .ref 0), (2, .int y2)]) (by decide) rfl ?_
        refine V.iinc (pc := 33) C dX12_angry_33 (v := 1) (L2 := [(2, .int (y2 + 1)), (1, .int x_4), (0, .ref 0)]) 2 rfl (by decide) (by decide) rfl ?_
        refine V.goto (pc := 36) C dX12_angry_36 9 (by decide) ?_
        refine V.wk [2, 1, 0] rfl ?_
        exact ih x_4 (y2 + 1) m_3
set_option maxRecDepth 100000 in
set_option maxHeartbeats 4000000 in
theorem v_X12_angry {l : Launch} {p : Program} {e : Env} {s : State} {mt : MethodId} {args : Array Value} {below : List Frame} {meth : Method} {c : Code} {A : Nat → Prop} {ad0 : Nat → Nat} {G : Gt}  (C : Cx G p s mt args meth c RX12 cX12_angry 3 (some .int) "angry" A)  (m : Mem) : V G SM oI l p e s mt args below meth c 3 3 A ad0 17 17 RM 17 RM 0 [(0, .ref 0)] [] m (X12_angry   m) := by
  rw [X12_angry]
  refine V.aload_n (pc := 0) C dX12_angry_0 0 rfl ?_
  refine V.iconst (pc := 1) C dX12_angry_1 (v := 0) (by decide) ?_
  refine V.puti (pc := 2) C fp_RX12_1 sM0 kM0 rfl dX12_angry_2 ?_
  refine V.ltm (fun m_1 => ?_)
  refine V.iconst (pc := 5) C dX12_angry_5 (v := 0) (by decide) ?_
  refine V.istore_n (pc := 6) C dX12_angry_6 (L2 := [(1, .int 0), (0, .ref 0)]) (by decide) rfl ?_
  refine V.iconst (pc := 7) C dX12_angry_7 (v := 0) (by decide) ?_
  refine V.istore_n (pc := 8) C dX12_angry_8 (L2 := [(2, .int 0), (1, .int 0), (0, .ref 0)]) (by decide) rfl ?_
  refine V.wk [2, 1, 0] rfl ?_
  exact v_X12_angry_b9 C  FU 0 0 m_1
theorem c_X12_angry (l : Launch)   (m : Mem) : Ct l yX12_angry cX12_angry 3 (some .int) 3 SM oI 17 17 RM RM [.ref 0] m (X12_angry   m) :=
  Ct.of (own := RX12) (nm := "angry") (by decide) rfl rfl (Nat.le_of_ble_eq_true rfl) (fun _ _ _ _ _ _ _ _ _ _ _ C => v_X12_angry C   m)
theorem dX12_isIn_0 : decode cX12_isIn 0 = .ok (.lload_n 0, 1) := by decide +kernel
theorem dX12_isIn_1 : decode cX12_isIn 1 = .ok (.iload_n 2, 1) := by decide +kernel
theorem dX12_isIn_2 : decode cX12_isIn 2 = .ok (.lshr, 1) := by decide +kernel
theorem dX12_isIn_3 : decode cX12_isIn 3 = .ok (.lconst 1, 1) := by decide +kernel
theorem dX12_isIn_4 : decode cX12_isIn 4 = .ok (.land, 1) := by decide +kernel
theorem dX12_isIn_5 : decode cX12_isIn 5 = .ok (.lconst 1, 1) := by decide +kernel
theorem dX12_isIn_6 : decode cX12_isIn 6 = .ok (.lcmp, 1) := by decide +kernel
theorem dX12_isIn_7 : decode cX12_isIn 7 = .ok (.ifCond .ne 7, 3) := by decide +kernel
theorem dX12_isIn_10 : decode cX12_isIn 10 = .ok (.iconst 1, 1) := by decide +kernel
theorem dX12_isIn_11 : decode cX12_isIn 11 = .ok (.goto 4, 3) := by decide +kernel
theorem dX12_isIn_14 : decode cX12_isIn 14 = .ok (.iconst 0, 1) := by decide +kernel
theorem dX12_isIn_15 : decode cX12_isIn 15 = .ok (.ireturn, 1) := by decide +kernel
set_option maxRecDepth 100000 in
set_option maxHeartbeats 4000000 in
theorem v_X12_isIn {l : Launch} {p : Program} {e : Env} {s : State} {mt : MethodId} {args : Array Value} {below : List Frame} {meth : Method} {c : Code} {A : Nat → Prop} {ad0 : Nat → Nat} {G : Gt}  (C : Cx G p s mt args meth c RX12 cX12_isIn 3 (some .boolean) "isIn" A)  (x1 : Int64) (x2 : Int32) (m : Mem) : V G SM oI l p e s mt args below meth c 3 1 A ad0 17 17 RM 17 RM 0 [(0, .long x1), (2, .int x2)] [] m (X12_isIn  x1 x2 m) := by
  rw [X12_isIn]
  refine V.lload_n (pc := 0) C dX12_isIn_0 0 rfl ?_
  refine V.iload_n (pc := 1) C dX12_isIn_1 1 rfl ?_
  refine V.lshr (pc := 2) C dX12_isIn_2 ?_
  refine V.lconst (pc := 3) C dX12_isIn_3 (v := 1) (by decide) ?_
  refine V.land (pc := 4) C dX12_isIn_4 ?_
  refine V.lconst (pc := 5) C dX12_isIn_5 (v := 1) (by decide) ?_
  refine V.lcmp (pc := 6) C dX12_isIn_6 ?_
  refine V.if_ne (pc := 7) C dX12_isIn_7 14 (by decide) (fun _ => ?_) (fun _ => ?_)
  · refine V.iconst (pc := 14) C dX12_isIn_14 (v := 0) (by decide) ?_
    exact V.zret rfl C dX12_isIn_15
  · refine V.iconst (pc := 10) C dX12_isIn_10 (v := 1) (by decide) ?_
    refine V.goto (pc := 11) C dX12_isIn_11 15 (by decide) ?_
    exact V.zret rfl C dX12_isIn_15
theorem c_X12_isIn (l : Launch)   (x1 : Int64) (x2 : Int32) (m : Mem) : Ct l yX12_isIn cX12_isIn 3 (some .boolean) 1 SM oI 17 17 RM RM [.long x1, .int x2] m (X12_isIn  x1 x2 m) :=
  Ct.of (own := RX12) (nm := "isIn") (by decide) rfl rfl (Nat.le_of_ble_eq_true rfl) (fun _ _ _ _ _ _ _ _ _ _ _ C => v_X12_isIn C  x1 x2 m)
