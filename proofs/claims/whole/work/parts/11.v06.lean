theorem dX7_readSum_0 : decode cX7_readSum 0 = .ok (.aload_n 0, 1) := by decide +kernel
theorem dX7_readSum_1 : decode cX7_readSum 1 = .ok (.iload_n 1, 1) := by decide +kernel
theorem dX7_readSum_2 : decode cX7_readSum 2 = .ok (.invokevirtual 178, 3) := by decide +kernel
theorem dX7_readSum_5 : decode cX7_readSum 5 = .ok (.istore_n 2, 1) := by decide +kernel
theorem dX7_readSum_6 : decode cX7_readSum 6 = .ok (.iconst 0, 1) := by decide +kernel
theorem dX7_readSum_7 : decode cX7_readSum 7 = .ok (.istore_n 3, 1) := by decide +kernel
theorem dX7_readSum_8 : decode cX7_readSum 8 = .ok (.iload_n 3, 1) := by decide +kernel
theorem dX7_readSum_9 : decode cX7_readSum 9 = .ok (.sipush 900, 3) := by decide +kernel
theorem dX7_readSum_12 : decode cX7_readSum 12 = .ok (.if_icmp .gt 68, 3) := by decide +kernel
theorem dX7_readSum_15 : decode cX7_readSum 15 = .ok (.iload_n 2, 1) := by decide +kernel
theorem dX7_readSum_16 : decode cX7_readSum 16 = .ok (.ifCond .eq 64, 3) := by decide +kernel
theorem dX7_readSum_19 : decode cX7_readSum 19 = .ok (.aload_n 0, 1) := by decide +kernel
theorem dX7_readSum_20 : decode cX7_readSum 20 = .ok (.getfield 60, 3) := by decide +kernel
theorem dX7_readSum_23 : decode cX7_readSum 23 = .ok (.bipush 43, 2) := by decide +kernel
theorem dX7_readSum_25 : decode cX7_readSum 25 = .ok (.if_icmp .eq 12, 3) := by decide +kernel
theorem dX7_readSum_28 : decode cX7_readSum 28 = .ok (.aload_n 0, 1) := by decide +kernel
theorem dX7_readSum_29 : decode cX7_readSum 29 = .ok (.getfield 60, 3) := by decide +kernel
theorem dX7_readSum_32 : decode cX7_readSum 32 = .ok (.bipush 45, 2) := by decide +kernel
theorem dX7_readSum_34 : decode cX7_readSum 34 = .ok (.if_icmp .ne 46, 3) := by decide +kernel
theorem dX7_readSum_37 : decode cX7_readSum 37 = .ok (.aload_n 0, 1) := by decide +kernel
theorem dX7_readSum_38 : decode cX7_readSum 38 = .ok (.getfield 60, 3) := by decide +kernel
theorem dX7_readSum_41 : decode cX7_readSum 41 = .ok (.bipush 43, 2) := by decide +kernel
theorem dX7_readSum_43 : decode cX7_readSum 43 = .ok (.if_icmp .ne 8, 3) := by decide +kernel
theorem dX7_readSum_46 : decode cX7_readSum 46 = .ok (.bipush (-8), 2) := by decide +kernel
theorem dX7_readSum_48 : decode cX7_readSum 48 = .ok (.goto 5, 3) := by decide +kernel
theorem dX7_readSum_51 : decode cX7_readSum 51 = .ok (.bipush (-9), 2) := by decide +kernel
theorem dX7_readSum_53 : decode cX7_readSum 53 = .ok (.istore 4, 2) := by decide +kernel
theorem dX7_readSum_55 : decode cX7_readSum 55 = .ok (.aload_n 0, 1) := by decide +kernel
theorem dX7_readSum_56 : decode cX7_readSum 56 = .ok (.invokevirtual 57, 3) := by decide +kernel
theorem dX7_readSum_59 : decode cX7_readSum 59 = .ok (.aload_n 0, 1) := by decide +kernel
theorem dX7_readSum_60 : decode cX7_readSum 60 = .ok (.iload_n 1, 1) := by decide +kernel
theorem dX7_readSum_61 : decode cX7_readSum 61 = .ok (.invokevirtual 178, 3) := by decide +kernel
theorem dX7_readSum_64 : decode cX7_readSum 64 = .ok (.istore_n 2, 1) := by decide +kernel
theorem dX7_readSum_65 : decode cX7_readSum 65 = .ok (.aload_n 0, 1) := by decide +kernel
theorem dX7_readSum_66 : decode cX7_readSum 66 = .ok (.getfield 29, 3) := by decide +kernel
theorem dX7_readSum_69 : decode cX7_readSum 69 = .ok (.iload 4, 2) := by decide +kernel
theorem dX7_readSum_71 : decode cX7_readSum 71 = .ok (.invokevirtual 161, 3) := by decide +kernel
theorem dX7_readSum_74 : decode cX7_readSum 74 = .ok (.iinc 3 1, 3) := by decide +kernel
theorem dX7_readSum_77 : decode cX7_readSum 77 = .ok (.goto (-69), 3) := by decide +kernel
theorem dX7_readSum_80 : decode cX7_readSum 80 = .ok (.iload_n 2, 1) := by decide +kernel
theorem dX7_readSum_81 : decode cX7_readSum 81 = .ok (.ireturn, 1) := by decide +kernel
set_option maxRecDepth 100000 in
set_option maxHeartbeats 4000000 in
theorem v_X7_readSum_b53 {l : Launch} {p : Program} {e : Env} {s : State} {mt : MethodId} {args : Array Value} {below : List Frame} {meth : Method} {c : Code} {A : Nat → Prop} {ad0 : Nat → Nat} {G : Gt} {N : Nat} {fr fr1 : Nat} (hfr : fr1 + 1 ≤ fr ∧ 6 ≤ fr) (C : Cx G p s mt args meth c RX7 cX7_readSum 5 (some .boolean) "readSum" A) (hN : 109 ≤ N) (f_X7_readTerm : Int32 → Mem → Option (Int32 × Mem)) (h_X7_readTerm : ∀ (x1 : Int32) (m : Mem), Ct l yX7_readTerm cX7_readTerm 4 (some .boolean) fr1 SX oI N N RX RX [.ref 39, .int x1] m (f_X7_readTerm x1 m)) (k8 : Int32 → Int32 → Int32 → Mem → Option (Int32 × Mem)) (h8 : ∀ (y1 : Int32) (y2 : Int32) (y3 : Int32) (m : Mem), V G SX oI l p e s mt args below meth c 5 fr A ad0 N N RX N RX 8 [(0, .ref 39), (1, .int y1), (2, .int y2), (3, .int y3)] [] m (k8 y1 y2 y3 m)) (y1 : Int32) (y3 : Int32) (z0 : Int32) (m : Mem) : V G SX oI l p e s mt args below meth c 5 fr A ad0 N N RX N RX 53 [(0, .ref 39), (1, .int y1), (3, .int y3)] [.int z0] m (X7_readSum_b53 f_X7_readTerm k8 y1 y3 z0 m) := by
  rw [X7_readSum_b53]
  refine V.istore (pc := 53) C dX7_readSum_53 (L2 := [(4, .int z0), (0, .ref 39), (1, .int y1), (3, .int y3)]) (by decide) rfl ?_
  refine V.aload_n (pc := 55) C dX7_readSum_55 1 rfl ?_
  refine V.callV (pc := 56) (st := []) C (c_X7_next l hN m) obV ck_X7_next ml_RX7_57 rfl rfl sX39 (kX39 hN) rfl rfl (Nat.le_of_ble_eq_true rfl) ⟨by omega, by decide⟩ dX7_readSum_56 (fun r_3 m_4 _ => ?_)
  refine V.aload_n (pc := 59) C dX7_readSum_59 1 rfl ?_
  refine V.iload_n (pc := 60) C dX7_readSum_60 2 rfl ?_
  refine V.callV (pc := 61) (st := []) C (h_X7_readTerm y1 m_4) obI ck_X7_readTerm ml_RX7_178 rfl rfl sX39 (kX39 hN) rfl rfl (Nat.le_of_ble_eq_true rfl) ⟨by omega, by decide⟩ dX7_readSum_61 (fun r_5 m_6 _ => ?_)
  refine V.istore_n (pc := 64) C dX7_readSum_64 (L2 := [(2, .int r_5), (4, .int z0), (0, .ref 39), (1, .int y1), (3, .int y3)]) (by decide) rfl ?_
  refine V.aload_n (pc := 65) C dX7_readSum_65 2 rfl ?_
  refine V.ck (fun h_8 => ?_)
  refine V.getd (pc := 66) C fl_RX7_29 sX39 (kX39 hN) rfl (okl_d h_8) dX7_readSum_66 ?_
  refine V.ltr (fun b_7 eb_7 => ?_)
  have hb_7 : isLaw N b_7 := by rw [eb_7]; exact okl_law hN h_8
  refine V.iload (pc := 69) C dX7_readSum_69 1 rfl ?_
  refine V.callV (pc := 71) (st := []) C (c_X4_add l hN b_7 hb_7 z0 m_6) obV ck_X4_add ml_RX7_161 rfl rfl hb_7.s hb_7.k rfl rfl (Nat.le_of_ble_eq_true rfl) ⟨by omega, by decide⟩ dX7_readSum_71 (fun r_9 m_10 _ => ?_)
  refine V.iinc (pc := 74) C dX7_readSum_74 (v := 1) (L2 := [(3, .int (y3 + 1)), (2, .int r_5), (4, .int z0), (0, .ref 39), (1, .int y1)]) 4 rfl (by decide) (by decide) rfl ?_
  refine V.goto (pc := 77) C dX7_readSum_77 8 (by decide) ?_
  refine V.wk [3, 4, 1, 0] rfl ?_
  exact h8 y1 r_5 (y3 + 1) m_10
set_option maxRecDepth 100000 in
set_option maxHeartbeats 4000000 in
theorem v_X7_readSum_b37 {l : Launch} {p : Program} {e : Env} {s : State} {mt : MethodId} {args : Array Value} {below : List Frame} {meth : Method} {c : Code} {A : Nat → Prop} {ad0 : Nat → Nat} {G : Gt} {N : Nat} {fr fr1 : Nat} (hfr : fr1 + 1 ≤ fr ∧ 6 ≤ fr) (C : Cx G p s mt args meth c RX7 cX7_readSum 5 (some .boolean) "readSum" A) (hN : 109 ≤ N) (f_X7_readTerm : Int32 → Mem → Option (Int32 × Mem)) (h_X7_readTerm : ∀ (x1 : Int32) (m : Mem), Ct l yX7_readTerm cX7_readTerm 4 (some .boolean) fr1 SX oI N N RX RX [.ref 39, .int x1] m (f_X7_readTerm x1 m)) (k8 : Int32 → Int32 → Int32 → Mem → Option (Int32 × Mem)) (h8 : ∀ (y1 : Int32) (y2 : Int32) (y3 : Int32) (m : Mem), V G SX oI l p e s mt args below meth c 5 fr A ad0 N N RX N RX 8 [(0, .ref 39), (1, .int y1), (2, .int y2), (3, .int y3)] [] m (k8 y1 y2 y3 m)) (y1 : Int32) (y3 : Int32) (m : Mem) : V G SX oI l p e s mt args below meth c 5 fr A ad0 N N RX N RX 37 [(0, .ref 39), (1, .int y1), (3, .int y3)] [] m (X7_readSum_b37 f_X7_readTerm k8 y1 y3 m) := by
  rw [X7_readSum_b37]
  refine V.aload_n (pc := 37) C dX7_readSum_37 0 rfl ?_
  refine V.geti (pc := 38) C fl_RX7_60 sX39 (kX39 hN) rfl dX7_readSum_38 ?_
  refine V.bipush (pc := 41) C dX7_readSum_41 (v := 43) (by decide) ?_
  refine V.icmp_ne (pc := 43) C dX7_readSum_43 51 (by decide) (fun _ => ?_) (fun _ => ?_)
  · refine V.bipush (pc := 51) C dX7_readSum_51 (v := (-9)) (by decide) ?_
    refine V.wk [0, 1, 2] rfl ?_
    exact v_X7_readSum_b53 hfr C hN f_X7_readTerm h_X7_readTerm k8 h8 y1 y3 (-9) m
  · refine V.bipush (pc := 46) C dX7_readSum_46 (v := (-8)) (by decide) ?_
    refine V.goto (pc := 48) C dX7_readSum_48 53 (by decide) ?_
    refine V.wk [0, 1, 2] rfl ?_
    exact v_X7_readSum_b53 hfr C hN f_X7_readTerm h_X7_readTerm k8 h8 y1 y3 (-8) m
set_option maxRecDepth 100000 in
set_option maxHeartbeats 4000000 in
theorem v_X7_readSum_b8 {l : Launch} {p : Program} {e : Env} {s : State} {mt : MethodId} {args : Array Value} {below : List Frame} {meth : Method} {c : Code} {A : Nat → Prop} {ad0 : Nat → Nat} {G : Gt} {N : Nat} {fr fr1 : Nat} (hfr : fr1 + 1 ≤ fr ∧ 6 ≤ fr) (C : Cx G p s mt args meth c RX7 cX7_readSum 5 (some .boolean) "readSum" A) (hN : 109 ≤ N) (f_X7_readTerm : Int32 → Mem → Option (Int32 × Mem)) (h_X7_readTerm : ∀ (x1 : Int32) (m : Mem), Ct l yX7_readTerm cX7_readTerm 4 (some .boolean) fr1 SX oI N N RX RX [.ref 39, .int x1] m (f_X7_readTerm x1 m)) : ∀ (n : Nat) (y1 : Int32) (y2 : Int32) (y3 : Int32) (m : Mem), V G SX oI l p e s mt args below meth c 5 fr A ad0 N N RX N RX 8 [(0, .ref 39), (1, .int y1), (2, .int y2), (3, .int y3)] [] m (X7_readSum_b8 f_X7_readTerm n y1 y2 y3 m) := by
  intro n
  induction n with
  | zero =>
    intro y1 y2 y3 m
    rw [X7_readSum_b8]
    exact V.nil
  | succ n ih =>
    intro y1 y2 y3 m
    rw [X7_readSum_b8]
    refine V.iload_n (pc := 8) C dX7_readSum_8 3 rfl ?_
    refine V.sipush (pc := 9) C dX7_readSum_9 (v := 900) (by decide) ?_
    refine V.icmp_gt (pc := 12) C dX7_readSum_12 80 (by decide) (fun _ => ?_) (fun _ => ?_)
    · refine V.iload_n (pc := 80) C dX7_readSum_80 2 rfl ?_
      exact V.bret C dX7_readSum_81
    · refine V.iload_n (pc := 15) C dX7_readSum_15 2 rfl ?_
      refine V.if_eq (pc := 16) C dX7_readSum_16 80 (by decide) (fun _ => ?_) (fun _ => ?_)
      · refine V.iload_n (pc := 80) C dX7_readSum_80 2 rfl ?_
        exact V.bret C dX7_readSum_81
      · refine V.aload_n (pc := 19) C dX7_readSum_19 0 rfl ?_
        refine V.geti (pc := 20) C fl_RX7_60 sX39 (kX39 hN) rfl dX7_readSum_20 ?_
        refine V.bipush (pc := 23) C dX7_readSum_23 (v := 43) (by decide) ?_
        refine V.icmp_eq (pc := 25) C dX7_readSum_25 37 (by decide) (fun _ => ?_) (fun _ => ?_)
        · refine V.wk [0, 1, 3] rfl ?_
          exact v_X7_readSum_b37 hfr C hN f_X7_readTerm h_X7_readTerm (X7_readSum_b8 f_X7_readTerm n) ih y1 y3 m
        · refine V.aload_n (pc := 28) C dX7_readSum_28 0 rfl ?_
          refine V.geti (pc := 29) C fl_RX7_60 sX39 (kX39 hN) rfl dX7_readSum_29 ?_
          refine V.bipush (pc := 32) C dX7_readSum_32 (v := 45) (by decide) ?_
          refine V.icmp_ne (pc := 34) C dX7_readSum_34 80 (by decide) (fun _ => ?_) (fun _ => ?_)
          · refine V.iload_n (pc := 80) C dX7_readSum_80 2 rfl ?_
            exact V.bret C dX7_readSum_81
          · refine V.wk [0, 1, 3] rfl ?_
            exact v_X7_readSum_b37 hfr C hN f_X7_readTerm h_X7_readTerm (X7_readSum_b8 f_X7_readTerm n) ih y1 y3 m
set_option maxRecDepth 100000 in
set_option maxHeartbeats 4000000 in
theorem v_X7_readSum {l : Launch} {p : Program} {e : Env} {s : State} {mt : MethodId} {args : Array Value} {below : List Frame} {meth : Method} {c : Code} {A : Nat → Prop} {ad0 : Nat → Nat} {G : Gt} {N : Nat} {fr fr1 : Nat} (hfr : fr1 + 1 ≤ fr ∧ 6 ≤ fr) (C : Cx G p s mt args meth c RX7 cX7_readSum 5 (some .boolean) "readSum" A) (hN : 109 ≤ N) (f_X7_readTerm : Int32 → Mem → Option (Int32 × Mem)) (h_X7_readTerm : ∀ (x1 : Int32) (m : Mem), Ct l yX7_readTerm cX7_readTerm 4 (some .boolean) fr1 SX oI N N RX RX [.ref 39, .int x1] m (f_X7_readTerm x1 m)) (x1 : Int32) (m : Mem) : V G SX oI l p e s mt args below meth c 5 fr A ad0 N N RX N RX 0 [(0, .ref 39), (1, .int x1)] [] m (X7_readSum f_X7_readTerm x1 m) := by
  rw [X7_readSum]
  refine V.aload_n (pc := 0) C dX7_readSum_0 0 rfl ?_
  refine V.iload_n (pc := 1) C dX7_readSum_1 1 rfl ?_
  refine V.callV (pc := 2) (st := []) C (h_X7_readTerm x1 m) obI ck_X7_readTerm ml_RX7_178 rfl rfl sX39 (kX39 hN) rfl rfl (Nat.le_of_ble_eq_true rfl) ⟨by omega, by decide⟩ dX7_readSum_2 (fun r_1 m_2 _ => ?_)
  refine V.istore_n (pc := 5) C dX7_readSum_5 (L2 := [(2, .int r_1), (0, .ref 39), (1, .int x1)]) (by decide) rfl ?_
  refine V.iconst (pc := 6) C dX7_readSum_6 (v := 0) (by decide) ?_
  refine V.istore_n (pc := 7) C dX7_readSum_7 (L2 := [(3, .int 0), (2, .int r_1), (0, .ref 39), (1, .int x1)]) (by decide) rfl ?_
  refine V.wk [2, 3, 1, 0] rfl ?_
  exact v_X7_readSum_b8 hfr C hN f_X7_readTerm h_X7_readTerm FU x1 r_1 0 m_2
theorem c_X7_readSum (l : Launch) {N : Nat} {fr fr1 : Nat} (hfr : fr1 + 1 ≤ fr ∧ 6 ≤ fr) (hN : 109 ≤ N) (f_X7_readTerm : Int32 → Mem → Option (Int32 × Mem)) (h_X7_readTerm : ∀ (x1 : Int32) (m : Mem), Ct l yX7_readTerm cX7_readTerm 4 (some .boolean) fr1 SX oI N N RX RX [.ref 39, .int x1] m (f_X7_readTerm x1 m)) (x1 : Int32) (m : Mem) : Ct l yX7_readSum cX7_readSum 5 (some .boolean) fr SX oI N N RX RX [.ref 39, .int x1] m (X7_readSum f_X7_readTerm x1 m) :=
  Ct.of (own := RX7) (nm := "readSum") (by decide) rfl rfl (Nat.le_of_ble_eq_true rfl) (fun _ _ _ _ _ _ _ _ _ _ _ C => v_X7_readSum hfr C hN f_X7_readTerm h_X7_readTerm x1 m)
theorem dX7_readTerm_0 : decode cX7_readTerm 0 = .ok (.aload_n 0, 1) := by decide +kernel
theorem dX7_readTerm_1 : decode cX7_readTerm 1 = .ok (.iload_n 1, 1) := by decide +kernel
theorem dX7_readTerm_2 : decode cX7_readTerm 2 = .ok (.invokevirtual 181, 3) := by decide +kernel
theorem dX7_readTerm_5 : decode cX7_readTerm 5 = .ok (.istore_n 2, 1) := by decide +kernel
theorem dX7_readTerm_6 : decode cX7_readTerm 6 = .ok (.iconst 0, 1) := by decide +kernel
theorem dX7_readTerm_7 : decode cX7_readTerm 7 = .ok (.istore_n 3, 1) := by decide +kernel
theorem dX7_readTerm_8 : decode cX7_readTerm 8 = .ok (.iload_n 3, 1) := by decide +kernel
theorem dX7_readTerm_9 : decode cX7_readTerm 9 = .ok (.sipush 900, 3) := by decide +kernel
theorem dX7_readTerm_12 : decode cX7_readTerm 12 = .ok (.if_icmp .gt 41, 3) := by decide +kernel
theorem dX7_readTerm_15 : decode cX7_readTerm 15 = .ok (.iload_n 2, 1) := by decide +kernel
theorem dX7_readTerm_16 : decode cX7_readTerm 16 = .ok (.ifCond .eq 37, 3) := by decide +kernel
theorem dX7_readTerm_19 : decode cX7_readTerm 19 = .ok (.aload_n 0, 1) := by decide +kernel
theorem dX7_readTerm_20 : decode cX7_readTerm 20 = .ok (.getfield 60, 3) := by decide +kernel
theorem dX7_readTerm_23 : decode cX7_readTerm 23 = .ok (.bipush 42, 2) := by decide +kernel
theorem dX7_readTerm_25 : decode cX7_readTerm 25 = .ok (.if_icmp .ne 28, 3) := by decide +kernel
theorem dX7_readTerm_28 : decode cX7_readTerm 28 = .ok (.aload_n 0, 1) := by decide +kernel
theorem dX7_readTerm_29 : decode cX7_readTerm 29 = .ok (.invokevirtual 57, 3) := by decide +kernel
theorem dX7_readTerm_32 : decode cX7_readTerm 32 = .ok (.aload_n 0, 1) := by decide +kernel
theorem dX7_readTerm_33 : decode cX7_readTerm 33 = .ok (.iload_n 1, 1) := by decide +kernel
theorem dX7_readTerm_34 : decode cX7_readTerm 34 = .ok (.invokevirtual 181, 3) := by decide +kernel
theorem dX7_readTerm_37 : decode cX7_readTerm 37 = .ok (.istore_n 2, 1) := by decide +kernel
theorem dX7_readTerm_38 : decode cX7_readTerm 38 = .ok (.aload_n 0, 1) := by decide +kernel
theorem dX7_readTerm_39 : decode cX7_readTerm 39 = .ok (.getfield 29, 3) := by decide +kernel
theorem dX7_readTerm_42 : decode cX7_readTerm 42 = .ok (.bipush (-10), 2) := by decide +kernel
theorem dX7_readTerm_44 : decode cX7_readTerm 44 = .ok (.invokevirtual 161, 3) := by decide +kernel
theorem dX7_readTerm_47 : decode cX7_readTerm 47 = .ok (.iinc 3 1, 3) := by decide +kernel
theorem dX7_readTerm_50 : decode cX7_readTerm 50 = .ok (.goto (-42), 3) := by decide +kernel
theorem dX7_readTerm_53 : decode cX7_readTerm 53 = .ok (.iload_n 2, 1) := by decide +kernel
theorem dX7_readTerm_54 : decode cX7_readTerm 54 = .ok (.ireturn, 1) := by decide +kernel
set_option maxRecDepth 100000 in
set_option maxHeartbeats 4000000 in
theorem v_X7_readTerm_b8 {l : Launch} {p : Program} {e : Env} {s : State} {mt : MethodId} {args : Array Value} {below : List Frame} {meth : Method} {c : Code} {A : Nat → Prop} {ad0 : Nat → Nat} {G : Gt} {N : Nat} {fr fr1 : Nat} (hfr : fr1 + 1 ≤ fr ∧ 6 ≤ fr) (C : Cx G p s mt args meth c RX7 cX7_readTerm 4 (some .boolean) "readTerm" A) (hN : 109 ≤ N) (f_X7_readAtom : Int32 → Mem → Option (Int32 × Mem)) (h_X7_readAtom : ∀ (x1 : Int32) (m : Mem), Ct l yX7_readAtom cX7_readAtom 3 (some .boolean) fr1 SX oI N N RX RX [.ref 39, .int x1] m (f_X7_readAtom x1 m)) : ∀ (n : Nat) (y1 : Int32) (y2 : Int32) (y3 : Int32) (m : Mem), V G SX oI l p e s mt args below meth c 4 fr A ad0 N N RX N RX 8 [(0, .ref 39), (1, .int y1), (2, .int y2), (3, .int y3)] [] m (X7_readTerm_b8 f_X7_readAtom n y1 y2 y3 m) := by
  intro n
  induction n with
  | zero =>
    intro y1 y2 y3 m
    rw [X7_readTerm_b8]
    exact V.nil
  | succ n ih =>
    intro y1 y2 y3 m
    rw [X7_readTerm_b8]
    refine V.iload_n (pc := 8) C dX7_readTerm_8 3 rfl ?_
    refine V.sipush (pc := 9) C dX7_readTerm_9 (v := 900) (by decide) ?_
    refine V.icmp_gt (pc := 12) C dX7_readTerm_12 53 (by decide) (fun _ => ?_) (fun _ => ?_)
    · refine V.iload_n (pc := 53) C dX7_readTerm_53 2 rfl ?_
      exact V.bret C dX7_readTerm_54
    · refine V.iload_n (pc := 15) C dX7_readTerm_15 2 rfl ?_
      refine V.if_eq (pc := 16) C dX7_readTerm_16 53 (by decide) (fun _ => ?_) (fun _ => ?_)
      · refine V.iload_n (pc := 53) C dX7_readTerm_53 2 rfl ?_
        exact V.bret C dX7_readTerm_54
      · refine V.aload_n (pc := 19) C dX7_readTerm_19 0 rfl ?_
        refine V.geti (pc := 20) C fl_RX7_60 sX39 (kX39 hN) rfl dX7_readTerm_20 ?_
        refine V.bipush (pc := 23) C dX7_readTerm_23 (v := 42) (by decide) ?_
        refine V.icmp_ne (pc := 25) C dX7_readTerm_25 53 (by decide) (fun _ => ?_) (fun _ => ?_)
        · refine V.iload_n (pc := 53) C dX7_readTerm_53 2 rfl ?_
          exact V.bret C dX7_readTerm_54
        · refine V.aload_n (pc := 28) C dX7_readTerm_28 0 rfl ?_
          refine V.callV (pc := 29) (st := []) C (c_X7_next l hN m) obV ck_X7_next ml_RX7_57 rfl rfl sX39 (kX39 hN) rfl rfl (Nat.le_of_ble_eq_true rfl) ⟨by omega, by decide⟩ dX7_readTerm_29 (fun r_3 m_4 _ => ?_)
          refine V.aload_n (pc := 32) C dX7_readTerm_32 0 rfl ?_
          refine V.iload_n (pc := 33) C dX7_readTerm_33 1 rfl ?_
          refine V.callV (pc := 34) (st := []) C (h_X7_readAtom y1 m_4) obI ck_X7_readAtom ml_RX7_181 rfl rfl sX39 (kX39 hN) rfl rfl (Nat.le_of_ble_eq_true rfl) ⟨by omega, by decide⟩ dX7_readTerm_34 (fun r_5 m_6 _ => ?_)
          refine V.istore_n (pc := 37) C dX7_readTerm_37 (L2 := [(2, .int r_5), (0, .ref 39), (1, .int y1), (3, .int y3)]) (by decide) rfl ?_
          refine V.aload_n (pc := 38) C dX7_readTerm_38 1 rfl ?_
          refine V.ck (fun h_8 => ?_)
          refine V.getd (pc := 39) C fl_RX7_29 sX39 (kX39 hN) rfl (okl_d h_8) dX7_readTerm_39 ?_
          refine V.ltr (fun b_7 eb_7 => ?_)
          have hb_7 : isLaw N b_7 := by rw [eb_7]; exact okl_law hN h_8
          refine V.bipush (pc := 42) C dX7_readTerm_42 (v := (-10)) (by decide) ?_
          refine V.callV (pc := 44) (st := []) C (c_X4_add l hN b_7 hb_7 (-10) m_6) obV ck_X4_add ml_RX7_161 rfl rfl hb_7.s hb_7.k rfl rfl (Nat.le_of_ble_eq_true rfl) ⟨by omega, by decide⟩ dX7_readTerm_44 (fun r_9 m_10 _ => ?_)
          refine V.iinc (pc := 47) C dX7_readTerm_47 (v := 1) (L2 := [(3, .int (y3 + 1)), (2, .int r_5), (0, .ref 39), (1, .int y1)]) 3 rfl (by decide) (by decide) rfl ?_
          refine V.goto (pc := 50) C dX7_readTerm_50 8 (by decide) ?_
          refine V.wk [2, 3, 1, 0] rfl ?_
          exact ih y1 r_5 (y3 + 1) m_10
set_option maxRecDepth 100000 in
set_option maxHeartbeats 4000000 in
theorem v_X7_readTerm {l : Launch} {p : Program} {e : Env} {s : State} {mt : MethodId} {args : Array Value} {below : List Frame} {meth : Method} {c : Code} {A : Nat → Prop} {ad0 : Nat → Nat} {G : Gt} {N : Nat} {fr fr1 : Nat} (hfr : fr1 + 1 ≤ fr ∧ 6 ≤ fr) (C : Cx G p s mt args meth c RX7 cX7_readTerm 4 (some .boolean) "readTerm" A) (hN : 109 ≤ N) (f_X7_readAtom : Int32 → Mem → Option (Int32 × Mem)) (h_X7_readAtom : ∀ (x1 : Int32) (m : Mem), Ct l yX7_readAtom cX7_readAtom 3 (some .boolean) fr1 SX oI N N RX RX [.ref 39, .int x1] m (f_X7_readAtom x1 m)) (x1 : Int32) (m : Mem) : V G SX oI l p e s mt args below meth c 4 fr A ad0 N N RX N RX 0 [(0, .ref 39), (1, .int x1)] [] m (X7_readTerm f_X7_readAtom x1 m) := by
  rw [X7_readTerm]
  refine V.aload_n (pc := 0) C dX7_readTerm_0 0 rfl ?_
  refine V.iload_n (pc := 1) C dX7_readTerm_1 1 rfl ?_
  refine V.callV (pc := 2) (st := []) C (h_X7_readAtom x1 m) obI ck_X7_readAtom ml_RX7_181 rfl rfl sX39 (kX39 hN) rfl rfl (Nat.le_of_ble_eq_true rfl) ⟨by omega, by decide⟩ dX7_readTerm_2 (fun r_1 m_2 _ => ?_)
  refine V.istore_n (pc := 5) C dX7_readTerm_5 (L2 := [(2, .int r_1), (0, .ref 39), (1, .int x1)]) (by decide) rfl ?_
  refine V.iconst (pc := 6) C dX7_readTerm_6 (v := 0) (by decide) ?_
  refine V.istore_n (pc := 7) C dX7_readTerm_7 (L2 := [(3, .int 0), (2, .int r_1), (0, .ref 39), (1, .int x1)]) (by decide) rfl ?_
  refine V.wk [2, 3, 1, 0] rfl ?_
  exact v_X7_readTerm_b8 hfr C hN f_X7_readAtom h_X7_readAtom FU x1 r_1 0 m_2
theorem c_X7_readTerm (l : Launch) {N : Nat} {fr fr1 : Nat} (hfr : fr1 + 1 ≤ fr ∧ 6 ≤ fr) (hN : 109 ≤ N) (f_X7_readAtom : Int32 → Mem → Option (Int32 × Mem)) (h_X7_readAtom : ∀ (x1 : Int32) (m : Mem), Ct l yX7_readAtom cX7_readAtom 3 (some .boolean) fr1 SX oI N N RX RX [.ref 39, .int x1] m (f_X7_readAtom x1 m)) (x1 : Int32) (m : Mem) : Ct l yX7_readTerm cX7_readTerm 4 (some .boolean) fr SX oI N N RX RX [.ref 39, .int x1] m (X7_readTerm f_X7_readAtom x1 m) :=
  Ct.of (own := RX7) (nm := "readTerm") (by decide) rfl rfl (Nat.le_of_ble_eq_true rfl) (fun _ _ _ _ _ _ _ _ _ _ _ C => v_X7_readTerm hfr C hN f_X7_readAtom h_X7_readAtom x1 m)
theorem dX7_readAtom_0 : decode cX7_readAtom 0 = .ok (.aload_n 0, 1) := by decide +kernel
theorem dX7_readAtom_1 : decode cX7_readAtom 1 = .ok (.getfield 60, 3) := by decide +kernel
theorem dX7_readAtom_4 : decode cX7_readAtom 4 = .ok (.bipush 40, 2) := by decide +kernel
theorem dX7_readAtom_6 : decode cX7_readAtom 6 = .ok (.if_icmp .ne 36, 3) := by decide +kernel
theorem dX7_readAtom_9 : decode cX7_readAtom 9 = .ok (.aload_n 0, 1) := by decide +kernel
theorem dX7_readAtom_10 : decode cX7_readAtom 10 = .ok (.iload_n 1, 1) := by decide +kernel
theorem dX7_readAtom_11 : decode cX7_readAtom 11 = .ok (.invokevirtual 172, 3) := by decide +kernel
theorem dX7_readAtom_14 : decode cX7_readAtom 14 = .ok (.ifCond .eq 26, 3) := by decide +kernel
theorem dX7_readAtom_17 : decode cX7_readAtom 17 = .ok (.aload_n 0, 1) := by decide +kernel
theorem dX7_readAtom_18 : decode cX7_readAtom 18 = .ok (.iload_n 1, 1) := by decide +kernel
theorem dX7_readAtom_19 : decode cX7_readAtom 19 = .ok (.iconst 1, 1) := by decide +kernel
theorem dX7_readAtom_20 : decode cX7_readAtom 20 = .ok (.iadd, 1) := by decide +kernel
theorem dX7_readAtom_21 : decode cX7_readAtom 21 = .ok (.invokevirtual 95, 3) := by decide +kernel
theorem dX7_readAtom_24 : decode cX7_readAtom 24 = .ok (.ifCond .eq 16, 3) := by decide +kernel
theorem dX7_readAtom_27 : decode cX7_readAtom 27 = .ok (.aload_n 0, 1) := by decide +kernel
theorem dX7_readAtom_28 : decode cX7_readAtom 28 = .ok (.bipush 41, 2) := by decide +kernel
theorem dX7_readAtom_30 : decode cX7_readAtom 30 = .ok (.invokevirtual 67, 3) := by decide +kernel
theorem dX7_readAtom_33 : decode cX7_readAtom 33 = .ok (.ifCond .eq 7, 3) := by decide +kernel
theorem dX7_readAtom_36 : decode cX7_readAtom 36 = .ok (.iconst 1, 1) := by decide +kernel
theorem dX7_readAtom_37 : decode cX7_readAtom 37 = .ok (.goto 4, 3) := by decide +kernel
theorem dX7_readAtom_40 : decode cX7_readAtom 40 = .ok (.iconst 0, 1) := by decide +kernel
theorem dX7_readAtom_41 : decode cX7_readAtom 41 = .ok (.ireturn, 1) := by decide +kernel
theorem dX7_readAtom_42 : decode cX7_readAtom 42 = .ok (.aload_n 0, 1) := by decide +kernel
theorem dX7_readAtom_43 : decode cX7_readAtom 43 = .ok (.getfield 60, 3) := by decide +kernel
theorem dX7_readAtom_46 : decode cX7_readAtom 46 = .ok (.iconst 2, 1) := by decide +kernel
theorem dX7_readAtom_47 : decode cX7_readAtom 47 = .ok (.if_icmp .ne 20, 3) := by decide +kernel
theorem dX7_readAtom_50 : decode cX7_readAtom 50 = .ok (.aload_n 0, 1) := by decide +kernel
theorem dX7_readAtom_51 : decode cX7_readAtom 51 = .ok (.getfield 29, 3) := by decide +kernel
theorem dX7_readAtom_54 : decode cX7_readAtom 54 = .ok (.aload_n 0, 1) := by decide +kernel
theorem dX7_readAtom_55 : decode cX7_readAtom 55 = .ok (.iconst 0, 1) := by decide +kernel
theorem dX7_readAtom_56 : decode cX7_readAtom 56 = .ok (.sipush 999, 3) := by decide +kernel
theorem dX7_readAtom_59 : decode cX7_readAtom 59 = .ok (.invokevirtual 108, 3) := by decide +kernel
theorem dX7_readAtom_62 : decode cX7_readAtom 62 = .ok (.invokevirtual 161, 3) := by decide +kernel
theorem dX7_readAtom_65 : decode cX7_readAtom 65 = .ok (.iconst 1, 1) := by decide +kernel
theorem dX7_readAtom_66 : decode cX7_readAtom 66 = .ok (.ireturn, 1) := by decide +kernel
theorem dX7_readAtom_67 : decode cX7_readAtom 67 = .ok (.aload_n 0, 1) := by decide +kernel
theorem dX7_readAtom_68 : decode cX7_readAtom 68 = .ok (.invokevirtual 184, 3) := by decide +kernel
theorem dX7_readAtom_71 : decode cX7_readAtom 71 = .ok (.istore_n 2, 1) := by decide +kernel
theorem dX7_readAtom_72 : decode cX7_readAtom 72 = .ok (.iload_n 2, 1) := by decide +kernel
theorem dX7_readAtom_73 : decode cX7_readAtom 73 = .ok (.iconst (-1), 1) := by decide +kernel
theorem dX7_readAtom_74 : decode cX7_readAtom 74 = .ok (.if_icmp .ne 8, 3) := by decide +kernel
theorem dX7_readAtom_77 : decode cX7_readAtom 77 = .ok (.aload_n 0, 1) := by decide +kernel
theorem dX7_readAtom_78 : decode cX7_readAtom 78 = .ok (.invokevirtual 117, 3) := by decide +kernel
theorem dX7_readAtom_81 : decode cX7_readAtom 81 = .ok (.ireturn, 1) := by decide +kernel
theorem dX7_readAtom_82 : decode cX7_readAtom 82 = .ok (.aload_n 0, 1) := by decide +kernel
theorem dX7_readAtom_83 : decode cX7_readAtom 83 = .ok (.getfield 29, 3) := by decide +kernel
theorem dX7_readAtom_86 : decode cX7_readAtom 86 = .ok (.iload_n 2, 1) := by decide +kernel
theorem dX7_readAtom_87 : decode cX7_readAtom 87 = .ok (.invokestatic 187, 3) := by decide +kernel
theorem dX7_readAtom_90 : decode cX7_readAtom 90 = .ok (.invokevirtual 161, 3) := by decide +kernel
theorem dX7_readAtom_93 : decode cX7_readAtom 93 = .ok (.aload_n 0, 1) := by decide +kernel
theorem dX7_readAtom_94 : decode cX7_readAtom 94 = .ok (.invokevirtual 57, 3) := by decide +kernel
theorem dX7_readAtom_97 : decode cX7_readAtom 97 = .ok (.iconst 1, 1) := by decide +kernel
theorem dX7_readAtom_98 : decode cX7_readAtom 98 = .ok (.ireturn, 1) := by decide +kernel
set_option maxRecDepth 100000 in
set_option maxHeartbeats 4000000 in
theorem v_X7_readAtom {l : Launch} {p : Program} {e : Env} {s : State} {mt : MethodId} {args : Array Value} {below : List Frame} {meth : Method} {c : Code} {A : Nat → Prop} {ad0 : Nat → Nat} {G : Gt} {N : Nat} {fr fr1 : Nat} (hfr : fr1 + 1 ≤ fr ∧ 7 ≤ fr) (C : Cx G p s mt args meth c RX7 cX7_readAtom 3 (some .boolean) "readAtom" A) (hN : 109 ≤ N) (f_X7_readSum : Int32 → Mem → Option (Int32 × Mem)) (h_X7_readSum : ∀ (x1 : Int32) (m : Mem), Ct l yX7_readSum cX7_readSum 5 (some .boolean) fr1 SX oI N N RX RX [.ref 39, .int x1] m (f_X7_readSum x1 m)) (x1 : Int32) (m : Mem) : V G SX oI l p e s mt args below meth c 3 fr A ad0 N N RX N RX 0 [(0, .ref 39), (1, .int x1)] [] m (X7_readAtom f_X7_readSum x1 m) := by
  rw [X7_readAtom]
  refine V.aload_n (pc := 0) C dX7_readAtom_0 0 rfl ?_
  refine V.geti (pc := 1) C fl_RX7_60 sX39 (kX39 hN) rfl dX7_readAtom_1 ?_
  refine V.bipush (pc := 4) C dX7_readAtom_4 (v := 40) (by decide) ?_
  refine V.icmp_ne (pc := 6) C dX7_readAtom_6 42 (by decide) (fun _ => ?_) (fun _ => ?_)
  · refine V.aload_n (pc := 42) C dX7_readAtom_42 0 rfl ?_
    refine V.geti (pc := 43) C fl_RX7_60 sX39 (kX39 hN) rfl dX7_readAtom_43 ?_
    refine V.iconst (pc := 46) C dX7_readAtom_46 (v := 2) (by decide) ?_
    refine V.icmp_ne (pc := 47) C dX7_readAtom_47 67 (by decide) (fun _ => ?_) (fun _ => ?_)
    · refine V.aload_n (pc := 67) C dX7_readAtom_67 0 rfl ?_
      refine V.callV (pc := 68) (st := []) C (c_X7_termWord l hN m) obI ck_X7_termWord ml_RX7_184 rfl rfl sX39 (kX39 hN) rfl rfl (Nat.le_of_ble_eq_true rfl) ⟨by omega, by decide⟩ dX7_readAtom_68 (fun r_1 m_2 _ => ?_)
      refine V.istore_n (pc := 71) C dX7_readAtom_71 (L2 := [(2, .int r_1), (0, .ref 39), (1, .int x1)]) (by decide) rfl ?_
      refine V.iload_n (pc := 72) C dX7_readAtom_72 0 rfl ?_
      refine V.iconst (pc := 73) C dX7_readAtom_73 (v := (-1)) (by decide) ?_
      refine V.icmp_ne (pc := 74) C dX7_readAtom_74 82 (by decide) (fun _ => ?_) (fun _ => ?_)
      · refine V.aload_n (pc := 82) C dX7_readAtom_82 1 rfl ?_
        refine V.ck (fun h_4 => ?_)
        refine V.getd (pc := 83) C fl_RX7_29 sX39 (kX39 hN) rfl (okl_d h_4) dX7_readAtom_83 ?_
        refine V.ltr (fun b_3 eb_3 => ?_)
        have hb_3 : isLaw N b_3 := by rw [eb_3]; exact okl_law hN h_4
        refine V.iload_n (pc := 86) C dX7_readAtom_86 0 rfl ?_
        refine V.callS (pc := 87) (st := [.ref b_3]) C (c_X4_ofTerm l hN r_1 m_2) obI ck_X4_ofTerm ml_RX7_187 rfl rfl (Nat.le_of_ble_eq_true rfl) ⟨by omega, by decide⟩ dX7_readAtom_87 (fun r_5 m_6 _ => ?_)
        refine V.callV (pc := 90) (st := []) C (c_X4_add l hN b_3 hb_3 r_5 m_6) obV ck_X4_add ml_RX7_161 rfl rfl hb_3.s hb_3.k rfl rfl (Nat.le_of_ble_eq_true rfl) ⟨by omega, by decide⟩ dX7_readAtom_90 (fun r_7 m_8 _ => ?_)
        refine V.aload_n (pc := 93) C dX7_readAtom_93 1 rfl ?_
        refine V.callV (pc := 94) (st := []) C (c_X7_next l hN m_8) obV ck_X7_next ml_RX7_57 rfl rfl sX39 (kX39 hN) rfl rfl (Nat.le_of_ble_eq_true rfl) ⟨by omega, by decide⟩ dX7_readAtom_94 (fun r_9 m_10 _ => ?_)
        refine V.iconst (pc := 97) C dX7_readAtom_97 (v := 1) (by decide) ?_
        exact V.zret rfl C dX7_readAtom_98
      · refine V.aload_n (pc := 77) C dX7_readAtom_77 1 rfl ?_
        refine V.callV (pc := 78) (st := []) C (c_X7_refuse l hN m_2) obI ck_X7_refuse ml_RX7_117 rfl rfl sX39 (kX39 hN) rfl rfl (Nat.le_of_ble_eq_true rfl) ⟨by omega, by decide⟩ dX7_readAtom_78 (fun r_11 m_12 _ => ?_)
        exact V.bret C dX7_readAtom_81
    · refine V.aload_n (pc := 50) C dX7_readAtom_50 0 rfl ?_
      refine V.ck (fun h_14 => ?_)
      refine V.getd (pc := 51) C fl_RX7_29 sX39 (kX39 hN) rfl (okl_d h_14) dX7_readAtom_51 ?_
      refine V.ltr (fun b_13 eb_13 => ?_)
      have hb_13 : isLaw N b_13 := by rw [eb_13]; exact okl_law hN h_14
      refine V.aload_n (pc := 54) C dX7_readAtom_54 0 rfl ?_
      refine V.iconst (pc := 55) C dX7_readAtom_55 (v := 0) (by decide) ?_
      refine V.sipush (pc := 56) C dX7_readAtom_56 (v := 999) (by decide) ?_
      refine V.callV (pc := 59) (st := [.ref b_13]) C (c_X7_readNumber l hN 0 999 m) obI ck_X7_readNumber ml_RX7_108 rfl rfl sX39 (kX39 hN) rfl rfl (Nat.le_of_ble_eq_true rfl) ⟨by omega, by decide⟩ dX7_readAtom_59 (fun r_15 m_16 _ => ?_)
      refine V.callV (pc := 62) (st := []) C (c_X4_add l hN b_13 hb_13 r_15 m_16) obV ck_X4_add ml_RX7_161 rfl rfl hb_13.s hb_13.k rfl rfl (Nat.le_of_ble_eq_true rfl) ⟨by omega, by decide⟩ dX7_readAtom_62 (fun r_17 m_18 _ => ?_)
      refine V.iconst (pc := 65) C dX7_readAtom_65 (v := 1) (by decide) ?_
      exact V.zret rfl C dX7_readAtom_66
  · refine V.aload_n (pc := 9) C dX7_readAtom_9 0 rfl ?_
    refine V.iload_n (pc := 10) C dX7_readAtom_10 1 rfl ?_
    refine V.callV (pc := 11) (st := []) C (c_X7_goDeeper l hN x1 m) obI ck_X7_goDeeper ml_RX7_172 rfl rfl sX39 (kX39 hN) rfl rfl (Nat.le_of_ble_eq_true rfl) ⟨by omega, by decide⟩ dX7_readAtom_11 (fun r_19 m_20 _ => ?_)
    refine V.if_eq (pc := 14) C dX7_readAtom_14 40 (by decide) (fun _ => ?_) (fun _ => ?_)
    · refine V.iconst (pc := 40) C dX7_readAtom_40 (v := 0) (by decide) ?_
      exact V.zret rfl C dX7_readAtom_41
    · refine V.aload_n (pc := 17) C dX7_readAtom_17 0 rfl ?_
      refine V.iload_n (pc := 18) C dX7_readAtom_18 1 rfl ?_
      refine V.iconst (pc := 19) C dX7_readAtom_19 (v := 1) (by decide) ?_
      refine V.iadd (pc := 20) C dX7_readAtom_20 ?_
      refine V.callV (pc := 21) (st := []) C (h_X7_readSum (x1 + 1) m_20) obI ck_X7_readSum ml_RX7_95 rfl rfl sX39 (kX39 hN) rfl rfl (Nat.le_of_ble_eq_true rfl) ⟨by omega, by decide⟩ dX7_readAtom_21 (fun r_21 m_22 _ => ?_)
      refine V.if_eq (pc := 24) C dX7_readAtom_24 40 (by decide) (fun _ => ?_) (fun _ => ?_)
      · refine V.iconst (pc := 40) C dX7_readAtom_40 (v := 0) (by decide) ?_
        exact V.zret rfl C dX7_readAtom_41
      · refine V.aload_n (pc := 27) C dX7_readAtom_27 0 rfl ?_
        refine V.bipush (pc := 28) C dX7_readAtom_28 (v := 41) (by decide) ?_
        refine V.callV (pc := 30) (st := []) C (c_X7_pass l hN 41 m_22) obI ck_X7_pass ml_RX7_67 rfl rfl sX39 (kX39 hN) rfl rfl (Nat.le_of_ble_eq_true rfl) ⟨by omega, by decide⟩ dX7_readAtom_30 (fun r_23 m_24 _ => ?_)
        refine V.if_eq (pc := 33) C dX7_readAtom_33 40 (by decide) (fun _ => ?_) (fun _ => ?_)
        · refine V.iconst (pc := 40) C dX7_readAtom_40 (v := 0) (by decide) ?_
          exact V.zret rfl C dX7_readAtom_41
        · refine V.iconst (pc := 36) C dX7_readAtom_36 (v := 1) (by decide) ?_
          refine V.goto (pc := 37) C dX7_readAtom_37 41 (by decide) ?_
          exact V.zret rfl C dX7_readAtom_41
theorem c_X7_readAtom (l : Launch) {N : Nat} {fr fr1 : Nat} (hfr : fr1 + 1 ≤ fr ∧ 7 ≤ fr) (hN : 109 ≤ N) (f_X7_readSum : Int32 → Mem → Option (Int32 × Mem)) (h_X7_readSum : ∀ (x1 : Int32) (m : Mem), Ct l yX7_readSum cX7_readSum 5 (some .boolean) fr1 SX oI N N RX RX [.ref 39, .int x1] m (f_X7_readSum x1 m)) (x1 : Int32) (m : Mem) : Ct l yX7_readAtom cX7_readAtom 3 (some .boolean) fr SX oI N N RX RX [.ref 39, .int x1] m (X7_readAtom f_X7_readSum x1 m) :=
  Ct.of (own := RX7) (nm := "readAtom") (by decide) rfl rfl (Nat.le_of_ble_eq_true rfl) (fun _ _ _ _ _ _ _ _ _ _ _ C => v_X7_readAtom hfr C hN f_X7_readSum h_X7_readSum x1 m)
theorem cg_X7_readTruth (l : Launch) {N : Nat} (hN : 109 ≤ N) : ∀ d : Nat, (∀ (x1 : Int32) (m : Mem), Ct l yX7_readTruth cX7_readTruth 4 (some .boolean) (d + 7) SX oI N N RX RX [.ref 39, .int x1] m ((g_X7_readTruth d).1 x1 m)) ∧
    (∀ (x1 : Int32) (m : Mem), Ct l yX7_readBoth cX7_readBoth 4 (some .boolean) (d + 7) SX oI N N RX RX [.ref 39, .int x1] m ((g_X7_readTruth d).2.1 x1 m)) ∧
    (∀ (x1 : Int32) (m : Mem), Ct l yX7_readUnit cX7_readUnit 4 (some .boolean) (d + 7) SX oI N N RX RX [.ref 39, .int x1] m ((g_X7_readTruth d).2.2.1 x1 m)) ∧
    (∀ (x1 : Int32) (m : Mem), Ct l yX7_readSum cX7_readSum 5 (some .boolean) (d + 7) SX oI N N RX RX [.ref 39, .int x1] m ((g_X7_readTruth d).2.2.2.1 x1 m)) ∧
    (∀ (x1 : Int32) (m : Mem), Ct l yX7_readTerm cX7_readTerm 4 (some .boolean) (d + 7) SX oI N N RX RX [.ref 39, .int x1] m ((g_X7_readTruth d).2.2.2.2.1 x1 m)) ∧
    (∀ (x1 : Int32) (m : Mem), Ct l yX7_readAtom cX7_readAtom 3 (some .boolean) (d + 7) SX oI N N RX RX [.ref 39, .int x1] m ((g_X7_readTruth d).2.2.2.2.2 x1 m))
  | 0 => ⟨fun _ _ => ct_none, fun _ _ => ct_none, fun _ _ => ct_none, fun _ _ => ct_none, fun _ _ => ct_none, fun _ _ => ct_none⟩
  | d + 1 => by
    have ih := cg_X7_readTruth l hN d
    exact ⟨fun x1 m => c_X7_readTruth l (fr := d + 1 + 7) (fr1 := d + 7) ⟨by omega, by omega⟩ hN _ (ih.2.1) x1 m, fun x1 m => c_X7_readBoth l (fr := d + 1 + 7) (fr1 := d + 7) ⟨by omega, by omega⟩ hN _ (ih.2.2.1) x1 m, fun x1 m => c_X7_readUnit l (fr := d + 1 + 7) (fr1 := d + 7) ⟨by omega, by omega⟩ hN _ (ih.1) _ (ih.2.2.1) _ (ih.2.2.2.1) x1 m, fun x1 m => c_X7_readSum l (fr := d + 1 + 7) (fr1 := d + 7) ⟨by omega, by omega⟩ hN _ (ih.2.2.2.2.1) x1 m, fun x1 m => c_X7_readTerm l (fr := d + 1 + 7) (fr1 := d + 7) ⟨by omega, by omega⟩ hN _ (ih.2.2.2.2.2) x1 m, fun x1 m => c_X7_readAtom l (fr := d + 1 + 7) (fr1 := d + 7) ⟨by omega, by omega⟩ hN _ (ih.2.2.2.1) x1 m⟩
theorem c_X7_readTruth_top (l : Launch) {N : Nat} (hN : 109 ≤ N) (x1 : Int32) (m : Mem) : Ct l yX7_readTruth cX7_readTruth 4 (some .boolean) 71 SX oI N N RX RX [.ref 39, .int x1] m (X7_readTruth_top x1 m) := (cg_X7_readTruth l hN 64).1 x1 m
theorem c_X7_readBoth_top (l : Launch) {N : Nat} (hN : 109 ≤ N) (x1 : Int32) (m : Mem) : Ct l yX7_readBoth cX7_readBoth 4 (some .boolean) 71 SX oI N N RX RX [.ref 39, .int x1] m (X7_readBoth_top x1 m) := (cg_X7_readTruth l hN 64).2.1 x1 m
theorem c_X7_readUnit_top (l : Launch) {N : Nat} (hN : 109 ≤ N) (x1 : Int32) (m : Mem) : Ct l yX7_readUnit cX7_readUnit 4 (some .boolean) 71 SX oI N N RX RX [.ref 39, .int x1] m (X7_readUnit_top x1 m) := (cg_X7_readTruth l hN 64).2.2.1 x1 m
theorem c_X7_readSum_top (l : Launch) {N : Nat} (hN : 109 ≤ N) (x1 : Int32) (m : Mem) : Ct l yX7_readSum cX7_readSum 5 (some .boolean) 71 SX oI N N RX RX [.ref 39, .int x1] m (X7_readSum_top x1 m) := (cg_X7_readTruth l hN 64).2.2.2.1 x1 m
theorem c_X7_readTerm_top (l : Launch) {N : Nat} (hN : 109 ≤ N) (x1 : Int32) (m : Mem) : Ct l yX7_readTerm cX7_readTerm 4 (some .boolean) 71 SX oI N N RX RX [.ref 39, .int x1] m (X7_readTerm_top x1 m) := (cg_X7_readTruth l hN 64).2.2.2.2.1 x1 m
theorem c_X7_readAtom_top (l : Launch) {N : Nat} (hN : 109 ≤ N) (x1 : Int32) (m : Mem) : Ct l yX7_readAtom cX7_readAtom 3 (some .boolean) 71 SX oI N N RX RX [.ref 39, .int x1] m (X7_readAtom_top x1 m) := (cg_X7_readTruth l hN 64).2.2.2.2.2 x1 m
theorem dX7_readLine_0 : decode cX7_readLine 0 = .ok (.aload_n 0, 1) := by decide +kernel
theorem dX7_readLine_1 : decode cX7_readLine 1 = .ok (.ldc 74, 2) := by decide +kernel
theorem dX7_readLine_3 : decode cX7_readLine 3 = .ok (.invokevirtual 76, 3) := by decide +kernel
theorem dX7_readLine_6 : decode cX7_readLine 6 = .ok (.ifCond .eq 8, 3) := by decide +kernel
theorem dX7_readLine_9 : decode cX7_readLine 9 = .ok (.aload_n 0, 1) := by decide +kernel
theorem dX7_readLine_10 : decode cX7_readLine 10 = .ok (.invokevirtual 80, 3) := by decide +kernel
theorem dX7_readLine_13 : decode cX7_readLine 13 = .ok (.ireturn, 1) := by decide +kernel
theorem dX7_readLine_14 : decode cX7_readLine 14 = .ok (.aload_n 0, 1) := by decide +kernel
theorem dX7_readLine_15 : decode cX7_readLine 15 = .ok (.ldc 83, 2) := by decide +kernel
theorem dX7_readLine_17 : decode cX7_readLine 17 = .ok (.invokevirtual 76, 3) := by decide +kernel
theorem dX7_readLine_20 : decode cX7_readLine 20 = .ok (.ifCond .eq 8, 3) := by decide +kernel
theorem dX7_readLine_23 : decode cX7_readLine 23 = .ok (.aload_n 0, 1) := by decide +kernel
theorem dX7_readLine_24 : decode cX7_readLine 24 = .ok (.invokevirtual 85, 3) := by decide +kernel
theorem dX7_readLine_27 : decode cX7_readLine 27 = .ok (.ireturn, 1) := by decide +kernel
theorem dX7_readLine_28 : decode cX7_readLine 28 = .ok (.aload_n 0, 1) := by decide +kernel
theorem dX7_readLine_29 : decode cX7_readLine 29 = .ok (.ldc 88, 2) := by decide +kernel
theorem dX7_readLine_31 : decode cX7_readLine 31 = .ok (.invokevirtual 76, 3) := by decide +kernel
theorem dX7_readLine_34 : decode cX7_readLine 34 = .ok (.ifCond .eq 49, 3) := by decide +kernel
theorem dX7_readLine_37 : decode cX7_readLine 37 = .ok (.aload_n 0, 1) := by decide +kernel
theorem dX7_readLine_38 : decode cX7_readLine 38 = .ok (.aload_n 0, 1) := by decide +kernel
theorem dX7_readLine_39 : decode cX7_readLine 39 = .ok (.getfield 15, 3) := by decide +kernel
theorem dX7_readLine_42 : decode cX7_readLine 42 = .ok (.getfield 23, 3) := by decide +kernel
theorem dX7_readLine_45 : decode cX7_readLine 45 = .ok (.putfield 29, 3) := by decide +kernel
theorem dX7_readLine_48 : decode cX7_readLine 48 = .ok (.aload_n 0, 1) := by decide +kernel
theorem dX7_readLine_49 : decode cX7_readLine 49 = .ok (.getfield 29, 3) := by decide +kernel
theorem dX7_readLine_52 : decode cX7_readLine 52 = .ok (.iconst 0, 1) := by decide +kernel
theorem dX7_readLine_53 : decode cX7_readLine 53 = .ok (.putfield 90, 3) := by decide +kernel
theorem dX7_readLine_56 : decode cX7_readLine 56 = .ok (.aload_n 0, 1) := by decide +kernel
theorem dX7_readLine_57 : decode cX7_readLine 57 = .ok (.invokevirtual 57, 3) := by decide +kernel
theorem dX7_readLine_60 : decode cX7_readLine 60 = .ok (.aload_n 0, 1) := by decide +kernel
theorem dX7_readLine_61 : decode cX7_readLine 61 = .ok (.bipush 58, 2) := by decide +kernel
theorem dX7_readLine_63 : decode cX7_readLine 63 = .ok (.invokevirtual 67, 3) := by decide +kernel
theorem dX7_readLine_66 : decode cX7_readLine 66 = .ok (.ifCond .eq 15, 3) := by decide +kernel
theorem dX7_readLine_69 : decode cX7_readLine 69 = .ok (.aload_n 0, 1) := by decide +kernel
theorem dX7_readLine_70 : decode cX7_readLine 70 = .ok (.iconst 0, 1) := by decide +kernel
theorem dX7_readLine_71 : decode cX7_readLine 71 = .ok (.invokevirtual 95, 3) := by decide +kernel
theorem dX7_readLine_74 : decode cX7_readLine 74 = .ok (.ifCond .eq 7, 3) := by decide +kernel
theorem dX7_readLine_77 : decode cX7_readLine 77 = .ok (.iconst 1, 1) := by decide +kernel
theorem dX7_readLine_78 : decode cX7_readLine 78 = .ok (.goto 4, 3) := by decide +kernel
theorem dX7_readLine_81 : decode cX7_readLine 81 = .ok (.iconst 0, 1) := by decide +kernel
theorem dX7_readLine_82 : decode cX7_readLine 82 = .ok (.ireturn, 1) := by decide +kernel
theorem dX7_readLine_83 : decode cX7_readLine 83 = .ok (.aload_n 0, 1) := by decide +kernel
theorem dX7_readLine_84 : decode cX7_readLine 84 = .ok (.ldc 98, 2) := by decide +kernel
theorem dX7_readLine_86 : decode cX7_readLine 86 = .ok (.invokevirtual 76, 3) := by decide +kernel
theorem dX7_readLine_89 : decode cX7_readLine 89 = .ok (.ifCond .eq 49, 3) := by decide +kernel
theorem dX7_readLine_92 : decode cX7_readLine 92 = .ok (.aload_n 0, 1) := by decide +kernel
theorem dX7_readLine_93 : decode cX7_readLine 93 = .ok (.aload_n 0, 1) := by decide +kernel
theorem dX7_readLine_94 : decode cX7_readLine 94 = .ok (.getfield 15, 3) := by decide +kernel
theorem dX7_readLine_97 : decode cX7_readLine 97 = .ok (.getfield 100, 3) := by decide +kernel
theorem dX7_readLine_100 : decode cX7_readLine 100 = .ok (.putfield 29, 3) := by decide +kernel
theorem dX7_readLine_103 : decode cX7_readLine 103 = .ok (.aload_n 0, 1) := by decide +kernel
theorem dX7_readLine_104 : decode cX7_readLine 104 = .ok (.getfield 29, 3) := by decide +kernel
theorem dX7_readLine_107 : decode cX7_readLine 107 = .ok (.iconst 0, 1) := by decide +kernel
theorem dX7_readLine_108 : decode cX7_readLine 108 = .ok (.putfield 90, 3) := by decide +kernel
theorem dX7_readLine_111 : decode cX7_readLine 111 = .ok (.aload_n 0, 1) := by decide +kernel
theorem dX7_readLine_112 : decode cX7_readLine 112 = .ok (.invokevirtual 57, 3) := by decide +kernel
theorem dX7_readLine_115 : decode cX7_readLine 115 = .ok (.aload_n 0, 1) := by decide +kernel
theorem dX7_readLine_116 : decode cX7_readLine 116 = .ok (.bipush 58, 2) := by decide +kernel
theorem dX7_readLine_118 : decode cX7_readLine 118 = .ok (.invokevirtual 67, 3) := by decide +kernel
theorem dX7_readLine_121 : decode cX7_readLine 121 = .ok (.ifCond .eq 15, 3) := by decide +kernel
theorem dX7_readLine_124 : decode cX7_readLine 124 = .ok (.aload_n 0, 1) := by decide +kernel
theorem dX7_readLine_125 : decode cX7_readLine 125 = .ok (.iconst 0, 1) := by decide +kernel
theorem dX7_readLine_126 : decode cX7_readLine 126 = .ok (.invokevirtual 103, 3) := by decide +kernel
theorem dX7_readLine_129 : decode cX7_readLine 129 = .ok (.ifCond .eq 7, 3) := by decide +kernel
theorem dX7_readLine_132 : decode cX7_readLine 132 = .ok (.iconst 1, 1) := by decide +kernel
theorem dX7_readLine_133 : decode cX7_readLine 133 = .ok (.goto 4, 3) := by decide +kernel
theorem dX7_readLine_136 : decode cX7_readLine 136 = .ok (.iconst 0, 1) := by decide +kernel
theorem dX7_readLine_137 : decode cX7_readLine 137 = .ok (.ireturn, 1) := by decide +kernel
theorem dX7_readLine_138 : decode cX7_readLine 138 = .ok (.aload_n 0, 1) := by decide +kernel
theorem dX7_readLine_139 : decode cX7_readLine 139 = .ok (.ldc 106, 2) := by decide +kernel
theorem dX7_readLine_141 : decode cX7_readLine 141 = .ok (.invokevirtual 76, 3) := by decide +kernel
theorem dX7_readLine_144 : decode cX7_readLine 144 = .ok (.ifCond .eq 35, 3) := by decide +kernel
theorem dX7_readLine_147 : decode cX7_readLine 147 = .ok (.aload_n 0, 1) := by decide +kernel
theorem dX7_readLine_148 : decode cX7_readLine 148 = .ok (.invokevirtual 57, 3) := by decide +kernel
theorem dX7_readLine_151 : decode cX7_readLine 151 = .ok (.aload_n 0, 1) := by decide +kernel
theorem dX7_readLine_152 : decode cX7_readLine 152 = .ok (.getfield 15, 3) := by decide +kernel
theorem dX7_readLine_155 : decode cX7_readLine 155 = .ok (.aload_n 0, 1) := by decide +kernel
theorem dX7_readLine_156 : decode cX7_readLine 156 = .ok (.iconst 0, 1) := by decide +kernel
theorem dX7_readLine_157 : decode cX7_readLine 157 = .ok (.sipush 999, 3) := by decide +kernel
theorem dX7_readLine_160 : decode cX7_readLine 160 = .ok (.invokevirtual 108, 3) := by decide +kernel
theorem dX7_readLine_163 : decode cX7_readLine 163 = .ok (.putfield 111, 3) := by decide +kernel
theorem dX7_readLine_166 : decode cX7_readLine 166 = .ok (.aload_n 0, 1) := by decide +kernel
theorem dX7_readLine_167 : decode cX7_readLine 167 = .ok (.getfield 45, 3) := by decide +kernel
theorem dX7_readLine_170 : decode cX7_readLine 170 = .ok (.ifCond .ne 7, 3) := by decide +kernel
theorem dX7_readLine_173 : decode cX7_readLine 173 = .ok (.iconst 1, 1) := by decide +kernel
theorem dX7_readLine_174 : decode cX7_readLine 174 = .ok (.goto 4, 3) := by decide +kernel
theorem dX7_readLine_177 : decode cX7_readLine 177 = .ok (.iconst 0, 1) := by decide +kernel
theorem dX7_readLine_178 : decode cX7_readLine 178 = .ok (.ireturn, 1) := by decide +kernel
theorem dX7_readLine_179 : decode cX7_readLine 179 = .ok (.aload_n 0, 1) := by decide +kernel
theorem dX7_readLine_180 : decode cX7_readLine 180 = .ok (.ldc 113, 2) := by decide +kernel
theorem dX7_readLine_182 : decode cX7_readLine 182 = .ok (.invokevirtual 76, 3) := by decide +kernel
theorem dX7_readLine_185 : decode cX7_readLine 185 = .ok (.ifCond .eq 34, 3) := by decide +kernel
theorem dX7_readLine_188 : decode cX7_readLine 188 = .ok (.aload_n 0, 1) := by decide +kernel
theorem dX7_readLine_189 : decode cX7_readLine 189 = .ok (.invokevirtual 57, 3) := by decide +kernel
theorem dX7_readLine_192 : decode cX7_readLine 192 = .ok (.aload_n 0, 1) := by decide +kernel
theorem dX7_readLine_193 : decode cX7_readLine 193 = .ok (.getfield 15, 3) := by decide +kernel
theorem dX7_readLine_196 : decode cX7_readLine 196 = .ok (.aload_n 0, 1) := by decide +kernel
theorem dX7_readLine_197 : decode cX7_readLine 197 = .ok (.iconst 1, 1) := by decide +kernel
theorem dX7_readLine_198 : decode cX7_readLine 198 = .ok (.bipush 14, 2) := by decide +kernel
theorem dX7_readLine_200 : decode cX7_readLine 200 = .ok (.invokevirtual 108, 3) := by decide +kernel
theorem dX7_readLine_203 : decode cX7_readLine 203 = .ok (.putfield 115, 3) := by decide +kernel
theorem dX7_readLine_206 : decode cX7_readLine 206 = .ok (.aload_n 0, 1) := by decide +kernel
theorem dX7_readLine_207 : decode cX7_readLine 207 = .ok (.getfield 45, 3) := by decide +kernel
theorem dX7_readLine_210 : decode cX7_readLine 210 = .ok (.ifCond .ne 7, 3) := by decide +kernel
theorem dX7_readLine_213 : decode cX7_readLine 213 = .ok (.iconst 1, 1) := by decide +kernel
theorem dX7_readLine_214 : decode cX7_readLine 214 = .ok (.goto 4, 3) := by decide +kernel
theorem dX7_readLine_217 : decode cX7_readLine 217 = .ok (.iconst 0, 1) := by decide +kernel
theorem dX7_readLine_218 : decode cX7_readLine 218 = .ok (.ireturn, 1) := by decide +kernel
theorem dX7_readLine_219 : decode cX7_readLine 219 = .ok (.aload_n 0, 1) := by decide +kernel
theorem dX7_readLine_220 : decode cX7_readLine 220 = .ok (.invokevirtual 117, 3) := by decide +kernel
theorem dX7_readLine_223 : decode cX7_readLine 223 = .ok (.ireturn, 1) := by decide +kernel
set_option maxRecDepth 100000 in
set_option maxHeartbeats 4000000 in
theorem v_X7_readLine {l : Launch} {p : Program} {e : Env} {s : State} {mt : MethodId} {args : Array Value} {below : List Frame} {meth : Method} {c : Code} {A : Nat → Prop} {ad0 : Nat → Nat} {G : Gt} {N : Nat} (C : Cx G p s mt args meth c RX7 cX7_readLine 1 (some .boolean) "readLine" A) (hN : 109 ≤ N) (m : Mem) : V G SX oI l p e s mt args below meth c 1 72 A ad0 N N RX N RX 0 [(0, .ref 39)] [] m (X7_readLine   m) := by
  rw [X7_readLine]
  refine V.aload_n (pc := 0) C dX7_readLine_0 0 rfl ?_
  refine V.ldcs (pc := 1) (k := 1) C (by decide) (by decide) dX7_readLine_1 ?_
  refine V.callV (pc := 3) (st := []) C (c_X7_isWord l hN 1 (by decide) m) obI ck_X7_isWord ml_RX7_76 rfl rfl sX39 (kX39 hN) rfl rfl (Nat.le_of_ble_eq_true rfl) ⟨by decide, by decide⟩ dX7_readLine_3 (fun r_1 m_2 _ => ?_)
  refine V.if_eq (pc := 6) C dX7_readLine_6 14 (by decide) (fun _ => ?_) (fun _ => ?_)
  · refine V.aload_n (pc := 14) C dX7_readLine_14 0 rfl ?_
    refine V.ldcs (pc := 15) (k := 3) C (by decide) (by decide) dX7_readLine_15 ?_
    refine V.callV (pc := 17) (st := []) C (c_X7_isWord l hN 3 (by decide) m_2) obI ck_X7_isWord ml_RX7_76 rfl rfl sX39 (kX39 hN) rfl rfl (Nat.le_of_ble_eq_true rfl) ⟨by decide, by decide⟩ dX7_readLine_17 (fun r_3 m_4 _ => ?_)
    refine V.if_eq (pc := 20) C dX7_readLine_20 28 (by decide) (fun _ => ?_) (fun _ => ?_)
    · refine V.aload_n (pc := 28) C dX7_readLine_28 0 rfl ?_
      refine V.ldcs (pc := 29) (k := 7) C (by decide) (by decide) dX7_readLine_29 ?_
      refine V.callV (pc := 31) (st := []) C (c_X7_isWord l hN 7 (by decide) m_4) obI ck_X7_isWord ml_RX7_76 rfl rfl sX39 (kX39 hN) rfl rfl (Nat.le_of_ble_eq_true rfl) ⟨by decide, by decide⟩ dX7_readLine_31 (fun r_5 m_6 _ => ?_)
      refine V.if_eq (pc := 34) C dX7_readLine_34 83 (by decide) (fun _ => ?_) (fun _ => ?_)
      · refine V.aload_n (pc := 83) C dX7_readLine_83 0 rfl ?_
        refine V.ldcs (pc := 84) (k := 15) C (by decide) (by decide) dX7_readLine_84 ?_
        refine V.callV (pc := 86) (st := []) C (c_X7_isWord l hN 15 (by decide) m_6) obI ck_X7_isWord ml_RX7_76 rfl rfl sX39 (kX39 hN) rfl rfl (Nat.le_of_ble_eq_true rfl) ⟨by decide, by decide⟩ dX7_readLine_86 (fun r_7 m_8 _ => ?_)
        refine V.if_eq (pc := 89) C dX7_readLine_89 138 (by decide) (fun _ => ?_) (fun _ => ?_)
        · refine V.aload_n (pc := 138) C dX7_readLine_138 0 rfl ?_
          refine V.ldcs (pc := 139) (k := 19) C (by decide) (by decide) dX7_readLine_139 ?_
          refine V.callV (pc := 141) (st := []) C (c_X7_isWord l hN 19 (by decide) m_8) obI ck_X7_isWord ml_RX7_76 rfl rfl sX39 (kX39 hN) rfl rfl (Nat.le_of_ble_eq_true rfl) ⟨by decide, by decide⟩ dX7_readLine_141 (fun r_9 m_10 _ => ?_)
          refine V.if_eq (pc := 144) C dX7_readLine_144 179 (by decide) (fun _ => ?_) (fun _ => ?_)
          · refine V.aload_n (pc := 179) C dX7_readLine_179 0 rfl ?_
            refine V.ldcs (pc := 180) (k := 20) C (by decide) (by decide) dX7_readLine_180 ?_
            refine V.callV (pc := 182) (st := []) C (c_X7_isWord l hN 20 (by decide) m_10) obI ck_X7_isWord ml_RX7_76 rfl rfl sX39 (kX39 hN) rfl rfl (Nat.le_of_ble_eq_true rfl) ⟨by decide, by decide⟩ dX7_readLine_182 (fun r_11 m_12 _ => ?_)
            refine V.if_eq (pc := 185) C dX7_readLine_185 219 (by decide) (fun _ => ?_) (fun _ => ?_)
            · refine V.aload_n (pc := 219) C dX7_readLine_219 0 rfl ?_
              refine V.callV (pc := 220) (st := []) C (c_X7_refuse l hN m_12) obI ck_X7_refuse ml_RX7_117 rfl rfl sX39 (kX39 hN) rfl rfl (Nat.le_of_ble_eq_true rfl) ⟨by decide, by decide⟩ dX7_readLine_220 (fun r_13 m_14 _ => ?_)
              exact V.bret C dX7_readLine_223
            · refine V.aload_n (pc := 188) C dX7_readLine_188 0 rfl ?_
              refine V.callV (pc := 189) (st := []) C (c_X7_next l hN m_12) obV ck_X7_next ml_RX7_57 rfl rfl sX39 (kX39 hN) rfl rfl (Nat.le_of_ble_eq_true rfl) ⟨by decide, by decide⟩ dX7_readLine_189 (fun r_15 m_16 _ => ?_)
              refine V.aload_n (pc := 192) C dX7_readLine_192 0 rfl ?_
              refine V.getr (pc := 193) C fl_RX7_15 sX39 (kX39 hN) rfl rX39_1 dX7_readLine_193 ?_
              refine V.aload_n (pc := 196) C dX7_readLine_196 0 rfl ?_
              refine V.iconst (pc := 197) C dX7_readLine_197 (v := 1) (by decide) ?_
              refine V.bipush (pc := 198) C dX7_readLine_198 (v := 14) (by decide) ?_
              refine V.callV (pc := 200) (st := [.ref 9]) C (c_X7_readNumber l hN 1 14 m_16) obI ck_X7_readNumber ml_RX7_108 rfl rfl sX39 (kX39 hN) rfl rfl (Nat.le_of_ble_eq_true rfl) ⟨by decide, by decide⟩ dX7_readLine_200 (fun r_17 m_18 _ => ?_)
              refine V.puti (pc := 203) C fp_RX7_115 sX9 (kX9 hN) rfl dX7_readLine_203 ?_
              refine V.ltm (fun m_19 => ?_)
              refine V.aload_n (pc := 206) C dX7_readLine_206 0 rfl ?_
              refine V.geti (pc := 207) C fl_RX7_45 sX39 (kX39 hN) rfl dX7_readLine_207 ?_
              refine V.if_ne (pc := 210) C dX7_readLine_210 217 (by decide) (fun _ => ?_) (fun _ => ?_)
              · refine V.iconst (pc := 217) C dX7_readLine_217 (v := 0) (by decide) ?_
                exact V.zret rfl C dX7_readLine_218
              · refine V.iconst (pc := 213) C dX7_readLine_213 (v := 1) (by decide) ?_
                refine V.goto (pc := 214) C dX7_readLine_214 218 (by decide) ?_
                exact V.zret rfl C dX7_readLine_218
          · refine V.aload_n (pc := 147) C dX7_readLine_147 0 rfl ?_
            refine V.callV (pc := 148) (st := []) C (c_X7_next l hN m_10) obV ck_X7_next ml_RX7_57 rfl rfl sX39 (kX39 hN) rfl rfl (Nat.le_of_ble_eq_true rfl) ⟨by decide, by decide⟩ dX7_readLine_148 (fun r_20 m_21 _ => ?_)
            refine V.aload_n (pc := 151) C dX7_readLine_151 0 rfl ?_
            refine V.getr (pc := 152) C fl_RX7_15 sX39 (kX39 hN) rfl rX39_1 dX7_readLine_152 ?_
            refine V.aload_n (pc := 155) C dX7_readLine_155 0 rfl ?_
            refine V.iconst (pc := 156) C dX7_readLine_156 (v := 0) (by decide) ?_
            refine V.sipush (pc := 157) C dX7_readLine_157 (v := 999) (by decide) ?_
            refine V.callV (pc := 160) (st := [.ref 9]) C (c_X7_readNumber l hN 0 999 m_21) obI ck_X7_readNumber ml_RX7_108 rfl rfl sX39 (kX39 hN) rfl rfl (Nat.le_of_ble_eq_true rfl) ⟨by decide, by decide⟩ dX7_readLine_160 (fun r_22 m_23 _ => ?_)
            refine V.puti (pc := 163) C fp_RX7_111 sX9 (kX9 hN) rfl dX7_readLine_163 ?_
            refine V.ltm (fun m_24 => ?_)
            refine V.aload_n (pc := 166) C dX7_readLine_166 0 rfl ?_
            refine V.geti (pc := 167) C fl_RX7_45 sX39 (kX39 hN) rfl dX7_readLine_167 ?_
            refine V.if_ne (pc := 170) C dX7_readLine_170 177 (by decide) (fun _ => ?_) (fun _ => ?_)
            · refine V.iconst (pc := 177) C dX7_readLine_177 (v := 0) (by decide) ?_
              exact V.zret rfl C dX7_readLine_178
            · refine V.iconst (pc := 173) C dX7_readLine_173 (v := 1) (by decide) ?_
              refine V.goto (pc := 174) C dX7_readLine_174 178 (by decide) ?_
              exact V.zret rfl C dX7_readLine_178
        · refine V.aload_n (pc := 92) C dX7_readLine_92 0 rfl ?_
          refine V.aload_n (pc := 93) C dX7_readLine_93 0 rfl ?_
          refine V.getr (pc := 94) C fl_RX7_15 sX39 (kX39 hN) rfl rX39_1 dX7_readLine_94 ?_
          refine V.getr (pc := 97) C fl_RX7_100 sX9 (kX9 hN) rfl rX9_8 dX7_readLine_97 ?_
          refine V.putd (pc := 100) C fp_RX7_29 sX39 (kX39 hN) rfl rfl rfl dX7_readLine_100 ?_
          refine V.ltm (fun m_25 => ?_)
          refine V.aload_n (pc := 103) C dX7_readLine_103 0 rfl ?_
          refine V.ck (fun h_27 => ?_)
          refine V.getd (pc := 104) C fl_RX7_29 sX39 (kX39 hN) rfl (okl_d h_27) dX7_readLine_104 ?_
          refine V.ltr (fun b_26 eb_26 => ?_)
          have hb_26 : isLaw N b_26 := by rw [eb_26]; exact okl_law hN h_27
          refine V.iconst (pc := 107) C dX7_readLine_107 (v := 0) (by decide) ?_
          refine V.puti (pc := 108) C fp_RX7_90 hb_26.s hb_26.k rfl dX7_readLine_108 ?_
          refine V.ltm (fun m_28 => ?_)
          refine V.aload_n (pc := 111) C dX7_readLine_111 0 rfl ?_
          refine V.callV (pc := 112) (st := []) C (c_X7_next l hN m_28) obV ck_X7_next ml_RX7_57 rfl rfl sX39 (kX39 hN) rfl rfl (Nat.le_of_ble_eq_true rfl) ⟨by decide, by decide⟩ dX7_readLine_112 (fun r_29 m_30 _ => ?_)
          refine V.aload_n (pc := 115) C dX7_readLine_115 0 rfl ?_
          refine V.bipush (pc := 116) C dX7_readLine_116 (v := 58) (by decide) ?_
          refine V.callV (pc := 118) (st := []) C (c_X7_pass l hN 58 m_30) obI ck_X7_pass ml_RX7_67 rfl rfl sX39 (kX39 hN) rfl rfl (Nat.le_of_ble_eq_true rfl) ⟨by decide, by decide⟩ dX7_readLine_118 (fun r_31 m_32 _ => ?_)
          refine V.if_eq (pc := 121) C dX7_readLine_121 136 (by decide) (fun _ => ?_) (fun _ => ?_)
          · refine V.iconst (pc := 136) C dX7_readLine_136 (v := 0) (by decide) ?_
            exact V.zret rfl C dX7_readLine_137
          · refine V.aload_n (pc := 124) C dX7_readLine_124 0 rfl ?_
            refine V.iconst (pc := 125) C dX7_readLine_125 (v := 0) (by decide) ?_
            refine V.callV (pc := 126) (st := []) C (c_X7_readTruth_top l hN 0 m_32) obI ck_X7_readTruth ml_RX7_103 rfl rfl sX39 (kX39 hN) rfl rfl (Nat.le_of_ble_eq_true rfl) ⟨by decide, by decide⟩ dX7_readLine_126 (fun r_33 m_34 _ => ?_)
            refine V.if_eq (pc := 129) C dX7_readLine_129 136 (by decide) (fun _ => ?_) (fun _ => ?_)
            · refine V.iconst (pc := 136) C dX7_readLine_136 (v := 0) (by decide) ?_
              exact V.zret rfl C dX7_readLine_137
            · refine V.iconst (pc := 132) C dX7_readLine_132 (v := 1) (by decide) ?_
              refine V.goto (pc := 133) C dX7_readLine_133 137 (by decide) ?_
              exact V.zret rfl C dX7_readLine_137
      · refine V.aload_n (pc := 37) C dX7_readLine_37 0 rfl ?_
        refine V.aload_n (pc := 38) C dX7_readLine_38 0 rfl ?_
        refine V.getr (pc := 39) C fl_RX7_15 sX39 (kX39 hN) rfl rX39_1 dX7_readLine_39 ?_
        refine V.getr (pc := 42) C fl_RX7_23 sX9 (kX9 hN) rfl rX9_7 dX7_readLine_42 ?_
        refine V.putd (pc := 45) C fp_RX7_29 sX39 (kX39 hN) rfl rfl rfl dX7_readLine_45 ?_
        refine V.ltm (fun m_35 => ?_)
        refine V.aload_n (pc := 48) C dX7_readLine_48 0 rfl ?_
        refine V.ck (fun h_37 => ?_)
        refine V.getd (pc := 49) C fl_RX7_29 sX39 (kX39 hN) rfl (okl_d h_37) dX7_readLine_49 ?_
        refine V.ltr (fun b_36 eb_36 => ?_)
        have hb_36 : isLaw N b_36 := by rw [eb_36]; exact okl_law hN h_37
        refine V.iconst (pc := 52) C dX7_readLine_52 (v := 0) (by decide) ?_
        refine V.puti (pc := 53) C fp_RX7_90 hb_36.s hb_36.k rfl dX7_readLine_53 ?_
        refine V.ltm (fun m_38 => ?_)
        refine V.aload_n (pc := 56) C dX7_readLine_56 0 rfl ?_
        refine V.callV (pc := 57) (st := []) C (c_X7_next l hN m_38) obV ck_X7_next ml_RX7_57 rfl rfl sX39 (kX39 hN) rfl rfl (Nat.le_of_ble_eq_true rfl) ⟨by decide, by decide⟩ dX7_readLine_57 (fun r_39 m_40 _ => ?_)
        refine V.aload_n (pc := 60) C dX7_readLine_60 0 rfl ?_
        refine V.bipush (pc := 61) C dX7_readLine_61 (v := 58) (by decide) ?_
        refine V.callV (pc := 63) (st := []) C (c_X7_pass l hN 58 m_40) obI ck_X7_pass ml_RX7_67 rfl rfl sX39 (kX39 hN) rfl rfl (Nat.le_of_ble_eq_true rfl) ⟨by decide, by decide⟩ dX7_readLine_63 (fun r_41 m_42 _ => ?_)
        refine V.if_eq (pc := 66) C dX7_readLine_66 81 (by decide) (fun _ => ?_) (fun _ => ?_)
        · refine V.iconst (pc := 81) C dX7_readLine_81 (v := 0) (by decide) ?_
          exact V.zret rfl C dX7_readLine_82
        · refine V.aload_n (pc := 69) C dX7_readLine_69 0 rfl ?_
          refine V.iconst (pc := 70) C dX7_readLine_70 (v := 0) (by decide) ?_
          refine V.callV (pc := 71) (st := []) C (c_X7_readSum_top l hN 0 m_42) obI ck_X7_readSum ml_RX7_95 rfl rfl sX39 (kX39 hN) rfl rfl (Nat.le_of_ble_eq_true rfl) ⟨by decide, by decide⟩ dX7_readLine_71 (fun r_43 m_44 _ => ?_)
          refine V.if_eq (pc := 74) C dX7_readLine_74 81 (by decide) (fun _ => ?_) (fun _ => ?_)
          · refine V.iconst (pc := 81) C dX7_readLine_81 (v := 0) (by decide) ?_
            exact V.zret rfl C dX7_readLine_82
          · refine V.iconst (pc := 77) C dX7_readLine_77 (v := 1) (by decide) ?_
            refine V.goto (pc := 78) C dX7_readLine_78 82 (by decide) ?_
            exact V.zret rfl C dX7_readLine_82
    · refine V.aload_n (pc := 23) C dX7_readLine_23 0 rfl ?_
      refine V.callV (pc := 24) (st := []) C (c_X7_readPerson l hN m_4) obI ck_X7_readPerson ml_RX7_85 rfl rfl sX39 (kX39 hN) rfl rfl (Nat.le_of_ble_eq_true rfl) ⟨by decide, by decide⟩ dX7_readLine_24 (fun r_45 m_46 _ => ?_)
      exact V.bret C dX7_readLine_27
  · refine V.aload_n (pc := 9) C dX7_readLine_9 0 rfl ?_
    refine V.callV (pc := 10) (st := []) C (c_X7_readThing l hN m_2) obI ck_X7_readThing ml_RX7_80 rfl rfl sX39 (kX39 hN) rfl rfl (Nat.le_of_ble_eq_true rfl) ⟨by decide, by decide⟩ dX7_readLine_10 (fun r_47 m_48 _ => ?_)
    exact V.bret C dX7_readLine_13
theorem c_X7_readLine (l : Launch) {N : Nat} (hN : 109 ≤ N) (m : Mem) : Ct l yX7_readLine cX7_readLine 1 (some .boolean) 72 SX oI N N RX RX [.ref 39] m (X7_readLine   m) :=
  Ct.of (own := RX7) (nm := "readLine") (by decide) rfl rfl (Nat.le_of_ble_eq_true rfl) (fun _ _ _ _ _ _ _ _ _ _ _ C => v_X7_readLine C hN  m)
theorem dX7_readText_0 : decode cX7_readText 0 = .ok (.aload_n 0, 1) := by decide +kernel
theorem dX7_readText_1 : decode cX7_readText 1 = .ok (.iload_n 1, 1) := by decide +kernel
theorem dX7_readText_2 : decode cX7_readText 2 = .ok (.aload_n 0, 1) := by decide +kernel
theorem dX7_readText_3 : decode cX7_readText 3 = .ok (.getfield 9, 3) := by decide +kernel
theorem dX7_readText_6 : decode cX7_readText 6 = .ok (.arraylength, 1) := by decide +kernel
theorem dX7_readText_7 : decode cX7_readText 7 = .ok (.invokestatic 36, 3) := by decide +kernel
theorem dX7_readText_10 : decode cX7_readText 10 = .ok (.putfield 42, 3) := by decide +kernel
theorem dX7_readText_13 : decode cX7_readText 13 = .ok (.aload_n 0, 1) := by decide +kernel
theorem dX7_readText_14 : decode cX7_readText 14 = .ok (.iconst 0, 1) := by decide +kernel
theorem dX7_readText_15 : decode cX7_readText 15 = .ok (.putfield 45, 3) := by decide +kernel
theorem dX7_readText_18 : decode cX7_readText 18 = .ok (.aload_n 0, 1) := by decide +kernel
theorem dX7_readText_19 : decode cX7_readText 19 = .ok (.iconst (-1), 1) := by decide +kernel
theorem dX7_readText_20 : decode cX7_readText 20 = .ok (.putfield 32, 3) := by decide +kernel
theorem dX7_readText_23 : decode cX7_readText 23 = .ok (.aload_n 0, 1) := by decide +kernel
theorem dX7_readText_24 : decode cX7_readText 24 = .ok (.getfield 15, 3) := by decide +kernel
theorem dX7_readText_27 : decode cX7_readText 27 = .ok (.invokevirtual 48, 3) := by decide +kernel
theorem dX7_readText_30 : decode cX7_readText 30 = .ok (.aload_n 0, 1) := by decide +kernel
theorem dX7_readText_31 : decode cX7_readText 31 = .ok (.getfield 19, 3) := by decide +kernel
theorem dX7_readText_34 : decode cX7_readText 34 = .ok (.invokevirtual 51, 3) := by decide +kernel
theorem dX7_readText_37 : decode cX7_readText 37 = .ok (.aload_n 0, 1) := by decide +kernel
theorem dX7_readText_38 : decode cX7_readText 38 = .ok (.iconst 0, 1) := by decide +kernel
theorem dX7_readText_39 : decode cX7_readText 39 = .ok (.putfield 54, 3) := by decide +kernel
theorem dX7_readText_42 : decode cX7_readText 42 = .ok (.aload_n 0, 1) := by decide +kernel
theorem dX7_readText_43 : decode cX7_readText 43 = .ok (.invokevirtual 57, 3) := by decide +kernel
theorem dX7_readText_46 : decode cX7_readText 46 = .ok (.iconst 1, 1) := by decide +kernel
theorem dX7_readText_47 : decode cX7_readText 47 = .ok (.istore_n 2, 1) := by decide +kernel
theorem dX7_readText_48 : decode cX7_readText 48 = .ok (.iconst 0, 1) := by decide +kernel
theorem dX7_readText_49 : decode cX7_readText 49 = .ok (.istore_n 3, 1) := by decide +kernel
theorem dX7_readText_50 : decode cX7_readText 50 = .ok (.iload_n 3, 1) := by decide +kernel
theorem dX7_readText_51 : decode cX7_readText 51 = .ok (.sipush 900, 3) := by decide +kernel
theorem dX7_readText_54 : decode cX7_readText 54 = .ok (.if_icmp .gt 55, 3) := by decide +kernel
theorem dX7_readText_57 : decode cX7_readText 57 = .ok (.iload_n 2, 1) := by decide +kernel
theorem dX7_readText_58 : decode cX7_readText 58 = .ok (.ifCond .eq 51, 3) := by decide +kernel
theorem dX7_readText_61 : decode cX7_readText 61 = .ok (.aload_n 0, 1) := by decide +kernel
theorem dX7_readText_62 : decode cX7_readText 62 = .ok (.getfield 60, 3) := by decide +kernel
theorem dX7_readText_65 : decode cX7_readText 65 = .ok (.ifCond .eq 44, 3) := by decide +kernel
theorem dX7_readText_68 : decode cX7_readText 68 = .ok (.aload_n 0, 1) := by decide +kernel
theorem dX7_readText_69 : decode cX7_readText 69 = .ok (.invokevirtual 63, 3) := by decide +kernel
theorem dX7_readText_72 : decode cX7_readText 72 = .ok (.ifCond .eq 16, 3) := by decide +kernel
theorem dX7_readText_75 : decode cX7_readText 75 = .ok (.aload_n 0, 1) := by decide +kernel
theorem dX7_readText_76 : decode cX7_readText 76 = .ok (.bipush 59, 2) := by decide +kernel
theorem dX7_readText_78 : decode cX7_readText 78 = .ok (.invokevirtual 67, 3) := by decide +kernel
theorem dX7_readText_81 : decode cX7_readText 81 = .ok (.ifCond .eq 7, 3) := by decide +kernel
theorem dX7_readText_84 : decode cX7_readText 84 = .ok (.iconst 1, 1) := by decide +kernel
theorem dX7_readText_85 : decode cX7_readText 85 = .ok (.goto 4, 3) := by decide +kernel
theorem dX7_readText_88 : decode cX7_readText 88 = .ok (.iconst 0, 1) := by decide +kernel
theorem dX7_readText_89 : decode cX7_readText 89 = .ok (.istore_n 2, 1) := by decide +kernel
theorem dX7_readText_90 : decode cX7_readText 90 = .ok (.aload_n 0, 1) := by decide +kernel
theorem dX7_readText_91 : decode cX7_readText 91 = .ok (.getfield 15, 3) := by decide +kernel
theorem dX7_readText_94 : decode cX7_readText 94 = .ok (.dup, 1) := by decide +kernel
theorem dX7_readText_95 : decode cX7_readText 95 = .ok (.getfield 71, 3) := by decide +kernel
theorem dX7_readText_98 : decode cX7_readText 98 = .ok (.iconst 1, 1) := by decide +kernel
theorem dX7_readText_99 : decode cX7_readText 99 = .ok (.iadd, 1) := by decide +kernel
theorem dX7_readText_100 : decode cX7_readText 100 = .ok (.putfield 71, 3) := by decide +kernel
theorem dX7_readText_103 : decode cX7_readText 103 = .ok (.iinc 3 1, 3) := by decide +kernel
theorem dX7_readText_106 : decode cX7_readText 106 = .ok (.goto (-56), 3) := by decide +kernel
theorem dX7_readText_109 : decode cX7_readText 109 = .ok (.return_, 1) := by decide +kernel
set_option maxRecDepth 100000 in
set_option maxHeartbeats 4000000 in
theorem v_X7_readText_b89 {l : Launch} {p : Program} {e : Env} {s : State} {mt : MethodId} {args : Array Value} {below : List Frame} {meth : Method} {c : Code} {A : Nat → Prop} {ad0 : Nat → Nat} {G : Gt} {N : Nat} (C : Cx G p s mt args meth c RX7 cX7_readText 4 none "readText" A) (hN : 109 ≤ N) (k50 : Int32 → Int32 → Mem → Option (Unit × Mem)) (h50 : ∀ (y2 : Int32) (y3 : Int32) (m : Mem), V G SX oV l p e s mt args below meth c 4 73 A ad0 N N RX N RX 50 [(0, .ref 39), (2, .int y2), (3, .int y3)] [] m (k50 y2 y3 m)) (y3 : Int32) (z0 : Int32) (m : Mem) : V G SX oV l p e s mt args below meth c 4 73 A ad0 N N RX N RX 89 [(0, .ref 39), (3, .int y3)] [.int z0] m (X7_readText_b89 k50 y3 z0 m) := by
  rw [X7_readText_b89]
  refine V.istore_n (pc := 89) C dX7_readText_89 (L2 := [(2, .int z0), (0, .ref 39), (3, .int y3)]) (by decide) rfl ?_
  refine V.aload_n (pc := 90) C dX7_readText_90 1 rfl ?_
  refine V.getr (pc := 91) C fl_RX7_15 sX39 (kX39 hN) rfl rX39_1 dX7_readText_91 ?_
  refine V.dup (pc := 94) C dX7_readText_94 rfl ?_
  refine V.geti (pc := 95) C fl_RX7_71 sX9 (kX9 hN) rfl dX7_readText_95 ?_
  refine V.iconst (pc := 98) C dX7_readText_98 (v := 1) (by decide) ?_
  refine V.iadd (pc := 99) C dX7_readText_99 ?_
  refine V.puti (pc := 100) C fp_RX7_71 sX9 (kX9 hN) rfl dX7_readText_100 ?_
  refine V.ltm (fun m_13 => ?_)
  refine V.iinc (pc := 103) C dX7_readText_103 (v := 1) (L2 := [(3, .int (y3 + 1)), (2, .int z0), (0, .ref 39)]) 2 rfl (by decide) (by decide) rfl ?_
  refine V.goto (pc := 106) C dX7_readText_106 50 (by decide) ?_
  refine V.wk [2, 1, 0] rfl ?_
  exact h50 z0 (y3 + 1) m_13
set_option maxRecDepth 100000 in
set_option maxHeartbeats 4000000 in
theorem v_X7_readText_b50 {l : Launch} {p : Program} {e : Env} {s : State} {mt : MethodId} {args : Array Value} {below : List Frame} {meth : Method} {c : Code} {A : Nat → Prop} {ad0 : Nat → Nat} {G : Gt} {N : Nat} (C : Cx G p s mt args meth c RX7 cX7_readText 4 none "readText" A) (hN : 109 ≤ N) : ∀ (n : Nat) (y2 : Int32) (y3 : Int32) (m : Mem), V G SX oV l p e s mt args below meth c 4 73 A ad0 N N RX N RX 50 [(0, .ref 39), (2, .int y2), (3, .int y3)] [] m (X7_readText_b50  n y2 y3 m) := by
  intro n
  induction n with
  | zero =>
    intro y2 y3 m
    rw [X7_readText_b50]
    exact V.nil
  | succ n ih =>
    intro y2 y3 m
    rw [X7_readText_b50]
    refine V.iload_n (pc := 50) C dX7_readText_50 2 rfl ?_
    refine V.sipush (pc := 51) C dX7_readText_51 (v := 900) (by decide) ?_
    refine V.icmp_gt (pc := 54) C dX7_readText_54 109 (by decide) (fun _ => ?_) (fun _ => ?_)
    · exact V.vret C dX7_readText_109
    · refine V.iload_n (pc := 57) C dX7_readText_57 1 rfl ?_
      refine V.if_eq (pc := 58) C dX7_readText_58 109 (by decide) (fun _ => ?_) (fun _ => ?_)
      · exact V.vret C dX7_readText_109
      · refine V.aload_n (pc := 61) C dX7_readText_61 0 rfl ?_
        refine V.geti (pc := 62) C fl_RX7_60 sX39 (kX39 hN) rfl dX7_readText_62 ?_
        refine V.if_eq (pc := 65) C dX7_readText_65 109 (by decide) (fun _ => ?_) (fun _ => ?_)
        · exact V.vret C dX7_readText_109
        · refine V.aload_n (pc := 68) C dX7_readText_68 0 rfl ?_
          refine V.callV (pc := 69) (st := []) C (c_X7_readLine l hN m) obI ck_X7_readLine ml_RX7_63 rfl rfl sX39 (kX39 hN) rfl rfl (Nat.le_of_ble_eq_true rfl) ⟨by decide, by decide⟩ dX7_readText_69 (fun r_11 m_12 _ => ?_)
          refine V.if_eq (pc := 72) C dX7_readText_72 88 (by decide) (fun _ => ?_) (fun _ => ?_)
          · refine V.iconst (pc := 88) C dX7_readText_88 (v := 0) (by decide) ?_
            refine V.wk [0, 2] rfl ?_
            exact v_X7_readText_b89 C hN (X7_readText_b50 n) ih y3 0 m_12
          · refine V.aload_n (pc := 75) C dX7_readText_75 0 rfl ?_
            refine V.bipush (pc := 76) C dX7_readText_76 (v := 59) (by decide) ?_
            refine V.callV (pc := 78) (st := []) C (c_X7_pass l hN 59 m_12) obI ck_X7_pass ml_RX7_67 rfl rfl sX39 (kX39 hN) rfl rfl (Nat.le_of_ble_eq_true rfl) ⟨by decide, by decide⟩ dX7_readText_78 (fun r_14 m_15 _ => ?_)
            refine V.if_eq (pc := 81) C dX7_readText_81 88 (by decide) (fun _ => ?_) (fun _ => ?_)
            · refine V.iconst (pc := 88) C dX7_readText_88 (v := 0) (by decide) ?_
              refine V.wk [0, 2] rfl ?_
              exact v_X7_readText_b89 C hN (X7_readText_b50 n) ih y3 0 m_15
            · refine V.iconst (pc := 84) C dX7_readText_84 (v := 1) (by decide) ?_
              refine V.goto (pc := 85) C dX7_readText_85 89 (by decide) ?_
              refine V.wk [0, 2] rfl ?_
              exact v_X7_readText_b89 C hN (X7_readText_b50 n) ih y3 1 m_15
set_option maxRecDepth 100000 in
set_option maxHeartbeats 4000000 in
theorem v_X7_readText {l : Launch} {p : Program} {e : Env} {s : State} {mt : MethodId} {args : Array Value} {below : List Frame} {meth : Method} {c : Code} {A : Nat → Prop} {ad0 : Nat → Nat} {G : Gt} {N : Nat} (C : Cx G p s mt args meth c RX7 cX7_readText 4 none "readText" A) (hN : 109 ≤ N) (x1 : Int32) (m : Mem) : V G SX oV l p e s mt args below meth c 4 73 A ad0 N N RX N RX 0 [(0, .ref 39), (1, .int x1)] [] m (X7_readText  x1 m) := by
  rw [X7_readText]
  refine V.aload_n (pc := 0) C dX7_readText_0 0 rfl ?_
  refine V.iload_n (pc := 1) C dX7_readText_1 1 rfl ?_
  refine V.aload_n (pc := 2) C dX7_readText_2 0 rfl ?_
  refine V.getr (pc := 3) C fl_RX7_9 sX39 (kX39 hN) rfl rX39_0 dX7_readText_3 ?_
  refine V.alen (pc := 6) (v := 900) C sX1 (by decide) (kX1 hN) rfl dX7_readText_6 ?_
  refine V.mmin (pc := 7) (st := [.ref 39]) C ml_RX7_36 mt_min_s mt_i mt_min_c (by decide) (Nat.le_of_ble_eq_true rfl) dX7_readText_7 ?_
  refine V.puti (pc := 10) C fp_RX7_42 sX39 (kX39 hN) rfl dX7_readText_10 ?_
  refine V.ltm (fun m_1 => ?_)
  refine V.aload_n (pc := 13) C dX7_readText_13 0 rfl ?_
  refine V.iconst (pc := 14) C dX7_readText_14 (v := 0) (by decide) ?_
  refine V.puti (pc := 15) C fp_RX7_45 sX39 (kX39 hN) rfl dX7_readText_15 ?_
  refine V.ltm (fun m_2 => ?_)
  refine V.aload_n (pc := 18) C dX7_readText_18 0 rfl ?_
  refine V.iconst (pc := 19) C dX7_readText_19 (v := (-1)) (by decide) ?_
  refine V.puti (pc := 20) C fp_RX7_32 sX39 (kX39 hN) rfl dX7_readText_20 ?_
  refine V.ltm (fun m_3 => ?_)
  refine V.aload_n (pc := 23) C dX7_readText_23 0 rfl ?_
  refine V.getr (pc := 24) C fl_RX7_15 sX39 (kX39 hN) rfl rX39_1 dX7_readText_24 ?_
  refine V.callV (pc := 27) (st := []) C (c_X8_clear l hN 9 (iX9 hN) m_3) obV ck_X8_clear ml_RX7_48 rfl rfl sX9 (kX9 hN) rfl rfl (Nat.le_of_ble_eq_true rfl) ⟨by decide, by decide⟩ dX7_readText_27 (fun r_4 m_5 _ => ?_)
  refine V.aload_n (pc := 30) C dX7_readText_30 0 rfl ?_
  refine V.getr (pc := 31) C fl_RX7_19 sX39 (kX39 hN) rfl rX39_2 dX7_readText_31 ?_
  refine V.callV (pc := 34) (st := []) C (c_X5_clear l hN 16 (iX16 hN) m_5) obV ck_X5_clear ml_RX7_51 rfl rfl sX16 (kX16 hN) rfl rfl (Nat.le_of_ble_eq_true rfl) ⟨by decide, by decide⟩ dX7_readText_34 (fun r_6 m_7 _ => ?_)
  refine V.aload_n (pc := 37) C dX7_readText_37 0 rfl ?_
  refine V.iconst (pc := 38) C dX7_readText_38 (v := 0) (by decide) ?_
  refine V.puti (pc := 39) C fp_RX7_54 sX39 (kX39 hN) rfl dX7_readText_39 ?_
  refine V.ltm (fun m_8 => ?_)
  refine V.aload_n (pc := 42) C dX7_readText_42 0 rfl ?_
  refine V.callV (pc := 43) (st := []) C (c_X7_next l hN m_8) obV ck_X7_next ml_RX7_57 rfl rfl sX39 (kX39 hN) rfl rfl (Nat.le_of_ble_eq_true rfl) ⟨by decide, by decide⟩ dX7_readText_43 (fun r_9 m_10 _ => ?_)
  refine V.iconst (pc := 46) C dX7_readText_46 (v := 1) (by decide) ?_
  refine V.istore_n (pc := 47) C dX7_readText_47 (L2 := [(2, .int 1), (0, .ref 39), (1, .int x1)]) (by decide) rfl ?_
  refine V.iconst (pc := 48) C dX7_readText_48 (v := 0) (by decide) ?_
  refine V.istore_n (pc := 49) C dX7_readText_49 (L2 := [(3, .int 0), (2, .int 1), (0, .ref 39), (1, .int x1)]) (by decide) rfl ?_
  refine V.wk [2, 1, 0] rfl ?_
  exact v_X7_readText_b50 C hN FU 1 0 m_10
theorem c_X7_readText (l : Launch) {N : Nat} (hN : 109 ≤ N) (x1 : Int32) (m : Mem) : Ct l yX7_readText cX7_readText 4 none 73 SX oV N N RX RX [.ref 39, .int x1] m (X7_readText  x1 m) :=
  Ct.of (own := RX7) (nm := "readText") (by decide) rfl rfl (Nat.le_of_ble_eq_true rfl) (fun _ _ _ _ _ _ _ _ _ _ _ C => v_X7_readText C hN x1 m)
theorem dX4_become_0 : decode cX4_become 0 = .ok (.aload_n 0, 1) := by decide +kernel
theorem dX4_become_1 : decode cX4_become 1 = .ok (.aload_n 1, 1) := by decide +kernel
theorem dX4_become_2 : decode cX4_become 2 = .ok (.getfield 15, 3) := by decide +kernel
theorem dX4_become_5 : decode cX4_become 5 = .ok (.putfield 15, 3) := by decide +kernel
theorem dX4_become_8 : decode cX4_become 8 = .ok (.aload_n 1, 1) := by decide +kernel
theorem dX4_become_9 : decode cX4_become 9 = .ok (.getfield 9, 3) := by decide +kernel
theorem dX4_become_12 : decode cX4_become 12 = .ok (.iconst 0, 1) := by decide +kernel
theorem dX4_become_13 : decode cX4_become 13 = .ok (.aload_n 0, 1) := by decide +kernel
theorem dX4_become_14 : decode cX4_become 14 = .ok (.getfield 9, 3) := by decide +kernel
theorem dX4_become_17 : decode cX4_become 17 = .ok (.iconst 0, 1) := by decide +kernel
theorem dX4_become_18 : decode cX4_become 18 = .ok (.aload_n 1, 1) := by decide +kernel
theorem dX4_become_19 : decode cX4_become 19 = .ok (.getfield 15, 3) := by decide +kernel
theorem dX4_become_22 : decode cX4_become 22 = .ok (.invokestatic 19, 3) := by decide +kernel
theorem dX4_become_25 : decode cX4_become 25 = .ok (.return_, 1) := by decide +kernel
set_option maxRecDepth 100000 in
set_option maxHeartbeats 4000000 in
theorem v_X4_become {l : Launch} {p : Program} {e : Env} {s : State} {mt : MethodId} {args : Array Value} {below : List Frame} {meth : Method} {c : Code} {A : Nat → Prop} {ad0 : Nat → Nat} {G : Gt} {N : Nat} (C : Cx G p s mt args meth c RX4 cX4_become 2 none "become" A) (hN : 109 ≤ N) (a : Nat) (ha : isLaw N a) (b1 : Nat) (hb1 : isLaw N b1) (m : Mem) : V G SX oV l p e s mt args below meth c 2 2 A ad0 N N RX N RX 0 [(0, .ref a), (1, .ref b1)] [] m (X4_become a b1  m) := by
  rw [X4_become]
  refine V.aload_n (pc := 0) C dX4_become_0 0 rfl ?_
  refine V.aload_n (pc := 1) C dX4_become_1 1 rfl ?_
  refine V.geti (pc := 2) C fl_RX4_15 hb1.s hb1.k rfl dX4_become_2 ?_
  refine V.puti (pc := 5) C fp_RX4_15 ha.s ha.k rfl dX4_become_5 ?_
  refine V.ltm (fun m_1 => ?_)
  refine V.aload_n (pc := 8) C dX4_become_8 1 rfl ?_
  refine V.getr (pc := 9) C fl_RX4_9 hb1.s hb1.k rfl hb1.r0 dX4_become_9 ?_
  refine V.iconst (pc := 12) C dX4_become_12 (v := 0) (by decide) ?_
  refine V.aload_n (pc := 13) C dX4_become_13 0 rfl ?_
  refine V.getr (pc := 14) C fl_RX4_9 ha.s ha.k rfl ha.r0 dX4_become_14 ?_
  refine V.iconst (pc := 17) C dX4_become_17 (v := 0) (by decide) ?_
  refine V.aload_n (pc := 18) C dX4_become_18 1 rfl ?_
  refine V.geti (pc := 19) C fl_RX4_15 hb1.s hb1.k rfl dX4_become_19 ?_
  refine V.copy (pc := 22) (st := []) C hb1.s1 hb1.k1 ha.s1 ha.k1 (by decide) (Nat.le_of_ble_eq_true rfl) ml_RX4_19 acN acS acI dX4_become_22 ?_
  refine V.ltm (fun m_2 => ?_)
  exact V.vret C dX4_become_25
theorem c_X4_become (l : Launch) {N : Nat} (hN : 109 ≤ N) (a : Nat) (ha : isLaw N a) (b1 : Nat) (hb1 : isLaw N b1) (m : Mem) : Ct l yX4_become cX4_become 2 none 2 SX oV N N RX RX [.ref a, .ref b1] m (X4_become a b1  m) :=
  Ct.of (own := RX4) (nm := "become") (by decide) rfl rfl (Nat.le_of_ble_eq_true rfl) (fun _ _ _ _ _ _ _ _ _ _ _ C => v_X4_become C hN a ha b1 hb1  m)
theorem dX8_become_0 : decode cX8_become 0 = .ok (.aload_n 0, 1) := by decide +kernel
theorem dX8_become_1 : decode cX8_become 1 = .ok (.aload_n 1, 1) := by decide +kernel
theorem dX8_become_2 : decode cX8_become 2 = .ok (.getfield 38, 3) := by decide +kernel
theorem dX8_become_5 : decode cX8_become 5 = .ok (.putfield 38, 3) := by decide +kernel
theorem dX8_become_8 : decode cX8_become 8 = .ok (.aload_n 0, 1) := by decide +kernel
theorem dX8_become_9 : decode cX8_become 9 = .ok (.aload_n 1, 1) := by decide +kernel
theorem dX8_become_10 : decode cX8_become 10 = .ok (.getfield 41, 3) := by decide +kernel
theorem dX8_become_13 : decode cX8_become 13 = .ok (.putfield 41, 3) := by decide +kernel
theorem dX8_become_16 : decode cX8_become 16 = .ok (.aload_n 0, 1) := by decide +kernel
theorem dX8_become_17 : decode cX8_become 17 = .ok (.aload_n 1, 1) := by decide +kernel
theorem dX8_become_18 : decode cX8_become 18 = .ok (.getfield 28, 3) := by decide +kernel
theorem dX8_become_21 : decode cX8_become 21 = .ok (.putfield 28, 3) := by decide +kernel
theorem dX8_become_24 : decode cX8_become 24 = .ok (.aload_n 0, 1) := by decide +kernel
theorem dX8_become_25 : decode cX8_become 25 = .ok (.aload_n 1, 1) := by decide +kernel
theorem dX8_become_26 : decode cX8_become 26 = .ok (.getfield 32, 3) := by decide +kernel
theorem dX8_become_29 : decode cX8_become 29 = .ok (.putfield 32, 3) := by decide +kernel
theorem dX8_become_32 : decode cX8_become 32 = .ok (.aload_n 0, 1) := by decide +kernel
theorem dX8_become_33 : decode cX8_become 33 = .ok (.aload_n 1, 1) := by decide +kernel
theorem dX8_become_34 : decode cX8_become 34 = .ok (.getfield 44, 3) := by decide +kernel
theorem dX8_become_37 : decode cX8_become 37 = .ok (.putfield 44, 3) := by decide +kernel
theorem dX8_become_40 : decode cX8_become 40 = .ok (.aload_n 1, 1) := by decide +kernel
theorem dX8_become_41 : decode cX8_become 41 = .ok (.getfield 9, 3) := by decide +kernel
theorem dX8_become_44 : decode cX8_become 44 = .ok (.iconst 0, 1) := by decide +kernel
theorem dX8_become_45 : decode cX8_become 45 = .ok (.aload_n 0, 1) := by decide +kernel
theorem dX8_become_46 : decode cX8_become 46 = .ok (.getfield 9, 3) := by decide +kernel
theorem dX8_become_49 : decode cX8_become 49 = .ok (.iconst 0, 1) := by decide +kernel
theorem dX8_become_50 : decode cX8_become 50 = .ok (.bipush 14, 2) := by decide +kernel
theorem dX8_become_52 : decode cX8_become 52 = .ok (.invokestatic 60, 3) := by decide +kernel
theorem dX8_become_55 : decode cX8_become 55 = .ok (.aload_n 1, 1) := by decide +kernel
theorem dX8_become_56 : decode cX8_become 56 = .ok (.getfield 15, 3) := by decide +kernel
theorem dX8_become_59 : decode cX8_become 59 = .ok (.iconst 0, 1) := by decide +kernel
theorem dX8_become_60 : decode cX8_become 60 = .ok (.aload_n 0, 1) := by decide +kernel
theorem dX8_become_61 : decode cX8_become 61 = .ok (.getfield 15, 3) := by decide +kernel
theorem dX8_become_64 : decode cX8_become 64 = .ok (.iconst 0, 1) := by decide +kernel
theorem dX8_become_65 : decode cX8_become 65 = .ok (.bipush 8, 2) := by decide +kernel
theorem dX8_become_67 : decode cX8_become 67 = .ok (.invokestatic 60, 3) := by decide +kernel
theorem dX8_become_70 : decode cX8_become 70 = .ok (.aload_n 0, 1) := by decide +kernel
theorem dX8_become_71 : decode cX8_become 71 = .ok (.getfield 21, 3) := by decide +kernel
theorem dX8_become_74 : decode cX8_become 74 = .ok (.aload_n 1, 1) := by decide +kernel
theorem dX8_become_75 : decode cX8_become 75 = .ok (.getfield 21, 3) := by decide +kernel
theorem dX8_become_78 : decode cX8_become 78 = .ok (.invokevirtual 66, 3) := by decide +kernel
theorem dX8_become_81 : decode cX8_become 81 = .ok (.aload_n 0, 1) := by decide +kernel
theorem dX8_become_82 : decode cX8_become 82 = .ok (.getfield 25, 3) := by decide +kernel
theorem dX8_become_85 : decode cX8_become 85 = .ok (.aload_n 1, 1) := by decide +kernel
theorem dX8_become_86 : decode cX8_become 86 = .ok (.getfield 25, 3) := by decide +kernel
theorem dX8_become_89 : decode cX8_become 89 = .ok (.invokevirtual 66, 3) := by decide +kernel
theorem dX8_become_92 : decode cX8_become 92 = .ok (.return_, 1) := by decide +kernel
set_option maxRecDepth 100000 in
set_option maxHeartbeats 4000000 in
theorem v_X8_become {l : Launch} {p : Program} {e : Env} {s : State} {mt : MethodId} {args : Array Value} {below : List Frame} {meth : Method} {c : Code} {A : Nat → Prop} {ad0 : Nat → Nat} {G : Gt} {N : Nat} (C : Cx G p s mt args meth c RX8 cX8_become 2 none "become" A) (hN : 109 ≤ N) (a : Nat) (ha : isRules N a) (b1 : Nat) (hb1 : isRules N b1) (m : Mem) : V G SX oV l p e s mt args below meth c 2 3 A ad0 N N RX N RX 0 [(0, .ref a), (1, .ref b1)] [] m (X8_become a b1  m) := by
  rw [X8_become]
  refine V.aload_n (pc := 0) C dX8_become_0 0 rfl ?_
  refine V.aload_n (pc := 1) C dX8_become_1 1 rfl ?_
  refine V.geti (pc := 2) C fl_RX8_38 hb1.s hb1.k rfl dX8_become_2 ?_
  refine V.puti (pc := 5) C fp_RX8_38 ha.s ha.k rfl dX8_become_5 ?_
  refine V.ltm (fun m_1 => ?_)
  refine V.aload_n (pc := 8) C dX8_become_8 0 rfl ?_
  refine V.aload_n (pc := 9) C dX8_become_9 1 rfl ?_
  refine V.geti (pc := 10) C fl_RX8_41 hb1.s hb1.k rfl dX8_become_10 ?_
  refine V.puti (pc := 13) C fp_RX8_41 ha.s ha.k rfl dX8_become_13 ?_
  refine V.ltm (fun m_2 => ?_)
  refine V.aload_n (pc := 16) C dX8_become_16 0 rfl ?_
  refine V.aload_n (pc := 17) C dX8_become_17 1 rfl ?_
  refine V.geti (pc := 18) C fl_RX8_28 hb1.s hb1.k rfl dX8_become_18 ?_
  refine V.puti (pc := 21) C fp_RX8_28 ha.s ha.k rfl dX8_become_21 ?_
  refine V.ltm (fun m_3 => ?_)
  refine V.aload_n (pc := 24) C dX8_become_24 0 rfl ?_
  refine V.aload_n (pc := 25) C dX8_become_25 1 rfl ?_
  refine V.geti (pc := 26) C fl_RX8_32 hb1.s hb1.k rfl dX8_become_26 ?_
  refine V.puti (pc := 29) C fp_RX8_32 ha.s ha.k rfl dX8_become_29 ?_
  refine V.ltm (fun m_4 => ?_)
  refine V.aload_n (pc := 32) C dX8_become_32 0 rfl ?_
  refine V.aload_n (pc := 33) C dX8_become_33 1 rfl ?_
  refine V.geti (pc := 34) C fl_RX8_44 hb1.s hb1.k rfl dX8_become_34 ?_
  refine V.puti (pc := 37) C fp_RX8_44 ha.s ha.k rfl dX8_become_37 ?_
  refine V.ltm (fun m_5 => ?_)
  refine V.aload_n (pc := 40) C dX8_become_40 1 rfl ?_
  refine V.getr (pc := 41) C fl_RX8_9 hb1.s hb1.k rfl hb1.r5 dX8_become_41 ?_
  refine V.iconst (pc := 44) C dX8_become_44 (v := 0) (by decide) ?_
  refine V.aload_n (pc := 45) C dX8_become_45 0 rfl ?_
  refine V.getr (pc := 46) C fl_RX8_9 ha.s ha.k rfl ha.r5 dX8_become_46 ?_
  refine V.iconst (pc := 49) C dX8_become_49 (v := 0) (by decide) ?_
  refine V.bipush (pc := 50) C dX8_become_50 (v := 14) (by decide) ?_
  refine V.copy (pc := 52) (st := []) C hb1.s1 hb1.k1 ha.s1 ha.k1 (by decide) (Nat.le_of_ble_eq_true rfl) ml_RX8_60 acN acS acI dX8_become_52 ?_
  refine V.ltm (fun m_6 => ?_)
  refine V.aload_n (pc := 55) C dX8_become_55 1 rfl ?_
  refine V.getr (pc := 56) C fl_RX8_15 hb1.s hb1.k rfl hb1.r6 dX8_become_56 ?_
  refine V.iconst (pc := 59) C dX8_become_59 (v := 0) (by decide) ?_
  refine V.aload_n (pc := 60) C dX8_become_60 0 rfl ?_
  refine V.getr (pc := 61) C fl_RX8_15 ha.s ha.k rfl ha.r6 dX8_become_61 ?_
  refine V.iconst (pc := 64) C dX8_become_64 (v := 0) (by decide) ?_
  refine V.bipush (pc := 65) C dX8_become_65 (v := 8) (by decide) ?_
  refine V.copy (pc := 67) (st := []) C hb1.s2 hb1.k2 ha.s2 ha.k2 (by decide) (Nat.le_of_ble_eq_true rfl) ml_RX8_60 acN acS acI dX8_become_67 ?_
  refine V.ltm (fun m_7 => ?_)
  refine V.aload_n (pc := 70) C dX8_become_70 0 rfl ?_
  refine V.getr (pc := 71) C fl_RX8_21 ha.s ha.k rfl ha.r7 dX8_become_71 ?_
  refine V.aload_n (pc := 74) C dX8_become_74 1 rfl ?_
  refine V.getr (pc := 75) C fl_RX8_21 hb1.s hb1.k rfl hb1.r7 dX8_become_75 ?_
  refine V.callV (pc := 78) (st := []) C (c_X4_become l hN (a + 3) ha.l7 (b1 + 3) hb1.l7 m_7) obV ck_X4_become ml_RX8_66 rfl rfl ha.l7.s ha.l7.k rfl rfl (Nat.le_of_ble_eq_true rfl) ⟨by decide, by decide⟩ dX8_become_78 (fun r_8 m_9 _ => ?_)
  refine V.aload_n (pc := 81) C dX8_become_81 0 rfl ?_
  refine V.getr (pc := 82) C fl_RX8_25 ha.s ha.k rfl ha.r8 dX8_become_82 ?_
  refine V.aload_n (pc := 85) C dX8_become_85 1 rfl ?_
  refine V.getr (pc := 86) C fl_RX8_25 hb1.s hb1.k rfl hb1.r8 dX8_become_86 ?_
  refine V.callV (pc := 89) (st := []) C (c_X4_become l hN (a + 5) ha.l8 (b1 + 5) hb1.l8 m_9) obV ck_X4_become ml_RX8_66 rfl rfl ha.l8.s ha.l8.k rfl rfl (Nat.le_of_ble_eq_true rfl) ⟨by decide, by decide⟩ dX8_become_89 (fun r_10 m_11 _ => ?_)
  exact V.vret C dX8_become_92
theorem c_X8_become (l : Launch) {N : Nat} (hN : 109 ≤ N) (a : Nat) (ha : isRules N a) (b1 : Nat) (hb1 : isRules N b1) (m : Mem) : Ct l yX8_become cX8_become 2 none 3 SX oV N N RX RX [.ref a, .ref b1] m (X8_become a b1  m) :=
  Ct.of (own := RX8) (nm := "become") (by decide) rfl rfl (Nat.le_of_ble_eq_true rfl) (fun _ _ _ _ _ _ _ _ _ _ _ C => v_X8_become C hN a ha b1 hb1  m)
theorem dX2_forget_0 : decode cX2_forget 0 = .ok (.aload_n 0, 1) := by decide +kernel
theorem dX2_forget_1 : decode cX2_forget 1 = .ok (.iconst 0, 1) := by decide +kernel
theorem dX2_forget_2 : decode cX2_forget 2 = .ok (.putfield 18, 3) := by decide +kernel
theorem dX2_forget_5 : decode cX2_forget 5 = .ok (.return_, 1) := by decide +kernel
set_option maxRecDepth 100000 in
set_option maxHeartbeats 4000000 in
theorem v_X2_forget {l : Launch} {p : Program} {e : Env} {s : State} {mt : MethodId} {args : Array Value} {below : List Frame} {meth : Method} {c : Code} {A : Nat → Prop} {ad0 : Nat → Nat} {G : Gt} {N : Nat} (C : Cx G p s mt args meth c RX2 cX2_forget 1 none "forget" A) (hN : 109 ≤ N) (m : Mem) : V G SX oV l p e s mt args below meth c 1 1 A ad0 N N RX N RX 0 [(0, .ref 40)] [] m (X2_forget   m) := by
  rw [X2_forget]
  refine V.aload_n (pc := 0) C dX2_forget_0 0 rfl ?_
  refine V.iconst (pc := 1) C dX2_forget_1 (v := 0) (by decide) ?_
  refine V.puti (pc := 2) C fp_RX2_18 sX40 (kX40 hN) rfl dX2_forget_2 ?_
  refine V.ltm (fun m_1 => ?_)
  exact V.vret C dX2_forget_5
theorem c_X2_forget (l : Launch) {N : Nat} (hN : 109 ≤ N) (m : Mem) : Ct l yX2_forget cX2_forget 1 none 1 SX oV N N RX RX [.ref 40] m (X2_forget   m) :=
  Ct.of (own := RX2) (nm := "forget") (by decide) rfl rfl (Nat.le_of_ble_eq_true rfl) (fun _ _ _ _ _ _ _ _ _ _ _ C => v_X2_forget C hN  m)
theorem dX11_bureau_0 : decode cX11_bureau 0 = .ok (.iload_n 1, 1) := by decide +kernel
theorem dX11_bureau_1 : decode cX11_bureau 1 = .ok (.ifCond .lt 11, 3) := by decide +kernel
theorem dX11_bureau_4 : decode cX11_bureau 4 = .ok (.iload_n 1, 1) := by decide +kernel
theorem dX11_bureau_5 : decode cX11_bureau 5 = .ok (.aload_n 0, 1) := by decide +kernel
theorem dX11_bureau_6 : decode cX11_bureau 6 = .ok (.getfield 90, 3) := by decide +kernel
theorem dX11_bureau_9 : decode cX11_bureau 9 = .ok (.if_icmp .le 6, 3) := by decide +kernel
theorem dX11_bureau_12 : decode cX11_bureau 12 = .ok (.bipush (-3), 2) := by decide +kernel
theorem dX11_bureau_14 : decode cX11_bureau 14 = .ok (.ireturn, 1) := by decide +kernel
theorem dX11_bureau_15 : decode cX11_bureau 15 = .ok (.aload_n 0, 1) := by decide +kernel
theorem dX11_bureau_16 : decode cX11_bureau 16 = .ok (.iconst 0, 1) := by decide +kernel
theorem dX11_bureau_17 : decode cX11_bureau 17 = .ok (.putfield 90, 3) := by decide +kernel
theorem dX11_bureau_20 : decode cX11_bureau 20 = .ok (.aload_n 0, 1) := by decide +kernel
theorem dX11_bureau_21 : decode cX11_bureau 21 = .ok (.getfield 50, 3) := by decide +kernel
theorem dX11_bureau_24 : decode cX11_bureau 24 = .ok (.iload_n 1, 1) := by decide +kernel
theorem dX11_bureau_25 : decode cX11_bureau 25 = .ok (.invokevirtual 98, 3) := by decide +kernel
theorem dX11_bureau_28 : decode cX11_bureau 28 = .ok (.aload_n 0, 1) := by decide +kernel
theorem dX11_bureau_29 : decode cX11_bureau 29 = .ok (.getfield 50, 3) := by decide +kernel
theorem dX11_bureau_32 : decode cX11_bureau 32 = .ok (.getfield 101, 3) := by decide +kernel
theorem dX11_bureau_35 : decode cX11_bureau 35 = .ok (.ifCond .eq 14, 3) := by decide +kernel
theorem dX11_bureau_38 : decode cX11_bureau 38 = .ok (.bipush (-30), 2) := by decide +kernel
theorem dX11_bureau_40 : decode cX11_bureau 40 = .ok (.aload_n 0, 1) := by decide +kernel
theorem dX11_bureau_41 : decode cX11_bureau 41 = .ok (.getfield 50, 3) := by decide +kernel
theorem dX11_bureau_44 : decode cX11_bureau 44 = .ok (.getfield 101, 3) := by decide +kernel
theorem dX11_bureau_47 : decode cX11_bureau 47 = .ok (.isub, 1) := by decide +kernel
theorem dX11_bureau_48 : decode cX11_bureau 48 = .ok (.ireturn, 1) := by decide +kernel
theorem dX11_bureau_49 : decode cX11_bureau 49 = .ok (.aload_n 0, 1) := by decide +kernel
theorem dX11_bureau_50 : decode cX11_bureau 50 = .ok (.getfield 16, 3) := by decide +kernel
theorem dX11_bureau_53 : decode cX11_bureau 53 = .ok (.aload_n 0, 1) := by decide +kernel
theorem dX11_bureau_54 : decode cX11_bureau 54 = .ok (.getfield 20, 3) := by decide +kernel
theorem dX11_bureau_57 : decode cX11_bureau 57 = .ok (.invokevirtual 104, 3) := by decide +kernel
theorem dX11_bureau_60 : decode cX11_bureau 60 = .ok (.aload_n 0, 1) := by decide +kernel
theorem dX11_bureau_61 : decode cX11_bureau 61 = .ok (.getfield 38, 3) := by decide +kernel
theorem dX11_bureau_64 : decode cX11_bureau 64 = .ok (.getfield 108, 3) := by decide +kernel
theorem dX11_bureau_67 : decode cX11_bureau 67 = .ok (.aload_n 0, 1) := by decide +kernel
theorem dX11_bureau_68 : decode cX11_bureau 68 = .ok (.getfield 26, 3) := by decide +kernel
theorem dX11_bureau_71 : decode cX11_bureau 71 = .ok (.invokevirtual 111, 3) := by decide +kernel
theorem dX11_bureau_74 : decode cX11_bureau 74 = .ok (.aload_n 0, 1) := by decide +kernel
theorem dX11_bureau_75 : decode cX11_bureau 75 = .ok (.getfield 57, 3) := by decide +kernel
theorem dX11_bureau_78 : decode cX11_bureau 78 = .ok (.invokevirtual 114, 3) := by decide +kernel
theorem dX11_bureau_81 : decode cX11_bureau 81 = .ok (.aload_n 0, 1) := by decide +kernel
theorem dX11_bureau_82 : decode cX11_bureau 82 = .ok (.getfield 16, 3) := by decide +kernel
theorem dX11_bureau_85 : decode cX11_bureau 85 = .ok (.getfield 117, 3) := by decide +kernel
theorem dX11_bureau_88 : decode cX11_bureau 88 = .ok (.ireturn, 1) := by decide +kernel
set_option maxRecDepth 100000 in
set_option maxHeartbeats 4000000 in
theorem v_X11_bureau {l : Launch} {p : Program} {e : Env} {s : State} {mt : MethodId} {args : Array Value} {below : List Frame} {meth : Method} {c : Code} {A : Nat → Prop} {ad0 : Nat → Nat} {G : Gt} {N : Nat} (C : Cx G p s mt args meth c RX11 cX11_bureau 2 (some .int) "bureau" A) (hN : 109 ≤ N) (x1 : Int32) (m : Mem) : V G SX oI l p e s mt args below meth c 2 74 A ad0 N N RX N RX 0 [(0, .ref 0), (1, .int x1)] [] m (X11_bureau  x1 m) := by
  rw [X11_bureau]
  refine V.iload_n (pc := 0) C dX11_bureau_0 1 rfl ?_
  refine V.if_lt (pc := 1) C dX11_bureau_1 12 (by decide) (fun _ => ?_) (fun _ => ?_)
  · refine V.bipush (pc := 12) C dX11_bureau_12 (v := (-3)) (by decide) ?_
    exact V.iret C dX11_bureau_14
  · refine V.iload_n (pc := 4) C dX11_bureau_4 1 rfl ?_
    refine V.aload_n (pc := 5) C dX11_bureau_5 0 rfl ?_
    refine V.geti (pc := 6) C fl_RX11_90 sX0 (kX0 hN) rfl dX11_bureau_6 ?_
    refine V.icmp_le (pc := 9) C dX11_bureau_9 15 (by decide) (fun _ => ?_) (fun _ => ?_)
    · refine V.aload_n (pc := 15) C dX11_bureau_15 0 rfl ?_
      refine V.iconst (pc := 16) C dX11_bureau_16 (v := 0) (by decide) ?_
      refine V.puti (pc := 17) C fp_RX11_90 sX0 (kX0 hN) rfl dX11_bureau_17 ?_
      refine V.ltm (fun m_1 => ?_)
      refine V.aload_n (pc := 20) C dX11_bureau_20 0 rfl ?_
      refine V.getr (pc := 21) C fl_RX11_50 sX0 (kX0 hN) rfl rX0_8 dX11_bureau_21 ?_
      refine V.iload_n (pc := 24) C dX11_bureau_24 1 rfl ?_
      refine V.callV (pc := 25) (st := []) C (c_X7_readText l hN x1 m_1) obV ck_X7_readText ml_RX11_98 rfl rfl sX39 (kX39 hN) rfl rfl (Nat.le_of_ble_eq_true rfl) ⟨by decide, by decide⟩ dX11_bureau_25 (fun r_2 m_3 _ => ?_)
      refine V.aload_n (pc := 28) C dX11_bureau_28 0 rfl ?_
      refine V.getr (pc := 29) C fl_RX11_50 sX0 (kX0 hN) rfl rX0_8 dX11_bureau_29 ?_
      refine V.geti (pc := 32) C fl_RX11_101 sX39 (kX39 hN) rfl dX11_bureau_32 ?_
      refine V.if_eq (pc := 35) C dX11_bureau_35 49 (by decide) (fun _ => ?_) (fun _ => ?_)
      · refine V.aload_n (pc := 49) C dX11_bureau_49 0 rfl ?_
        refine V.getr (pc := 50) C fl_RX11_16 sX0 (kX0 hN) rfl rX0_3 dX11_bureau_50 ?_
        refine V.aload_n (pc := 53) C dX11_bureau_53 0 rfl ?_
        refine V.getr (pc := 54) C fl_RX11_20 sX0 (kX0 hN) rfl rX0_4 dX11_bureau_54 ?_
        refine V.callV (pc := 57) (st := []) C (c_X8_become l hN 2 (iX2 hN) 9 (iX9 hN) m_3) obV ck_X8_become ml_RX11_104 rfl rfl sX2 (kX2 hN) rfl rfl (Nat.le_of_ble_eq_true rfl) ⟨by decide, by decide⟩ dX11_bureau_57 (fun r_4 m_5 _ => ?_)
        refine V.aload_n (pc := 60) C dX11_bureau_60 0 rfl ?_
        refine V.getr (pc := 61) C fl_RX11_38 sX0 (kX0 hN) rfl rX0_6 dX11_bureau_61 ?_
        refine V.getr (pc := 64) C fl_RX11_108 sX25 (kX25 hN) rfl rX25_2 dX11_bureau_64 ?_
        refine V.aload_n (pc := 67) C dX11_bureau_67 0 rfl ?_
        refine V.getr (pc := 68) C fl_RX11_26 sX0 (kX0 hN) rfl rX0_5 dX11_bureau_68 ?_
        refine V.callV (pc := 71) (st := []) C (c_X5_become l hN 26 (iX26 hN) 16 (iX16 hN) m_5) obV ck_X5_become ml_RX11_111 rfl rfl sX26 (kX26 hN) rfl rfl (Nat.le_of_ble_eq_true rfl) ⟨by decide, by decide⟩ dX11_bureau_71 (fun r_6 m_7 _ => ?_)
        refine V.aload_n (pc := 74) C dX11_bureau_74 0 rfl ?_
        refine V.getr (pc := 75) C fl_RX11_57 sX0 (kX0 hN) rfl rX0_9 dX11_bureau_75 ?_
        refine V.callV (pc := 78) (st := []) C (c_X2_forget l hN m_7) obV ck_X2_forget ml_RX11_114 rfl rfl sX40 (kX40 hN) rfl rfl (Nat.le_of_ble_eq_true rfl) ⟨by decide, by decide⟩ dX11_bureau_78 (fun r_8 m_9 _ => ?_)
        refine V.aload_n (pc := 81) C dX11_bureau_81 0 rfl ?_
        refine V.getr (pc := 82) C fl_RX11_16 sX0 (kX0 hN) rfl rX0_3 dX11_bureau_82 ?_
        refine V.geti (pc := 85) C fl_RX11_117 sX2 (kX2 hN) rfl dX11_bureau_85 ?_
        exact V.iret C dX11_bureau_88
      · refine V.bipush (pc := 38) C dX11_bureau_38 (v := (-30)) (by decide) ?_
        refine V.aload_n (pc := 40) C dX11_bureau_40 0 rfl ?_
        refine V.getr (pc := 41) C fl_RX11_50 sX0 (kX0 hN) rfl rX0_8 dX11_bureau_41 ?_
        refine V.geti (pc := 44) C fl_RX11_101 sX39 (kX39 hN) rfl dX11_bureau_44 ?_
        refine V.isub (pc := 47) C dX11_bureau_47 ?_
        exact V.iret C dX11_bureau_48
    · refine V.bipush (pc := 12) C dX11_bureau_12 (v := (-3)) (by decide) ?_
      exact V.iret C dX11_bureau_14
theorem c_X11_bureau (l : Launch) {N : Nat} (hN : 109 ≤ N) (x1 : Int32) (m : Mem) : Ct l yX11_bureau cX11_bureau 2 (some .int) 74 SX oI N N RX RX [.ref 0, .int x1] m (X11_bureau  x1 m) :=
  Ct.of (own := RX11) (nm := "bureau") (by decide) rfl rfl (Nat.le_of_ble_eq_true rfl) (fun _ _ _ _ _ _ _ _ _ _ _ C => v_X11_bureau C hN x1 m)
