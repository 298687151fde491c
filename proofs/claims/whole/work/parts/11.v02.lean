theorem dX10_isAllowed_0 : decode cX10_isAllowed 0 = .ok (.aload_n 0, 1) := by decide +kernel
theorem dX10_isAllowed_1 : decode cX10_isAllowed 1 = .ok (.iload_n 1, 1) := by decide +kernel
theorem dX10_isAllowed_2 : decode cX10_isAllowed 2 = .ok (.iload_n 2, 1) := by decide +kernel
theorem dX10_isAllowed_3 : decode cX10_isAllowed 3 = .ok (.aload_n 0, 1) := by decide +kernel
theorem dX10_isAllowed_4 : decode cX10_isAllowed 4 = .ok (.getfield 22, 3) := by decide +kernel
theorem dX10_isAllowed_7 : decode cX10_isAllowed 7 = .ok (.getfield 84, 3) := by decide +kernel
theorem dX10_isAllowed_10 : decode cX10_isAllowed 10 = .ok (.iload_n 1, 1) := by decide +kernel
theorem dX10_isAllowed_11 : decode cX10_isAllowed 11 = .ok (.iaload, 1) := by decide +kernel
theorem dX10_isAllowed_12 : decode cX10_isAllowed 12 = .ok (.aload_n 0, 1) := by decide +kernel
theorem dX10_isAllowed_13 : decode cX10_isAllowed 13 = .ok (.getfield 22, 3) := by decide +kernel
theorem dX10_isAllowed_16 : decode cX10_isAllowed 16 = .ok (.getfield 84, 3) := by decide +kernel
theorem dX10_isAllowed_19 : decode cX10_isAllowed 19 = .ok (.iload_n 2, 1) := by decide +kernel
theorem dX10_isAllowed_20 : decode cX10_isAllowed 20 = .ok (.iaload, 1) := by decide +kernel
theorem dX10_isAllowed_21 : decode cX10_isAllowed 21 = .ok (.invokevirtual 72, 3) := by decide +kernel
theorem dX10_isAllowed_24 : decode cX10_isAllowed 24 = .ok (.aload_n 0, 1) := by decide +kernel
theorem dX10_isAllowed_25 : decode cX10_isAllowed 25 = .ok (.getfield 15, 3) := by decide +kernel
theorem dX10_isAllowed_28 : decode cX10_isAllowed 28 = .ok (.aload_n 0, 1) := by decide +kernel
theorem dX10_isAllowed_29 : decode cX10_isAllowed 29 = .ok (.getfield 9, 3) := by decide +kernel
theorem dX10_isAllowed_32 : decode cX10_isAllowed 32 = .ok (.getfield 91, 3) := by decide +kernel
theorem dX10_isAllowed_35 : decode cX10_isAllowed 35 = .ok (.invokevirtual 80, 3) := by decide +kernel
theorem dX10_isAllowed_38 : decode cX10_isAllowed 38 = .ok (.ifCond .eq 7, 3) := by decide +kernel
theorem dX10_isAllowed_41 : decode cX10_isAllowed 41 = .ok (.iconst 1, 1) := by decide +kernel
theorem dX10_isAllowed_42 : decode cX10_isAllowed 42 = .ok (.goto 4, 3) := by decide +kernel
theorem dX10_isAllowed_45 : decode cX10_isAllowed 45 = .ok (.iconst 0, 1) := by decide +kernel
theorem dX10_isAllowed_46 : decode cX10_isAllowed 46 = .ok (.ireturn, 1) := by decide +kernel
set_option maxRecDepth 100000 in
set_option maxHeartbeats 4000000 in
theorem v_X10_isAllowed {l : Launch} {p : Program} {e : Env} {s : State} {mt : MethodId} {args : Array Value} {below : List Frame} {meth : Method} {c : Code} {A : Nat → Prop} {ad0 : Nat → Nat} {G : Gt} {N : Nat} (C : Cx G p s mt args meth c RX10 cX10_isAllowed 3 (some .boolean) "isAllowed" A) (hN : 109 ≤ N) (a : Nat) (ha : isWorld N a) (x1 : Int32) (x2 : Int32) (m : Mem) : V G SX oI l p e s mt args below meth c 3 3 A ad0 N N RX N RX 0 [(0, .ref a), (1, .int x1), (2, .int x2)] [] m (X10_isAllowed a x1 x2 m) := by
  rw [X10_isAllowed]
  refine V.aload_n (pc := 0) C dX10_isAllowed_0 0 rfl ?_
  refine V.iload_n (pc := 1) C dX10_isAllowed_1 1 rfl ?_
  refine V.iload_n (pc := 2) C dX10_isAllowed_2 2 rfl ?_
  refine V.aload_n (pc := 3) C dX10_isAllowed_3 0 rfl ?_
  refine V.getr (pc := 4) C fl_RX10_22 ha.s ha.k rfl ha.r2 dX10_isAllowed_4 ?_
  refine V.getr (pc := 7) C fl_RX10_84 ha.life.s ha.life.k rfl ha.life.r3 dX10_isAllowed_7 ?_
  refine V.iload_n (pc := 10) C dX10_isAllowed_10 1 rfl ?_
  refine V.iald (pc := 11) C ha.life.s3 ha.life.k3 dX10_isAllowed_11 (fun _ => ?_)
  refine V.aload_n (pc := 12) C dX10_isAllowed_12 0 rfl ?_
  refine V.getr (pc := 13) C fl_RX10_22 ha.s ha.k rfl ha.r2 dX10_isAllowed_13 ?_
  refine V.getr (pc := 16) C fl_RX10_84 ha.life.s ha.life.k rfl ha.life.r3 dX10_isAllowed_16 ?_
  refine V.iload_n (pc := 19) C dX10_isAllowed_19 2 rfl ?_
  refine V.iald (pc := 20) C ha.life.s3 ha.life.k3 dX10_isAllowed_20 (fun _ => ?_)
  refine V.callV (pc := 21) (st := []) C (c_X10_measure l hN a ha x1 x2 (gi m ((a + 1) + 3) (ix x1)) (gi m ((a + 1) + 3) (ix x2)) m) obV ck_X10_measure ml_RX10_72 rfl rfl ha.s ha.k rfl rfl (Nat.le_of_ble_eq_true rfl) ⟨by decide, by decide⟩ dX10_isAllowed_21 (fun r_1 m_2 _ => ?_)
  refine V.aload_n (pc := 24) C dX10_isAllowed_24 0 rfl ?_
  refine V.getr (pc := 25) C fl_RX10_15 ha.s ha.k rfl ha.r1 dX10_isAllowed_25 ?_
  refine V.aload_n (pc := 28) C dX10_isAllowed_28 0 rfl ?_
  refine V.getr (pc := 29) C fl_RX10_9 ha.s ha.k rfl ha.r0 dX10_isAllowed_29 ?_
  refine V.getr (pc := 32) C fl_RX10_91 sX2 (kX2 hN) rfl rX2_8 dX10_isAllowed_32 ?_
  refine V.callV (pc := 35) (st := []) C (c_X0_reckon l hN 7 (iX7 hN) m_2) obI ck_X0_reckon ml_RX10_80 rfl rfl sX22 (kX22 hN) rfl rfl (Nat.le_of_ble_eq_true rfl) ⟨by decide, by decide⟩ dX10_isAllowed_35 (fun r_3 m_4 _ => ?_)
  refine V.if_eq (pc := 38) C dX10_isAllowed_38 45 (by decide) (fun _ => ?_) (fun _ => ?_)
  · refine V.iconst (pc := 45) C dX10_isAllowed_45 (v := 0) (by decide) ?_
    exact V.zret rfl C dX10_isAllowed_46
  · refine V.iconst (pc := 41) C dX10_isAllowed_41 (v := 1) (by decide) ?_
    refine V.goto (pc := 42) C dX10_isAllowed_42 46 (by decide) ?_
    exact V.zret rfl C dX10_isAllowed_46
theorem c_X10_isAllowed (l : Launch) {N : Nat} (hN : 109 ≤ N) (a : Nat) (ha : isWorld N a) (x1 : Int32) (x2 : Int32) (m : Mem) : Ct l yX10_isAllowed cX10_isAllowed 3 (some .boolean) 3 SX oI N N RX RX [.ref a, .int x1, .int x2] m (X10_isAllowed a x1 x2 m) :=
  Ct.of (own := RX10) (nm := "isAllowed") (by decide) rfl rfl (Nat.le_of_ble_eq_true rfl) (fun _ _ _ _ _ _ _ _ _ _ _ C => v_X10_isAllowed C hN a ha x1 x2 m)
theorem dX10_whyNotMarry_0 : decode cX10_whyNotMarry 0 = .ok (.aload_n 0, 1) := by decide +kernel
theorem dX10_whyNotMarry_1 : decode cX10_whyNotMarry 1 = .ok (.iload_n 1, 1) := by decide +kernel
theorem dX10_whyNotMarry_2 : decode cX10_whyNotMarry 2 = .ok (.iload_n 2, 1) := by decide +kernel
theorem dX10_whyNotMarry_3 : decode cX10_whyNotMarry 3 = .ok (.invokevirtual 94, 3) := by decide +kernel
theorem dX10_whyNotMarry_6 : decode cX10_whyNotMarry 6 = .ok (.ifCond .ne 5, 3) := by decide +kernel
theorem dX10_whyNotMarry_9 : decode cX10_whyNotMarry 9 = .ok (.iconst 1, 1) := by decide +kernel
theorem dX10_whyNotMarry_10 : decode cX10_whyNotMarry 10 = .ok (.ireturn, 1) := by decide +kernel
theorem dX10_whyNotMarry_11 : decode cX10_whyNotMarry 11 = .ok (.aload_n 0, 1) := by decide +kernel
theorem dX10_whyNotMarry_12 : decode cX10_whyNotMarry 12 = .ok (.getfield 22, 3) := by decide +kernel
theorem dX10_whyNotMarry_15 : decode cX10_whyNotMarry 15 = .ok (.getfield 98, 3) := by decide +kernel
theorem dX10_whyNotMarry_18 : decode cX10_whyNotMarry 18 = .ok (.iload_n 1, 1) := by decide +kernel
theorem dX10_whyNotMarry_19 : decode cX10_whyNotMarry 19 = .ok (.iaload, 1) := by decide +kernel
theorem dX10_whyNotMarry_20 : decode cX10_whyNotMarry 20 = .ok (.iconst (-1), 1) := by decide +kernel
theorem dX10_whyNotMarry_21 : decode cX10_whyNotMarry 21 = .ok (.if_icmp .ne 16, 3) := by decide +kernel
theorem dX10_whyNotMarry_24 : decode cX10_whyNotMarry 24 = .ok (.aload_n 0, 1) := by decide +kernel
theorem dX10_whyNotMarry_25 : decode cX10_whyNotMarry 25 = .ok (.getfield 22, 3) := by decide +kernel
theorem dX10_whyNotMarry_28 : decode cX10_whyNotMarry 28 = .ok (.getfield 98, 3) := by decide +kernel
theorem dX10_whyNotMarry_31 : decode cX10_whyNotMarry 31 = .ok (.iload_n 2, 1) := by decide +kernel
theorem dX10_whyNotMarry_32 : decode cX10_whyNotMarry 32 = .ok (.iaload, 1) := by decide +kernel
theorem dX10_whyNotMarry_33 : decode cX10_whyNotMarry 33 = .ok (.iconst (-1), 1) := by decide +kernel
theorem dX10_whyNotMarry_34 : decode cX10_whyNotMarry 34 = .ok (.if_icmp .eq 5, 3) := by decide +kernel
theorem dX10_whyNotMarry_37 : decode cX10_whyNotMarry 37 = .ok (.iconst 2, 1) := by decide +kernel
theorem dX10_whyNotMarry_38 : decode cX10_whyNotMarry 38 = .ok (.ireturn, 1) := by decide +kernel
theorem dX10_whyNotMarry_39 : decode cX10_whyNotMarry 39 = .ok (.aload_n 0, 1) := by decide +kernel
theorem dX10_whyNotMarry_40 : decode cX10_whyNotMarry 40 = .ok (.iload_n 1, 1) := by decide +kernel
theorem dX10_whyNotMarry_41 : decode cX10_whyNotMarry 41 = .ok (.iload_n 2, 1) := by decide +kernel
theorem dX10_whyNotMarry_42 : decode cX10_whyNotMarry 42 = .ok (.invokevirtual 101, 3) := by decide +kernel
theorem dX10_whyNotMarry_45 : decode cX10_whyNotMarry 45 = .ok (.ifCond .eq 7, 3) := by decide +kernel
theorem dX10_whyNotMarry_48 : decode cX10_whyNotMarry 48 = .ok (.iconst 0, 1) := by decide +kernel
theorem dX10_whyNotMarry_49 : decode cX10_whyNotMarry 49 = .ok (.goto 4, 3) := by decide +kernel
theorem dX10_whyNotMarry_52 : decode cX10_whyNotMarry 52 = .ok (.iconst 3, 1) := by decide +kernel
theorem dX10_whyNotMarry_53 : decode cX10_whyNotMarry 53 = .ok (.ireturn, 1) := by decide +kernel
set_option maxRecDepth 100000 in
set_option maxHeartbeats 4000000 in
theorem v_X10_whyNotMarry {l : Launch} {p : Program} {e : Env} {s : State} {mt : MethodId} {args : Array Value} {below : List Frame} {meth : Method} {c : Code} {A : Nat → Prop} {ad0 : Nat → Nat} {G : Gt} {N : Nat} (C : Cx G p s mt args meth c RX10 cX10_whyNotMarry 3 (some .int) "whyNotMarry" A) (hN : 109 ≤ N) (a : Nat) (ha : isWorld N a) (x1 : Int32) (x2 : Int32) (m : Mem) : V G SX oI l p e s mt args below meth c 3 4 A ad0 N N RX N RX 0 [(0, .ref a), (1, .int x1), (2, .int x2)] [] m (X10_whyNotMarry a x1 x2 m) := by
  rw [X10_whyNotMarry]
  refine V.aload_n (pc := 0) C dX10_whyNotMarry_0 0 rfl ?_
  refine V.iload_n (pc := 1) C dX10_whyNotMarry_1 1 rfl ?_
  refine V.iload_n (pc := 2) C dX10_whyNotMarry_2 2 rfl ?_
  refine V.callV (pc := 3) (st := []) C (c_X10_areTwo l hN a ha x1 x2 m) obI ck_X10_areTwo ml_RX10_94 rfl rfl ha.s ha.k rfl rfl (Nat.le_of_ble_eq_true rfl) ⟨by decide, by decide⟩ dX10_whyNotMarry_3 (fun r_1 m_2 _ => ?_)
  refine V.if_ne (pc := 6) C dX10_whyNotMarry_6 11 (by decide) (fun _ => ?_) (fun _ => ?_)
  · refine V.aload_n (pc := 11) C dX10_whyNotMarry_11 0 rfl ?_
    refine V.getr (pc := 12) C fl_RX10_22 ha.s ha.k rfl ha.r2 dX10_whyNotMarry_12 ?_
    refine V.getr (pc := 15) C fl_RX10_98 ha.life.s ha.life.k rfl ha.life.r2 dX10_whyNotMarry_15 ?_
    refine V.iload_n (pc := 18) C dX10_whyNotMarry_18 1 rfl ?_
    refine V.iald (pc := 19) C ha.life.s2 ha.life.k2 dX10_whyNotMarry_19 (fun _ => ?_)
    refine V.iconst (pc := 20) C dX10_whyNotMarry_20 (v := (-1)) (by decide) ?_
    refine V.icmp_ne (pc := 21) C dX10_whyNotMarry_21 37 (by decide) (fun _ => ?_) (fun _ => ?_)
    · refine V.iconst (pc := 37) C dX10_whyNotMarry_37 (v := 2) (by decide) ?_
      exact V.iret C dX10_whyNotMarry_38
    · refine V.aload_n (pc := 24) C dX10_whyNotMarry_24 0 rfl ?_
      refine V.getr (pc := 25) C fl_RX10_22 ha.s ha.k rfl ha.r2 dX10_whyNotMarry_25 ?_
      refine V.getr (pc := 28) C fl_RX10_98 ha.life.s ha.life.k rfl ha.life.r2 dX10_whyNotMarry_28 ?_
      refine V.iload_n (pc := 31) C dX10_whyNotMarry_31 2 rfl ?_
      refine V.iald (pc := 32) C ha.life.s2 ha.life.k2 dX10_whyNotMarry_32 (fun _ => ?_)
      refine V.iconst (pc := 33) C dX10_whyNotMarry_33 (v := (-1)) (by decide) ?_
      refine V.icmp_eq (pc := 34) C dX10_whyNotMarry_34 39 (by decide) (fun _ => ?_) (fun _ => ?_)
      · refine V.aload_n (pc := 39) C dX10_whyNotMarry_39 0 rfl ?_
        refine V.iload_n (pc := 40) C dX10_whyNotMarry_40 1 rfl ?_
        refine V.iload_n (pc := 41) C dX10_whyNotMarry_41 2 rfl ?_
        refine V.callV (pc := 42) (st := []) C (c_X10_isAllowed l hN a ha x1 x2 m_2) obI ck_X10_isAllowed ml_RX10_101 rfl rfl ha.s ha.k rfl rfl (Nat.le_of_ble_eq_true rfl) ⟨by decide, by decide⟩ dX10_whyNotMarry_42 (fun r_3 m_4 _ => ?_)
        refine V.if_eq (pc := 45) C dX10_whyNotMarry_45 52 (by decide) (fun _ => ?_) (fun _ => ?_)
        · refine V.iconst (pc := 52) C dX10_whyNotMarry_52 (v := 3) (by decide) ?_
          exact V.iret C dX10_whyNotMarry_53
        · refine V.iconst (pc := 48) C dX10_whyNotMarry_48 (v := 0) (by decide) ?_
          refine V.goto (pc := 49) C dX10_whyNotMarry_49 53 (by decide) ?_
          exact V.iret C dX10_whyNotMarry_53
      · refine V.iconst (pc := 37) C dX10_whyNotMarry_37 (v := 2) (by decide) ?_
        exact V.iret C dX10_whyNotMarry_38
  · refine V.iconst (pc := 9) C dX10_whyNotMarry_9 (v := 1) (by decide) ?_
    exact V.iret C dX10_whyNotMarry_10
theorem c_X10_whyNotMarry (l : Launch) {N : Nat} (hN : 109 ≤ N) (a : Nat) (ha : isWorld N a) (x1 : Int32) (x2 : Int32) (m : Mem) : Ct l yX10_whyNotMarry cX10_whyNotMarry 3 (some .int) 4 SX oI N N RX RX [.ref a, .int x1, .int x2] m (X10_whyNotMarry a x1 x2 m) :=
  Ct.of (own := RX10) (nm := "whyNotMarry") (by decide) rfl rfl (Nat.le_of_ble_eq_true rfl) (fun _ _ _ _ _ _ _ _ _ _ _ C => v_X10_whyNotMarry C hN a ha x1 x2 m)
theorem dX5_marry_0 : decode cX5_marry 0 = .ok (.aload_n 0, 1) := by decide +kernel
theorem dX5_marry_1 : decode cX5_marry 1 = .ok (.getfield 15, 3) := by decide +kernel
theorem dX5_marry_4 : decode cX5_marry 4 = .ok (.iload_n 1, 1) := by decide +kernel
theorem dX5_marry_5 : decode cX5_marry 5 = .ok (.iload_n 2, 1) := by decide +kernel
theorem dX5_marry_6 : decode cX5_marry 6 = .ok (.iastore, 1) := by decide +kernel
theorem dX5_marry_7 : decode cX5_marry 7 = .ok (.aload_n 0, 1) := by decide +kernel
theorem dX5_marry_8 : decode cX5_marry 8 = .ok (.getfield 15, 3) := by decide +kernel
theorem dX5_marry_11 : decode cX5_marry 11 = .ok (.iload_n 2, 1) := by decide +kernel
theorem dX5_marry_12 : decode cX5_marry 12 = .ok (.iload_n 1, 1) := by decide +kernel
theorem dX5_marry_13 : decode cX5_marry 13 = .ok (.iastore, 1) := by decide +kernel
theorem dX5_marry_14 : decode cX5_marry 14 = .ok (.return_, 1) := by decide +kernel
set_option maxRecDepth 100000 in
set_option maxHeartbeats 4000000 in
theorem v_X5_marry {l : Launch} {p : Program} {e : Env} {s : State} {mt : MethodId} {args : Array Value} {below : List Frame} {meth : Method} {c : Code} {A : Nat → Prop} {ad0 : Nat → Nat} {G : Gt} {N : Nat} (C : Cx G p s mt args meth c RX5 cX5_marry 3 none "marry" A) (hN : 109 ≤ N) (a : Nat) (ha : isLife N a) (x1 : Int32) (x2 : Int32) (m : Mem) : V G SX oV l p e s mt args below meth c 3 1 A ad0 N N RX N RX 0 [(0, .ref a), (1, .int x1), (2, .int x2)] [] m (X5_marry a x1 x2 m) := by
  rw [X5_marry]
  refine V.aload_n (pc := 0) C dX5_marry_0 0 rfl ?_
  refine V.getr (pc := 1) C fl_RX5_15 ha.s ha.k rfl ha.r2 dX5_marry_1 ?_
  refine V.iload_n (pc := 4) C dX5_marry_4 1 rfl ?_
  refine V.iload_n (pc := 5) C dX5_marry_5 2 rfl ?_
  refine V.iast (pc := 6) C ha.s2 ha.k2 dX5_marry_6 (fun _ => ?_)
  refine V.ltm (fun m_1 => ?_)
  refine V.aload_n (pc := 7) C dX5_marry_7 0 rfl ?_
  refine V.getr (pc := 8) C fl_RX5_15 ha.s ha.k rfl ha.r2 dX5_marry_8 ?_
  refine V.iload_n (pc := 11) C dX5_marry_11 2 rfl ?_
  refine V.iload_n (pc := 12) C dX5_marry_12 1 rfl ?_
  refine V.iast (pc := 13) C ha.s2 ha.k2 dX5_marry_13 (fun _ => ?_)
  refine V.ltm (fun m_2 => ?_)
  exact V.vret C dX5_marry_14
theorem c_X5_marry (l : Launch) {N : Nat} (hN : 109 ≤ N) (a : Nat) (ha : isLife N a) (x1 : Int32) (x2 : Int32) (m : Mem) : Ct l yX5_marry cX5_marry 3 none 1 SX oV N N RX RX [.ref a, .int x1, .int x2] m (X5_marry a x1 x2 m) :=
  Ct.of (own := RX5) (nm := "marry") (by decide) rfl rfl (Nat.le_of_ble_eq_true rfl) (fun _ _ _ _ _ _ _ _ _ _ _ C => v_X5_marry C hN a ha x1 x2 m)
theorem dX10_attemptMarriage_0 : decode cX10_attemptMarriage 0 = .ok (.aload_n 0, 1) := by decide +kernel
theorem dX10_attemptMarriage_1 : decode cX10_attemptMarriage 1 = .ok (.iload_n 1, 1) := by decide +kernel
theorem dX10_attemptMarriage_2 : decode cX10_attemptMarriage 2 = .ok (.iload_n 2, 1) := by decide +kernel
theorem dX10_attemptMarriage_3 : decode cX10_attemptMarriage 3 = .ok (.invokevirtual 94, 3) := by decide +kernel
theorem dX10_attemptMarriage_6 : decode cX10_attemptMarriage 6 = .ok (.ifCond .eq 26, 3) := by decide +kernel
theorem dX10_attemptMarriage_9 : decode cX10_attemptMarriage 9 = .ok (.aload_n 0, 1) := by decide +kernel
theorem dX10_attemptMarriage_10 : decode cX10_attemptMarriage 10 = .ok (.getfield 22, 3) := by decide +kernel
theorem dX10_attemptMarriage_13 : decode cX10_attemptMarriage 13 = .ok (.getfield 98, 3) := by decide +kernel
theorem dX10_attemptMarriage_16 : decode cX10_attemptMarriage 16 = .ok (.iload_n 1, 1) := by decide +kernel
theorem dX10_attemptMarriage_17 : decode cX10_attemptMarriage 17 = .ok (.iaload, 1) := by decide +kernel
theorem dX10_attemptMarriage_18 : decode cX10_attemptMarriage 18 = .ok (.iload_n 2, 1) := by decide +kernel
theorem dX10_attemptMarriage_19 : decode cX10_attemptMarriage 19 = .ok (.if_icmp .ne 13, 3) := by decide +kernel
theorem dX10_attemptMarriage_22 : decode cX10_attemptMarriage 22 = .ok (.aload_n 0, 1) := by decide +kernel
theorem dX10_attemptMarriage_23 : decode cX10_attemptMarriage 23 = .ok (.getfield 22, 3) := by decide +kernel
theorem dX10_attemptMarriage_26 : decode cX10_attemptMarriage 26 = .ok (.iload_n 1, 1) := by decide +kernel
theorem dX10_attemptMarriage_27 : decode cX10_attemptMarriage 27 = .ok (.invokevirtual 141, 3) := by decide +kernel
theorem dX10_attemptMarriage_30 : decode cX10_attemptMarriage 30 = .ok (.iconst 0, 1) := by decide +kernel
theorem dX10_attemptMarriage_31 : decode cX10_attemptMarriage 31 = .ok (.ireturn, 1) := by decide +kernel
theorem dX10_attemptMarriage_32 : decode cX10_attemptMarriage 32 = .ok (.aload_n 0, 1) := by decide +kernel
theorem dX10_attemptMarriage_33 : decode cX10_attemptMarriage 33 = .ok (.iload_n 1, 1) := by decide +kernel
theorem dX10_attemptMarriage_34 : decode cX10_attemptMarriage 34 = .ok (.iload_n 2, 1) := by decide +kernel
theorem dX10_attemptMarriage_35 : decode cX10_attemptMarriage 35 = .ok (.invokevirtual 145, 3) := by decide +kernel
theorem dX10_attemptMarriage_38 : decode cX10_attemptMarriage 38 = .ok (.istore_n 3, 1) := by decide +kernel
theorem dX10_attemptMarriage_39 : decode cX10_attemptMarriage 39 = .ok (.iload_n 3, 1) := by decide +kernel
theorem dX10_attemptMarriage_40 : decode cX10_attemptMarriage 40 = .ok (.ifCond .ne 12, 3) := by decide +kernel
theorem dX10_attemptMarriage_43 : decode cX10_attemptMarriage 43 = .ok (.aload_n 0, 1) := by decide +kernel
theorem dX10_attemptMarriage_44 : decode cX10_attemptMarriage 44 = .ok (.getfield 22, 3) := by decide +kernel
theorem dX10_attemptMarriage_47 : decode cX10_attemptMarriage 47 = .ok (.iload_n 1, 1) := by decide +kernel
theorem dX10_attemptMarriage_48 : decode cX10_attemptMarriage 48 = .ok (.iload_n 2, 1) := by decide +kernel
theorem dX10_attemptMarriage_49 : decode cX10_attemptMarriage 49 = .ok (.invokevirtual 148, 3) := by decide +kernel
theorem dX10_attemptMarriage_52 : decode cX10_attemptMarriage 52 = .ok (.iload_n 3, 1) := by decide +kernel
theorem dX10_attemptMarriage_53 : decode cX10_attemptMarriage 53 = .ok (.ireturn, 1) := by decide +kernel
set_option maxRecDepth 100000 in
set_option maxHeartbeats 4000000 in
theorem v_X10_attemptMarriage_b32 {l : Launch} {p : Program} {e : Env} {s : State} {mt : MethodId} {args : Array Value} {below : List Frame} {meth : Method} {c : Code} {A : Nat → Prop} {ad0 : Nat → Nat} {G : Gt} {N : Nat} (C : Cx G p s mt args meth c RX10 cX10_attemptMarriage 4 (some .int) "attemptMarriage" A) (hN : 109 ≤ N) (a : Nat) (ha : isWorld N a) (y1 : Int32) (y2 : Int32) (m : Mem) : V G SX oI l p e s mt args below meth c 4 5 A ad0 N N RX N RX 32 [(0, .ref a), (1, .int y1), (2, .int y2)] [] m (X10_attemptMarriage_b32 a y1 y2 m) := by
  rw [X10_attemptMarriage_b32]
  refine V.aload_n (pc := 32) C dX10_attemptMarriage_32 0 rfl ?_
  refine V.iload_n (pc := 33) C dX10_attemptMarriage_33 1 rfl ?_
  refine V.iload_n (pc := 34) C dX10_attemptMarriage_34 2 rfl ?_
  refine V.callV (pc := 35) (st := []) C (c_X10_whyNotMarry l hN a ha y1 y2 m) obI ck_X10_whyNotMarry ml_RX10_145 rfl rfl ha.s ha.k rfl rfl (Nat.le_of_ble_eq_true rfl) ⟨by decide, by decide⟩ dX10_attemptMarriage_35 (fun r_3 m_4 _ => ?_)
  refine V.istore_n (pc := 38) C dX10_attemptMarriage_38 (L2 := [(3, .int r_3), (0, .ref a), (1, .int y1), (2, .int y2)]) (by decide) rfl ?_
  refine V.iload_n (pc := 39) C dX10_attemptMarriage_39 0 rfl ?_
  refine V.if_ne (pc := 40) C dX10_attemptMarriage_40 52 (by decide) (fun _ => ?_) (fun _ => ?_)
  · refine V.iload_n (pc := 52) C dX10_attemptMarriage_52 0 rfl ?_
    exact V.iret C dX10_attemptMarriage_53
  · refine V.aload_n (pc := 43) C dX10_attemptMarriage_43 1 rfl ?_
    refine V.getr (pc := 44) C fl_RX10_22 ha.s ha.k rfl ha.r2 dX10_attemptMarriage_44 ?_
    refine V.iload_n (pc := 47) C dX10_attemptMarriage_47 2 rfl ?_
    refine V.iload_n (pc := 48) C dX10_attemptMarriage_48 3 rfl ?_
    refine V.callV (pc := 49) (st := []) C (c_X5_marry l hN (a + 1) ha.life y1 y2 m_4) obV ck_X5_marry ml_RX10_148 rfl rfl ha.life.s ha.life.k rfl rfl (Nat.le_of_ble_eq_true rfl) ⟨by decide, by decide⟩ dX10_attemptMarriage_49 (fun r_5 m_6 _ => ?_)
    refine V.iload_n (pc := 52) C dX10_attemptMarriage_52 0 rfl ?_
    exact V.iret C dX10_attemptMarriage_53
set_option maxRecDepth 100000 in
set_option maxHeartbeats 4000000 in
theorem v_X10_attemptMarriage {l : Launch} {p : Program} {e : Env} {s : State} {mt : MethodId} {args : Array Value} {below : List Frame} {meth : Method} {c : Code} {A : Nat → Prop} {ad0 : Nat → Nat} {G : Gt} {N : Nat} (C : Cx G p s mt args meth c RX10 cX10_attemptMarriage 4 (some .int) "attemptMarriage" A) (hN : 109 ≤ N) (a : Nat) (ha : isWorld N a) (x1 : Int32) (x2 : Int32) (m : Mem) : V G SX oI l p e s mt args below meth c 4 5 A ad0 N N RX N RX 0 [(0, .ref a), (1, .int x1), (2, .int x2)] [] m (X10_attemptMarriage a x1 x2 m) := by
  rw [X10_attemptMarriage]
  refine V.aload_n (pc := 0) C dX10_attemptMarriage_0 0 rfl ?_
  refine V.iload_n (pc := 1) C dX10_attemptMarriage_1 1 rfl ?_
  refine V.iload_n (pc := 2) C dX10_attemptMarriage_2 2 rfl ?_
  refine V.callV (pc := 3) (st := []) C (c_X10_areTwo l hN a ha x1 x2 m) obI ck_X10_areTwo ml_RX10_94 rfl rfl ha.s ha.k rfl rfl (Nat.le_of_ble_eq_true rfl) ⟨by decide, by decide⟩ dX10_attemptMarriage_3 (fun r_1 m_2 _ => ?_)
  refine V.if_eq (pc := 6) C dX10_attemptMarriage_6 32 (by decide) (fun _ => ?_) (fun _ => ?_)
  · refine V.wk [0, 1, 2] rfl ?_
    exact v_X10_attemptMarriage_b32 C hN a ha x1 x2 m_2
  · refine V.aload_n (pc := 9) C dX10_attemptMarriage_9 0 rfl ?_
    refine V.getr (pc := 10) C fl_RX10_22 ha.s ha.k rfl ha.r2 dX10_attemptMarriage_10 ?_
    refine V.getr (pc := 13) C fl_RX10_98 ha.life.s ha.life.k rfl ha.life.r2 dX10_attemptMarriage_13 ?_
    refine V.iload_n (pc := 16) C dX10_attemptMarriage_16 1 rfl ?_
    refine V.iald (pc := 17) C ha.life.s2 ha.life.k2 dX10_attemptMarriage_17 (fun _ => ?_)
    refine V.iload_n (pc := 18) C dX10_attemptMarriage_18 2 rfl ?_
    refine V.icmp_ne (pc := 19) C dX10_attemptMarriage_19 32 (by decide) (fun _ => ?_) (fun _ => ?_)
    · refine V.wk [0, 1, 2] rfl ?_
      exact v_X10_attemptMarriage_b32 C hN a ha x1 x2 m_2
    · refine V.aload_n (pc := 22) C dX10_attemptMarriage_22 0 rfl ?_
      refine V.getr (pc := 23) C fl_RX10_22 ha.s ha.k rfl ha.r2 dX10_attemptMarriage_23 ?_
      refine V.iload_n (pc := 26) C dX10_attemptMarriage_26 1 rfl ?_
      refine V.callV (pc := 27) (st := []) C (c_X5_split l hN (a + 1) ha.life x1 m_2) obV ck_X5_split ml_RX10_141 rfl rfl ha.life.s ha.life.k rfl rfl (Nat.le_of_ble_eq_true rfl) ⟨by decide, by decide⟩ dX10_attemptMarriage_27 (fun r_7 m_8 _ => ?_)
      refine V.iconst (pc := 30) C dX10_attemptMarriage_30 (v := 0) (by decide) ?_
      exact V.iret C dX10_attemptMarriage_31
theorem c_X10_attemptMarriage (l : Launch) {N : Nat} (hN : 109 ≤ N) (a : Nat) (ha : isWorld N a) (x1 : Int32) (x2 : Int32) (m : Mem) : Ct l yX10_attemptMarriage cX10_attemptMarriage 4 (some .int) 5 SX oI N N RX RX [.ref a, .int x1, .int x2] m (X10_attemptMarriage a x1 x2 m) :=
  Ct.of (own := RX10) (nm := "attemptMarriage") (by decide) rfl rfl (Nat.le_of_ble_eq_true rfl) (fun _ _ _ _ _ _ _ _ _ _ _ C => v_X10_attemptMarriage C hN a ha x1 x2 m)
theorem dX10_whyNotTake_0 : decode cX10_whyNotTake 0 = .ok (.aload_n 0, 1) := by decide +kernel
theorem dX10_whyNotTake_1 : decode cX10_whyNotTake 1 = .ok (.iload_n 1, 1) := by decide +kernel
theorem dX10_whyNotTake_2 : decode cX10_whyNotTake 2 = .ok (.invokevirtual 35, 3) := by decide +kernel
theorem dX10_whyNotTake_5 : decode cX10_whyNotTake 5 = .ok (.ifCond .eq 11, 3) := by decide +kernel
theorem dX10_whyNotTake_8 : decode cX10_whyNotTake 8 = .ok (.aload_n 0, 1) := by decide +kernel
theorem dX10_whyNotTake_9 : decode cX10_whyNotTake 9 = .ok (.iload_n 2, 1) := by decide +kernel
theorem dX10_whyNotTake_10 : decode cX10_whyNotTake 10 = .ok (.invokevirtual 104, 3) := by decide +kernel
theorem dX10_whyNotTake_13 : decode cX10_whyNotTake 13 = .ok (.ifCond .ne 5, 3) := by decide +kernel
theorem dX10_whyNotTake_16 : decode cX10_whyNotTake 16 = .ok (.iconst 1, 1) := by decide +kernel
theorem dX10_whyNotTake_17 : decode cX10_whyNotTake 17 = .ok (.ireturn, 1) := by decide +kernel
theorem dX10_whyNotTake_18 : decode cX10_whyNotTake 18 = .ok (.aload_n 0, 1) := by decide +kernel
theorem dX10_whyNotTake_19 : decode cX10_whyNotTake 19 = .ok (.getfield 22, 3) := by decide +kernel
theorem dX10_whyNotTake_22 : decode cX10_whyNotTake 22 = .ok (.iload_n 1, 1) := by decide +kernel
theorem dX10_whyNotTake_23 : decode cX10_whyNotTake 23 = .ok (.iload_n 2, 1) := by decide +kernel
theorem dX10_whyNotTake_24 : decode cX10_whyNotTake 24 = .ok (.invokevirtual 107, 3) := by decide +kernel
theorem dX10_whyNotTake_27 : decode cX10_whyNotTake 27 = .ok (.ifCond .ne 11, 3) := by decide +kernel
theorem dX10_whyNotTake_30 : decode cX10_whyNotTake 30 = .ok (.aload_n 0, 1) := by decide +kernel
theorem dX10_whyNotTake_31 : decode cX10_whyNotTake 31 = .ok (.iload_n 1, 1) := by decide +kernel
theorem dX10_whyNotTake_32 : decode cX10_whyNotTake 32 = .ok (.invokevirtual 110, 3) := by decide +kernel
theorem dX10_whyNotTake_35 : decode cX10_whyNotTake 35 = .ok (.ifCond .eq 7, 3) := by decide +kernel
theorem dX10_whyNotTake_38 : decode cX10_whyNotTake 38 = .ok (.iconst 0, 1) := by decide +kernel
theorem dX10_whyNotTake_39 : decode cX10_whyNotTake 39 = .ok (.goto 4, 3) := by decide +kernel
theorem dX10_whyNotTake_42 : decode cX10_whyNotTake 42 = .ok (.iconst 4, 1) := by decide +kernel
theorem dX10_whyNotTake_43 : decode cX10_whyNotTake 43 = .ok (.ireturn, 1) := by decide +kernel
set_option maxRecDepth 100000 in
set_option maxHeartbeats 4000000 in
theorem v_X10_whyNotTake {l : Launch} {p : Program} {e : Env} {s : State} {mt : MethodId} {args : Array Value} {below : List Frame} {meth : Method} {c : Code} {A : Nat → Prop} {ad0 : Nat → Nat} {G : Gt} {N : Nat} (C : Cx G p s mt args meth c RX10 cX10_whyNotTake 3 (some .int) "whyNotTake" A) (hN : 109 ≤ N) (a : Nat) (ha : isWorld N a) (x1 : Int32) (x2 : Int32) (m : Mem) : V G SX oI l p e s mt args below meth c 3 3 A ad0 N N RX N RX 0 [(0, .ref a), (1, .int x1), (2, .int x2)] [] m (X10_whyNotTake a x1 x2 m) := by
  rw [X10_whyNotTake]
  refine V.aload_n (pc := 0) C dX10_whyNotTake_0 0 rfl ?_
  refine V.iload_n (pc := 1) C dX10_whyNotTake_1 1 rfl ?_
  refine V.callV (pc := 2) (st := []) C (c_X10_isPerson l hN a ha x1 m) obI ck_X10_isPerson ml_RX10_35 rfl rfl ha.s ha.k rfl rfl (Nat.le_of_ble_eq_true rfl) ⟨by decide, by decide⟩ dX10_whyNotTake_2 (fun r_1 m_2 _ => ?_)
  refine V.if_eq (pc := 5) C dX10_whyNotTake_5 16 (by decide) (fun _ => ?_) (fun _ => ?_)
  · refine V.iconst (pc := 16) C dX10_whyNotTake_16 (v := 1) (by decide) ?_
    exact V.iret C dX10_whyNotTake_17
  · refine V.aload_n (pc := 8) C dX10_whyNotTake_8 0 rfl ?_
    refine V.iload_n (pc := 9) C dX10_whyNotTake_9 2 rfl ?_
    refine V.callV (pc := 10) (st := []) C (c_X10_isThing l hN a ha x2 m_2) obI ck_X10_isThing ml_RX10_104 rfl rfl ha.s ha.k rfl rfl (Nat.le_of_ble_eq_true rfl) ⟨by decide, by decide⟩ dX10_whyNotTake_10 (fun r_3 m_4 _ => ?_)
    refine V.if_ne (pc := 13) C dX10_whyNotTake_13 18 (by decide) (fun _ => ?_) (fun _ => ?_)
    · refine V.aload_n (pc := 18) C dX10_whyNotTake_18 0 rfl ?_
      refine V.getr (pc := 19) C fl_RX10_22 ha.s ha.k rfl ha.r2 dX10_whyNotTake_19 ?_
      refine V.iload_n (pc := 22) C dX10_whyNotTake_22 1 rfl ?_
      refine V.iload_n (pc := 23) C dX10_whyNotTake_23 2 rfl ?_
      refine V.callV (pc := 24) (st := []) C (c_X5_has l hN (a + 1) ha.life x1 x2 m_4) obI ck_X5_has ml_RX10_107 rfl rfl ha.life.s ha.life.k rfl rfl (Nat.le_of_ble_eq_true rfl) ⟨by decide, by decide⟩ dX10_whyNotTake_24 (fun r_5 m_6 _ => ?_)
      refine V.if_ne (pc := 27) C dX10_whyNotTake_27 38 (by decide) (fun _ => ?_) (fun _ => ?_)
      · refine V.iconst (pc := 38) C dX10_whyNotTake_38 (v := 0) (by decide) ?_
        refine V.goto (pc := 39) C dX10_whyNotTake_39 43 (by decide) ?_
        exact V.iret C dX10_whyNotTake_43
      · refine V.aload_n (pc := 30) C dX10_whyNotTake_30 0 rfl ?_
        refine V.iload_n (pc := 31) C dX10_whyNotTake_31 1 rfl ?_
        refine V.callV (pc := 32) (st := []) C (c_X10_hasRoom l hN a ha x1 m_6) obI ck_X10_hasRoom ml_RX10_110 rfl rfl ha.s ha.k rfl rfl (Nat.le_of_ble_eq_true rfl) ⟨by decide, by decide⟩ dX10_whyNotTake_32 (fun r_7 m_8 _ => ?_)
        refine V.if_eq (pc := 35) C dX10_whyNotTake_35 42 (by decide) (fun _ => ?_) (fun _ => ?_)
        · refine V.iconst (pc := 42) C dX10_whyNotTake_42 (v := 4) (by decide) ?_
          exact V.iret C dX10_whyNotTake_43
        · refine V.iconst (pc := 38) C dX10_whyNotTake_38 (v := 0) (by decide) ?_
          refine V.goto (pc := 39) C dX10_whyNotTake_39 43 (by decide) ?_
          exact V.iret C dX10_whyNotTake_43
    · refine V.iconst (pc := 16) C dX10_whyNotTake_16 (v := 1) (by decide) ?_
      exact V.iret C dX10_whyNotTake_17
theorem c_X10_whyNotTake (l : Launch) {N : Nat} (hN : 109 ≤ N) (a : Nat) (ha : isWorld N a) (x1 : Int32) (x2 : Int32) (m : Mem) : Ct l yX10_whyNotTake cX10_whyNotTake 3 (some .int) 3 SX oI N N RX RX [.ref a, .int x1, .int x2] m (X10_whyNotTake a x1 x2 m) :=
  Ct.of (own := RX10) (nm := "whyNotTake") (by decide) rfl rfl (Nat.le_of_ble_eq_true rfl) (fun _ _ _ _ _ _ _ _ _ _ _ C => v_X10_whyNotTake C hN a ha x1 x2 m)
theorem dX10_takeOrGive_0 : decode cX10_takeOrGive 0 = .ok (.aload_n 0, 1) := by decide +kernel
theorem dX10_takeOrGive_1 : decode cX10_takeOrGive 1 = .ok (.getfield 22, 3) := by decide +kernel
theorem dX10_takeOrGive_4 : decode cX10_takeOrGive 4 = .ok (.iload_n 1, 1) := by decide +kernel
theorem dX10_takeOrGive_5 : decode cX10_takeOrGive 5 = .ok (.iload_n 2, 1) := by decide +kernel
theorem dX10_takeOrGive_6 : decode cX10_takeOrGive 6 = .ok (.invokevirtual 107, 3) := by decide +kernel
theorem dX10_takeOrGive_9 : decode cX10_takeOrGive 9 = .ok (.ifCond .eq 15, 3) := by decide +kernel
theorem dX10_takeOrGive_12 : decode cX10_takeOrGive 12 = .ok (.aload_n 0, 1) := by decide +kernel
theorem dX10_takeOrGive_13 : decode cX10_takeOrGive 13 = .ok (.getfield 22, 3) := by decide +kernel
theorem dX10_takeOrGive_16 : decode cX10_takeOrGive 16 = .ok (.iload_n 1, 1) := by decide +kernel
theorem dX10_takeOrGive_17 : decode cX10_takeOrGive 17 = .ok (.iload_n 2, 1) := by decide +kernel
theorem dX10_takeOrGive_18 : decode cX10_takeOrGive 18 = .ok (.invokevirtual 116, 3) := by decide +kernel
theorem dX10_takeOrGive_21 : decode cX10_takeOrGive 21 = .ok (.goto 13, 3) := by decide +kernel
theorem dX10_takeOrGive_24 : decode cX10_takeOrGive 24 = .ok (.aload_n 0, 1) := by decide +kernel
theorem dX10_takeOrGive_25 : decode cX10_takeOrGive 25 = .ok (.getfield 22, 3) := by decide +kernel
theorem dX10_takeOrGive_28 : decode cX10_takeOrGive 28 = .ok (.iload_n 1, 1) := by decide +kernel
theorem dX10_takeOrGive_29 : decode cX10_takeOrGive 29 = .ok (.iload_n 2, 1) := by decide +kernel
theorem dX10_takeOrGive_30 : decode cX10_takeOrGive 30 = .ok (.iconst 0, 1) := by decide +kernel
theorem dX10_takeOrGive_31 : decode cX10_takeOrGive 31 = .ok (.invokevirtual 120, 3) := by decide +kernel
theorem dX10_takeOrGive_34 : decode cX10_takeOrGive 34 = .ok (.return_, 1) := by decide +kernel
set_option maxRecDepth 100000 in
set_option maxHeartbeats 4000000 in
theorem v_X10_takeOrGive {l : Launch} {p : Program} {e : Env} {s : State} {mt : MethodId} {args : Array Value} {below : List Frame} {meth : Method} {c : Code} {A : Nat → Prop} {ad0 : Nat → Nat} {G : Gt} {N : Nat} (C : Cx G p s mt args meth c RX10 cX10_takeOrGive 3 none "takeOrGive" A) (hN : 109 ≤ N) (a : Nat) (ha : isWorld N a) (x1 : Int32) (x2 : Int32) (m : Mem) : V G SX oV l p e s mt args below meth c 3 2 A ad0 N N RX N RX 0 [(0, .ref a), (1, .int x1), (2, .int x2)] [] m (X10_takeOrGive a x1 x2 m) := by
  rw [X10_takeOrGive]
  refine V.aload_n (pc := 0) C dX10_takeOrGive_0 0 rfl ?_
  refine V.getr (pc := 1) C fl_RX10_22 ha.s ha.k rfl ha.r2 dX10_takeOrGive_1 ?_
  refine V.iload_n (pc := 4) C dX10_takeOrGive_4 1 rfl ?_
  refine V.iload_n (pc := 5) C dX10_takeOrGive_5 2 rfl ?_
  refine V.callV (pc := 6) (st := []) C (c_X5_has l hN (a + 1) ha.life x1 x2 m) obI ck_X5_has ml_RX10_107 rfl rfl ha.life.s ha.life.k rfl rfl (Nat.le_of_ble_eq_true rfl) ⟨by decide, by decide⟩ dX10_takeOrGive_6 (fun r_1 m_2 _ => ?_)
  refine V.if_eq (pc := 9) C dX10_takeOrGive_9 24 (by decide) (fun _ => ?_) (fun _ => ?_)
  · refine V.aload_n (pc := 24) C dX10_takeOrGive_24 0 rfl ?_
    refine V.getr (pc := 25) C fl_RX10_22 ha.s ha.k rfl ha.r2 dX10_takeOrGive_25 ?_
    refine V.iload_n (pc := 28) C dX10_takeOrGive_28 1 rfl ?_
    refine V.iload_n (pc := 29) C dX10_takeOrGive_29 2 rfl ?_
    refine V.iconst (pc := 30) C dX10_takeOrGive_30 (v := 0) (by decide) ?_
    refine V.callV (pc := 31) (st := []) C (c_X5_adopt l hN (a + 1) ha.life x1 x2 0 m_2) obV ck_X5_adopt ml_RX10_120 rfl rfl ha.life.s ha.life.k rfl rfl (Nat.le_of_ble_eq_true rfl) ⟨by decide, by decide⟩ dX10_takeOrGive_31 (fun r_3 m_4 _ => ?_)
    exact V.vret C dX10_takeOrGive_34
  · refine V.aload_n (pc := 12) C dX10_takeOrGive_12 0 rfl ?_
    refine V.getr (pc := 13) C fl_RX10_22 ha.s ha.k rfl ha.r2 dX10_takeOrGive_13 ?_
    refine V.iload_n (pc := 16) C dX10_takeOrGive_16 1 rfl ?_
    refine V.iload_n (pc := 17) C dX10_takeOrGive_17 2 rfl ?_
    refine V.callV (pc := 18) (st := []) C (c_X5_drop l hN (a + 1) ha.life x1 x2 m_2) obV ck_X5_drop ml_RX10_116 rfl rfl ha.life.s ha.life.k rfl rfl (Nat.le_of_ble_eq_true rfl) ⟨by decide, by decide⟩ dX10_takeOrGive_18 (fun r_5 m_6 _ => ?_)
    refine V.goto (pc := 21) C dX10_takeOrGive_21 34 (by decide) ?_
    exact V.vret C dX10_takeOrGive_34
theorem c_X10_takeOrGive (l : Launch) {N : Nat} (hN : 109 ≤ N) (a : Nat) (ha : isWorld N a) (x1 : Int32) (x2 : Int32) (m : Mem) : Ct l yX10_takeOrGive cX10_takeOrGive 3 none 2 SX oV N N RX RX [.ref a, .int x1, .int x2] m (X10_takeOrGive a x1 x2 m) :=
  Ct.of (own := RX10) (nm := "takeOrGive") (by decide) rfl rfl (Nat.le_of_ble_eq_true rfl) (fun _ _ _ _ _ _ _ _ _ _ _ C => v_X10_takeOrGive C hN a ha x1 x2 m)
theorem dX10_attemptTaking_0 : decode cX10_attemptTaking 0 = .ok (.aload_n 0, 1) := by decide +kernel
theorem dX10_attemptTaking_1 : decode cX10_attemptTaking 1 = .ok (.iload_n 1, 1) := by decide +kernel
theorem dX10_attemptTaking_2 : decode cX10_attemptTaking 2 = .ok (.iload_n 2, 1) := by decide +kernel
theorem dX10_attemptTaking_3 : decode cX10_attemptTaking 3 = .ok (.invokevirtual 151, 3) := by decide +kernel
theorem dX10_attemptTaking_6 : decode cX10_attemptTaking 6 = .ok (.istore_n 3, 1) := by decide +kernel
theorem dX10_attemptTaking_7 : decode cX10_attemptTaking 7 = .ok (.iload_n 3, 1) := by decide +kernel
theorem dX10_attemptTaking_8 : decode cX10_attemptTaking 8 = .ok (.ifCond .ne 9, 3) := by decide +kernel
theorem dX10_attemptTaking_11 : decode cX10_attemptTaking 11 = .ok (.aload_n 0, 1) := by decide +kernel
theorem dX10_attemptTaking_12 : decode cX10_attemptTaking 12 = .ok (.iload_n 1, 1) := by decide +kernel
theorem dX10_attemptTaking_13 : decode cX10_attemptTaking 13 = .ok (.iload_n 2, 1) := by decide +kernel
theorem dX10_attemptTaking_14 : decode cX10_attemptTaking 14 = .ok (.invokevirtual 154, 3) := by decide +kernel
theorem dX10_attemptTaking_17 : decode cX10_attemptTaking 17 = .ok (.iload_n 3, 1) := by decide +kernel
theorem dX10_attemptTaking_18 : decode cX10_attemptTaking 18 = .ok (.ireturn, 1) := by decide +kernel
set_option maxRecDepth 100000 in
set_option maxHeartbeats 4000000 in
theorem v_X10_attemptTaking {l : Launch} {p : Program} {e : Env} {s : State} {mt : MethodId} {args : Array Value} {below : List Frame} {meth : Method} {c : Code} {A : Nat → Prop} {ad0 : Nat → Nat} {G : Gt} {N : Nat} (C : Cx G p s mt args meth c RX10 cX10_attemptTaking 4 (some .int) "attemptTaking" A) (hN : 109 ≤ N) (a : Nat) (ha : isWorld N a) (x1 : Int32) (x2 : Int32) (m : Mem) : V G SX oI l p e s mt args below meth c 4 4 A ad0 N N RX N RX 0 [(0, .ref a), (1, .int x1), (2, .int x2)] [] m (X10_attemptTaking a x1 x2 m) := by
  rw [X10_attemptTaking]
  refine V.aload_n (pc := 0) C dX10_attemptTaking_0 0 rfl ?_
  refine V.iload_n (pc := 1) C dX10_attemptTaking_1 1 rfl ?_
  refine V.iload_n (pc := 2) C dX10_attemptTaking_2 2 rfl ?_
  refine V.callV (pc := 3) (st := []) C (c_X10_whyNotTake l hN a ha x1 x2 m) obI ck_X10_whyNotTake ml_RX10_151 rfl rfl ha.s ha.k rfl rfl (Nat.le_of_ble_eq_true rfl) ⟨by decide, by decide⟩ dX10_attemptTaking_3 (fun r_1 m_2 _ => ?_)
  refine V.istore_n (pc := 6) C dX10_attemptTaking_6 (L2 := [(3, .int r_1), (0, .ref a), (1, .int x1), (2, .int x2)]) (by decide) rfl ?_
  refine V.iload_n (pc := 7) C dX10_attemptTaking_7 0 rfl ?_
  refine V.if_ne (pc := 8) C dX10_attemptTaking_8 17 (by decide) (fun _ => ?_) (fun _ => ?_)
  · refine V.iload_n (pc := 17) C dX10_attemptTaking_17 0 rfl ?_
    exact V.iret C dX10_attemptTaking_18
  · refine V.aload_n (pc := 11) C dX10_attemptTaking_11 1 rfl ?_
    refine V.iload_n (pc := 12) C dX10_attemptTaking_12 2 rfl ?_
    refine V.iload_n (pc := 13) C dX10_attemptTaking_13 3 rfl ?_
    refine V.callV (pc := 14) (st := []) C (c_X10_takeOrGive l hN a ha x1 x2 m_2) obV ck_X10_takeOrGive ml_RX10_154 rfl rfl ha.s ha.k rfl rfl (Nat.le_of_ble_eq_true rfl) ⟨by decide, by decide⟩ dX10_attemptTaking_14 (fun r_3 m_4 _ => ?_)
    refine V.iload_n (pc := 17) C dX10_attemptTaking_17 0 rfl ?_
    exact V.iret C dX10_attemptTaking_18
theorem c_X10_attemptTaking (l : Launch) {N : Nat} (hN : 109 ≤ N) (a : Nat) (ha : isWorld N a) (x1 : Int32) (x2 : Int32) (m : Mem) : Ct l yX10_attemptTaking cX10_attemptTaking 4 (some .int) 4 SX oI N N RX RX [.ref a, .int x1, .int x2] m (X10_attemptTaking a x1 x2 m) :=
  Ct.of (own := RX10) (nm := "attemptTaking") (by decide) rfl rfl (Nat.le_of_ble_eq_true rfl) (fun _ _ _ _ _ _ _ _ _ _ _ C => v_X10_attemptTaking C hN a ha x1 x2 m)
theorem dX5_copyList_0 : decode cX5_copyList 0 = .ok (.iconst 0, 1) := by decide +kernel
theorem dX5_copyList_1 : decode cX5_copyList 1 = .ok (.istore_n 3, 1) := by decide +kernel
theorem dX5_copyList_2 : decode cX5_copyList 2 = .ok (.iload_n 3, 1) := by decide +kernel
theorem dX5_copyList_3 : decode cX5_copyList 3 = .ok (.bipush 14, 2) := by decide +kernel
theorem dX5_copyList_5 : decode cX5_copyList 5 = .ok (.if_icmp .ge 44, 3) := by decide +kernel
theorem dX5_copyList_8 : decode cX5_copyList 8 = .ok (.aload_n 0, 1) := by decide +kernel
theorem dX5_copyList_9 : decode cX5_copyList 9 = .ok (.iload_n 2, 1) := by decide +kernel
theorem dX5_copyList_10 : decode cX5_copyList 10 = .ok (.iload_n 3, 1) := by decide +kernel
theorem dX5_copyList_11 : decode cX5_copyList 11 = .ok (.invokevirtual 37, 3) := by decide +kernel
theorem dX5_copyList_14 : decode cX5_copyList 14 = .ok (.ifCond .eq 23, 3) := by decide +kernel
theorem dX5_copyList_17 : decode cX5_copyList 17 = .ok (.aload_n 0, 1) := by decide +kernel
theorem dX5_copyList_18 : decode cX5_copyList 18 = .ok (.iload_n 1, 1) := by decide +kernel
theorem dX5_copyList_19 : decode cX5_copyList 19 = .ok (.iload_n 3, 1) := by decide +kernel
theorem dX5_copyList_20 : decode cX5_copyList 20 = .ok (.aload_n 0, 1) := by decide +kernel
theorem dX5_copyList_21 : decode cX5_copyList 21 = .ok (.getfield 24, 3) := by decide +kernel
theorem dX5_copyList_24 : decode cX5_copyList 24 = .ok (.iload_n 2, 1) := by decide +kernel
theorem dX5_copyList_25 : decode cX5_copyList 25 = .ok (.bipush 14, 2) := by decide +kernel
theorem dX5_copyList_27 : decode cX5_copyList 27 = .ok (.imul, 1) := by decide +kernel
theorem dX5_copyList_28 : decode cX5_copyList 28 = .ok (.iload_n 3, 1) := by decide +kernel
theorem dX5_copyList_29 : decode cX5_copyList 29 = .ok (.iadd, 1) := by decide +kernel
theorem dX5_copyList_30 : decode cX5_copyList 30 = .ok (.iaload, 1) := by decide +kernel
theorem dX5_copyList_31 : decode cX5_copyList 31 = .ok (.invokevirtual 41, 3) := by decide +kernel
theorem dX5_copyList_34 : decode cX5_copyList 34 = .ok (.goto 9, 3) := by decide +kernel
theorem dX5_copyList_37 : decode cX5_copyList 37 = .ok (.aload_n 0, 1) := by decide +kernel
theorem dX5_copyList_38 : decode cX5_copyList 38 = .ok (.iload_n 1, 1) := by decide +kernel
theorem dX5_copyList_39 : decode cX5_copyList 39 = .ok (.iload_n 3, 1) := by decide +kernel
theorem dX5_copyList_40 : decode cX5_copyList 40 = .ok (.invokevirtual 45, 3) := by decide +kernel
theorem dX5_copyList_43 : decode cX5_copyList 43 = .ok (.iinc 3 1, 3) := by decide +kernel
theorem dX5_copyList_46 : decode cX5_copyList 46 = .ok (.goto (-44), 3) := by decide +kernel
theorem dX5_copyList_49 : decode cX5_copyList 49 = .ok (.return_, 1) := by decide +kernel
set_option maxRecDepth 100000 in
set_option maxHeartbeats 4000000 in
theorem v_X5_copyList_b2 {l : Launch} {p : Program} {e : Env} {s : State} {mt : MethodId} {args : Array Value} {below : List Frame} {meth : Method} {c : Code} {A : Nat → Prop} {ad0 : Nat → Nat} {G : Gt} {N : Nat} (C : Cx G p s mt args meth c RX5 cX5_copyList 4 none "copyList" A) (hN : 109 ≤ N) (a : Nat) (ha : isLife N a) : ∀ (n : Nat) (y1 : Int32) (y2 : Int32) (y3 : Int32) (m : Mem), V G SX oV l p e s mt args below meth c 4 2 A ad0 N N RX N RX 2 [(0, .ref a), (1, .int y1), (2, .int y2), (3, .int y3)] [] m (X5_copyList_b2 a n y1 y2 y3 m) := by
  intro n
  induction n with
  | zero =>
    intro y1 y2 y3 m
    rw [X5_copyList_b2]
    exact V.nil
  | succ n ih =>
    intro y1 y2 y3 m
    rw [X5_copyList_b2]
    refine V.iload_n (pc := 2) C dX5_copyList_2 3 rfl ?_
    refine V.bipush (pc := 3) C dX5_copyList_3 (v := 14) (by decide) ?_
    refine V.icmp_ge (pc := 5) C dX5_copyList_5 49 (by decide) (fun _ => ?_) (fun _ => ?_)
    · exact V.vret C dX5_copyList_49
    · refine V.aload_n (pc := 8) C dX5_copyList_8 0 rfl ?_
      refine V.iload_n (pc := 9) C dX5_copyList_9 2 rfl ?_
      refine V.iload_n (pc := 10) C dX5_copyList_10 3 rfl ?_
      refine V.callV (pc := 11) (st := []) C (c_X5_has l hN a ha y2 y3 m) obI ck_X5_has ml_RX5_37 rfl rfl ha.s ha.k rfl rfl (Nat.le_of_ble_eq_true rfl) ⟨by decide, by decide⟩ dX5_copyList_11 (fun r_1 m_2 _ => ?_)
      refine V.if_eq (pc := 14) C dX5_copyList_14 37 (by decide) (fun _ => ?_) (fun _ => ?_)
      · refine V.aload_n (pc := 37) C dX5_copyList_37 0 rfl ?_
        refine V.iload_n (pc := 38) C dX5_copyList_38 1 rfl ?_
        refine V.iload_n (pc := 39) C dX5_copyList_39 3 rfl ?_
        refine V.callV (pc := 40) (st := []) C (c_X5_drop l hN a ha y1 y3 m_2) obV ck_X5_drop ml_RX5_45 rfl rfl ha.s ha.k rfl rfl (Nat.le_of_ble_eq_true rfl) ⟨by decide, by decide⟩ dX5_copyList_40 (fun r_3 m_4 _ => ?_)
        refine V.iinc (pc := 43) C dX5_copyList_43 (v := 1) (L2 := [(3, .int (y3 + 1)), (0, .ref a), (1, .int y1), (2, .int y2)]) 3 rfl (by decide) (by decide) rfl ?_
        refine V.goto (pc := 46) C dX5_copyList_46 2 (by decide) ?_
        refine V.wk [1, 2, 3, 0] rfl ?_
        exact ih y1 y2 (y3 + 1) m_4
      · refine V.aload_n (pc := 17) C dX5_copyList_17 0 rfl ?_
        refine V.iload_n (pc := 18) C dX5_copyList_18 1 rfl ?_
        refine V.iload_n (pc := 19) C dX5_copyList_19 3 rfl ?_
        refine V.aload_n (pc := 20) C dX5_copyList_20 0 rfl ?_
        refine V.getr (pc := 21) C fl_RX5_24 ha.s ha.k rfl ha.r5 dX5_copyList_21 ?_
        refine V.iload_n (pc := 24) C dX5_copyList_24 2 rfl ?_
        refine V.bipush (pc := 25) C dX5_copyList_25 (v := 14) (by decide) ?_
        refine V.imul (pc := 27) C dX5_copyList_27 ?_
        refine V.iload_n (pc := 28) C dX5_copyList_28 3 rfl ?_
        refine V.iadd (pc := 29) C dX5_copyList_29 ?_
        refine V.iald (pc := 30) C ha.s5 ha.k5 dX5_copyList_30 (fun _ => ?_)
        refine V.callV (pc := 31) (st := []) C (c_X5_adopt l hN a ha y1 y3 (gi m_2 (a + 5) (ix ((y2 * 14) + y3))) m_2) obV ck_X5_adopt ml_RX5_41 rfl rfl ha.s ha.k rfl rfl (Nat.le_of_ble_eq_true rfl) ⟨by decide, by decide⟩ dX5_copyList_31 (fun r_5 m_6 _ => ?_)
        refine V.goto (pc := 34) C dX5_copyList_34 43 (by decide) ?_
        refine V.iinc (pc := 43) C dX5_copyList_43 (v := 1) (L2 := [(3, .int (y3 + 1)), (0, .ref a), (1, .int y1), (2, .int y2)]) 3 rfl (by decide) (by decide) rfl ?_
        refine V.goto (pc := 46) C dX5_copyList_46 2 (by decide) ?_
        refine V.wk [1, 2, 3, 0] rfl ?_
        exact ih y1 y2 (y3 + 1) m_6
set_option maxRecDepth 100000 in
set_option maxHeartbeats 4000000 in
theorem v_X5_copyList {l : Launch} {p : Program} {e : Env} {s : State} {mt : MethodId} {args : Array Value} {below : List Frame} {meth : Method} {c : Code} {A : Nat → Prop} {ad0 : Nat → Nat} {G : Gt} {N : Nat} (C : Cx G p s mt args meth c RX5 cX5_copyList 4 none "copyList" A) (hN : 109 ≤ N) (a : Nat) (ha : isLife N a) (x1 : Int32) (x2 : Int32) (m : Mem) : V G SX oV l p e s mt args below meth c 4 2 A ad0 N N RX N RX 0 [(0, .ref a), (1, .int x1), (2, .int x2)] [] m (X5_copyList a x1 x2 m) := by
  rw [X5_copyList]
  refine V.iconst (pc := 0) C dX5_copyList_0 (v := 0) (by decide) ?_
  refine V.istore_n (pc := 1) C dX5_copyList_1 (L2 := [(3, .int 0), (0, .ref a), (1, .int x1), (2, .int x2)]) (by decide) rfl ?_
  refine V.wk [1, 2, 3, 0] rfl ?_
  exact v_X5_copyList_b2 C hN a ha FU x1 x2 0 m
theorem c_X5_copyList (l : Launch) {N : Nat} (hN : 109 ≤ N) (a : Nat) (ha : isLife N a) (x1 : Int32) (x2 : Int32) (m : Mem) : Ct l yX5_copyList cX5_copyList 4 none 2 SX oV N N RX RX [.ref a, .int x1, .int x2] m (X5_copyList a x1 x2 m) :=
  Ct.of (own := RX5) (nm := "copyList") (by decide) rfl rfl (Nat.le_of_ble_eq_true rfl) (fun _ _ _ _ _ _ _ _ _ _ _ C => v_X5_copyList C hN a ha x1 x2 m)
theorem dX10_attemptCopy_0 : decode cX10_attemptCopy 0 = .ok (.aload_n 0, 1) := by decide +kernel
theorem dX10_attemptCopy_1 : decode cX10_attemptCopy 1 = .ok (.iload_n 1, 1) := by decide +kernel
theorem dX10_attemptCopy_2 : decode cX10_attemptCopy 2 = .ok (.iload_n 2, 1) := by decide +kernel
theorem dX10_attemptCopy_3 : decode cX10_attemptCopy 3 = .ok (.invokevirtual 94, 3) := by decide +kernel
theorem dX10_attemptCopy_6 : decode cX10_attemptCopy 6 = .ok (.ifCond .ne 5, 3) := by decide +kernel
theorem dX10_attemptCopy_9 : decode cX10_attemptCopy 9 = .ok (.iconst 1, 1) := by decide +kernel
theorem dX10_attemptCopy_10 : decode cX10_attemptCopy 10 = .ok (.ireturn, 1) := by decide +kernel
theorem dX10_attemptCopy_11 : decode cX10_attemptCopy 11 = .ok (.aload_n 0, 1) := by decide +kernel
theorem dX10_attemptCopy_12 : decode cX10_attemptCopy 12 = .ok (.getfield 22, 3) := by decide +kernel
theorem dX10_attemptCopy_15 : decode cX10_attemptCopy 15 = .ok (.iload_n 1, 1) := by decide +kernel
theorem dX10_attemptCopy_16 : decode cX10_attemptCopy 16 = .ok (.iload_n 2, 1) := by decide +kernel
theorem dX10_attemptCopy_17 : decode cX10_attemptCopy 17 = .ok (.invokevirtual 157, 3) := by decide +kernel
theorem dX10_attemptCopy_20 : decode cX10_attemptCopy 20 = .ok (.iconst 0, 1) := by decide +kernel
theorem dX10_attemptCopy_21 : decode cX10_attemptCopy 21 = .ok (.ireturn, 1) := by decide +kernel
set_option maxRecDepth 100000 in
set_option maxHeartbeats 4000000 in
theorem v_X10_attemptCopy {l : Launch} {p : Program} {e : Env} {s : State} {mt : MethodId} {args : Array Value} {below : List Frame} {meth : Method} {c : Code} {A : Nat → Prop} {ad0 : Nat → Nat} {G : Gt} {N : Nat} (C : Cx G p s mt args meth c RX10 cX10_attemptCopy 3 (some .int) "attemptCopy" A) (hN : 109 ≤ N) (a : Nat) (ha : isWorld N a) (x1 : Int32) (x2 : Int32) (m : Mem) : V G SX oI l p e s mt args below meth c 3 3 A ad0 N N RX N RX 0 [(0, .ref a), (1, .int x1), (2, .int x2)] [] m (X10_attemptCopy a x1 x2 m) := by
  rw [X10_attemptCopy]
  refine V.aload_n (pc := 0) C dX10_attemptCopy_0 0 rfl ?_
  refine V.iload_n (pc := 1) C dX10_attemptCopy_1 1 rfl ?_
  refine V.iload_n (pc := 2) C dX10_attemptCopy_2 2 rfl ?_
  refine V.callV (pc := 3) (st := []) C (c_X10_areTwo l hN a ha x1 x2 m) obI ck_X10_areTwo ml_RX10_94 rfl rfl ha.s ha.k rfl rfl (Nat.le_of_ble_eq_true rfl) ⟨by decide, by decide⟩ dX10_attemptCopy_3 (fun r_1 m_2 _ => ?_)
  refine V.if_ne (pc := 6) C dX10_attemptCopy_6 11 (by decide) (fun _ => ?_) (fun _ => ?_)
  · refine V.aload_n (pc := 11) C dX10_attemptCopy_11 0 rfl ?_
    refine V.getr (pc := 12) C fl_RX10_22 ha.s ha.k rfl ha.r2 dX10_attemptCopy_12 ?_
    refine V.iload_n (pc := 15) C dX10_attemptCopy_15 1 rfl ?_
    refine V.iload_n (pc := 16) C dX10_attemptCopy_16 2 rfl ?_
    refine V.callV (pc := 17) (st := []) C (c_X5_copyList l hN (a + 1) ha.life x1 x2 m_2) obV ck_X5_copyList ml_RX10_157 rfl rfl ha.life.s ha.life.k rfl rfl (Nat.le_of_ble_eq_true rfl) ⟨by decide, by decide⟩ dX10_attemptCopy_17 (fun r_3 m_4 _ => ?_)
    refine V.iconst (pc := 20) C dX10_attemptCopy_20 (v := 0) (by decide) ?_
    exact V.iret C dX10_attemptCopy_21
  · refine V.iconst (pc := 9) C dX10_attemptCopy_9 (v := 1) (by decide) ?_
    exact V.iret C dX10_attemptCopy_10
theorem c_X10_attemptCopy (l : Launch) {N : Nat} (hN : 109 ≤ N) (a : Nat) (ha : isWorld N a) (x1 : Int32) (x2 : Int32) (m : Mem) : Ct l yX10_attemptCopy cX10_attemptCopy 3 (some .int) 3 SX oI N N RX RX [.ref a, .int x1, .int x2] m (X10_attemptCopy a x1 x2 m) :=
  Ct.of (own := RX10) (nm := "attemptCopy") (by decide) rfl rfl (Nat.le_of_ble_eq_true rfl) (fun _ _ _ _ _ _ _ _ _ _ _ C => v_X10_attemptCopy C hN a ha x1 x2 m)
theorem dX10_attempt_0 : decode cX10_attempt 0 = .ok (.lload_n 1, 1) := by decide +kernel
theorem dX10_attempt_1 : decode cX10_attempt 1 = .ok (.ldc2_w 124, 3) := by decide +kernel
theorem dX10_attempt_4 : decode cX10_attempt 4 = .ok (.lcmp, 1) := by decide +kernel
theorem dX10_attempt_5 : decode cX10_attempt 5 = .ok (.ifCond .ne 10, 3) := by decide +kernel
theorem dX10_attempt_8 : decode cX10_attempt 8 = .ok (.aload_n 0, 1) := by decide +kernel
theorem dX10_attempt_9 : decode cX10_attempt 9 = .ok (.invokevirtual 126, 3) := by decide +kernel
theorem dX10_attempt_12 : decode cX10_attempt 12 = .ok (.pop, 1) := by decide +kernel
theorem dX10_attempt_13 : decode cX10_attempt 13 = .ok (.iconst 0, 1) := by decide +kernel
theorem dX10_attempt_14 : decode cX10_attempt 14 = .ok (.ireturn, 1) := by decide +kernel
theorem dX10_attempt_15 : decode cX10_attempt 15 = .ok (.lload_n 1, 1) := by decide +kernel
theorem dX10_attempt_16 : decode cX10_attempt 16 = .ok (.lconst 0, 1) := by decide +kernel
theorem dX10_attempt_17 : decode cX10_attempt 17 = .ok (.lcmp, 1) := by decide +kernel
theorem dX10_attempt_18 : decode cX10_attempt 18 = .ok (.ifCond .lt 11, 3) := by decide +kernel
theorem dX10_attempt_21 : decode cX10_attempt 21 = .ok (.lload_n 1, 1) := by decide +kernel
theorem dX10_attempt_22 : decode cX10_attempt 22 = .ok (.ldc2_w 130, 3) := by decide +kernel
theorem dX10_attempt_25 : decode cX10_attempt 25 = .ok (.lcmp, 1) := by decide +kernel
theorem dX10_attempt_26 : decode cX10_attempt 26 = .ok (.ifCond .lt 5, 3) := by decide +kernel
theorem dX10_attempt_29 : decode cX10_attempt 29 = .ok (.iconst 1, 1) := by decide +kernel
theorem dX10_attempt_30 : decode cX10_attempt 30 = .ok (.ireturn, 1) := by decide +kernel
theorem dX10_attempt_31 : decode cX10_attempt 31 = .ok (.lload_n 1, 1) := by decide +kernel
theorem dX10_attempt_32 : decode cX10_attempt 32 = .ok (.l2i, 1) := by decide +kernel
theorem dX10_attempt_33 : decode cX10_attempt 33 = .ok (.istore_n 3, 1) := by decide +kernel
theorem dX10_attempt_34 : decode cX10_attempt 34 = .ok (.iload_n 3, 1) := by decide +kernel
theorem dX10_attempt_35 : decode cX10_attempt 35 = .ok (.sipush 1000, 3) := by decide +kernel
theorem dX10_attempt_38 : decode cX10_attempt 38 = .ok (.irem, 1) := by decide +kernel
theorem dX10_attempt_39 : decode cX10_attempt 39 = .ok (.bipush 100, 2) := by decide +kernel
theorem dX10_attempt_41 : decode cX10_attempt 41 = .ok (.idiv, 1) := by decide +kernel
theorem dX10_attempt_42 : decode cX10_attempt 42 = .ok (.istore 4, 2) := by decide +kernel
theorem dX10_attempt_44 : decode cX10_attempt 44 = .ok (.iload_n 3, 1) := by decide +kernel
theorem dX10_attempt_45 : decode cX10_attempt 45 = .ok (.bipush 100, 2) := by decide +kernel
theorem dX10_attempt_47 : decode cX10_attempt 47 = .ok (.irem, 1) := by decide +kernel
theorem dX10_attempt_48 : decode cX10_attempt 48 = .ok (.istore 5, 2) := by decide +kernel
theorem dX10_attempt_50 : decode cX10_attempt 50 = .ok (.iload_n 3, 1) := by decide +kernel
theorem dX10_attempt_51 : decode cX10_attempt 51 = .ok (.sipush 1000, 3) := by decide +kernel
theorem dX10_attempt_54 : decode cX10_attempt 54 = .ok (.idiv, 1) := by decide +kernel
theorem dX10_attempt_55 : decode cX10_attempt 55 = .ok (.lookupswitch 43 #[(0, 25), (1, 34)], 25) := by decide +kernel
theorem dX10_attempt_80 : decode cX10_attempt 80 = .ok (.aload_n 0, 1) := by decide +kernel
theorem dX10_attempt_81 : decode cX10_attempt 81 = .ok (.iload 4, 2) := by decide +kernel
theorem dX10_attempt_83 : decode cX10_attempt 83 = .ok (.iload 5, 2) := by decide +kernel
theorem dX10_attempt_85 : decode cX10_attempt 85 = .ok (.invokevirtual 132, 3) := by decide +kernel
theorem dX10_attempt_88 : decode cX10_attempt 88 = .ok (.ireturn, 1) := by decide +kernel
theorem dX10_attempt_89 : decode cX10_attempt 89 = .ok (.aload_n 0, 1) := by decide +kernel
theorem dX10_attempt_90 : decode cX10_attempt 90 = .ok (.iload 4, 2) := by decide +kernel
theorem dX10_attempt_92 : decode cX10_attempt 92 = .ok (.iload 5, 2) := by decide +kernel
theorem dX10_attempt_94 : decode cX10_attempt 94 = .ok (.invokevirtual 135, 3) := by decide +kernel
theorem dX10_attempt_97 : decode cX10_attempt 97 = .ok (.ireturn, 1) := by decide +kernel
theorem dX10_attempt_98 : decode cX10_attempt 98 = .ok (.aload_n 0, 1) := by decide +kernel
theorem dX10_attempt_99 : decode cX10_attempt 99 = .ok (.iload 4, 2) := by decide +kernel
theorem dX10_attempt_101 : decode cX10_attempt 101 = .ok (.iload 5, 2) := by decide +kernel
theorem dX10_attempt_103 : decode cX10_attempt 103 = .ok (.invokevirtual 138, 3) := by decide +kernel
theorem dX10_attempt_106 : decode cX10_attempt 106 = .ok (.ireturn, 1) := by decide +kernel
set_option maxRecDepth 100000 in
set_option maxHeartbeats 4000000 in
theorem v_X10_attempt {l : Launch} {p : Program} {e : Env} {s : State} {mt : MethodId} {args : Array Value} {below : List Frame} {meth : Method} {c : Code} {A : Nat → Prop} {ad0 : Nat → Nat} {G : Gt} {N : Nat} (C : Cx G p s mt args meth c RX10 cX10_attempt 6 (some .int) "attempt" A) (hN : 109 ≤ N) (a : Nat) (ha : isWorld N a) (x1 : Int64) (m : Mem) : V G SX oI l p e s mt args below meth c 6 6 A ad0 N N RX N RX 0 [(0, .ref a), (1, .long x1)] [] m (X10_attempt a x1 m) := by
  rw [X10_attempt]
  refine V.lload_n (pc := 0) C dX10_attempt_0 1 rfl ?_
  refine V.ldc2 (pc := 1) C dX10_attempt_1 (v := (-1)) cl_RX10_124 ?_
  refine V.lcmp (pc := 4) C dX10_attempt_4 ?_
  refine V.if_ne (pc := 5) C dX10_attempt_5 15 (by decide) (fun _ => ?_) (fun _ => ?_)
  · refine V.lload_n (pc := 15) C dX10_attempt_15 1 rfl ?_
    refine V.lconst (pc := 16) C dX10_attempt_16 (v := 0) (by decide) ?_
    refine V.lcmp (pc := 17) C dX10_attempt_17 ?_
    refine V.if_lt (pc := 18) C dX10_attempt_18 29 (by decide) (fun _ => ?_) (fun _ => ?_)
    · refine V.iconst (pc := 29) C dX10_attempt_29 (v := 1) (by decide) ?_
      exact V.iret C dX10_attempt_30
    · refine V.lload_n (pc := 21) C dX10_attempt_21 1 rfl ?_
      refine V.ldc2 (pc := 22) C dX10_attempt_22 (v := 3000) cl_RX10_130 ?_
      refine V.lcmp (pc := 25) C dX10_attempt_25 ?_
      refine V.if_lt (pc := 26) C dX10_attempt_26 31 (by decide) (fun _ => ?_) (fun _ => ?_)
      · refine V.lload_n (pc := 31) C dX10_attempt_31 1 rfl ?_
        refine V.l2i (pc := 32) C dX10_attempt_32 ?_
        refine V.lti (fun x_1 _ => ?_)
        refine V.istore_n (pc := 33) C dX10_attempt_33 (L2 := [(3, .int x_1), (0, .ref a), (1, .long x1)]) (by decide) rfl ?_
        refine V.iload_n (pc := 34) C dX10_attempt_34 0 rfl ?_
        refine V.sipush (pc := 35) C dX10_attempt_35 (v := 1000) (by decide) ?_
        refine V.irem (pc := 38) C dX10_attempt_38 (by decide) ?_
        refine V.bipush (pc := 39) C dX10_attempt_39 (v := 100) (by decide) ?_
        refine V.idiv (pc := 41) C dX10_attempt_41 (by decide) ?_
        refine V.lti (fun x_2 _ => ?_)
        refine V.istore (pc := 42) C dX10_attempt_42 (L2 := [(4, .int x_2), (3, .int x_1), (0, .ref a), (1, .long x1)]) (by decide) rfl ?_
        refine V.iload_n (pc := 44) C dX10_attempt_44 1 rfl ?_
        refine V.bipush (pc := 45) C dX10_attempt_45 (v := 100) (by decide) ?_
        refine V.irem (pc := 47) C dX10_attempt_47 (by decide) ?_
        refine V.lti (fun x_3 _ => ?_)
        refine V.istore (pc := 48) C dX10_attempt_48 (L2 := [(5, .int x_3), (4, .int x_2), (3, .int x_1), (0, .ref a), (1, .long x1)]) (by decide) rfl ?_
        refine V.iload_n (pc := 50) C dX10_attempt_50 2 rfl ?_
        refine V.sipush (pc := 51) C dX10_attempt_51 (v := 1000) (by decide) ?_
        refine V.idiv (pc := 54) C dX10_attempt_54 (by decide) ?_
        refine V.br (fun h_6 => ?_) (fun h_6 => ?_)
        · refine V.lin (pc := 55) (x := (x_1 / 1000)) (off := 25) (tgt := 80) C dX10_attempt_55 (by decide) (by rw [h_6] <;> rfl) (by decide) ?_
          refine V.aload_n (pc := 80) C dX10_attempt_80 3 rfl ?_
          refine V.iload (pc := 81) C dX10_attempt_81 1 rfl ?_
          refine V.iload (pc := 83) C dX10_attempt_83 0 rfl ?_
          refine V.callV (pc := 85) (st := []) C (c_X10_attemptMarriage l hN a ha x_2 x_3 m) obI ck_X10_attemptMarriage ml_RX10_132 rfl rfl ha.s ha.k rfl rfl (Nat.le_of_ble_eq_true rfl) ⟨by decide, by decide⟩ dX10_attempt_85 (fun r_4 m_5 _ => ?_)
          exact V.iret C dX10_attempt_88
        · refine V.br (fun h_9 => ?_) (fun h_9 => ?_)
          · refine V.lin (pc := 55) (x := (x_1 / 1000)) (off := 34) (tgt := 89) C dX10_attempt_55 (by decide) (by rw [h_9] <;> rfl) (by decide) ?_
            refine V.aload_n (pc := 89) C dX10_attempt_89 3 rfl ?_
            refine V.iload (pc := 90) C dX10_attempt_90 1 rfl ?_
            refine V.iload (pc := 92) C dX10_attempt_92 0 rfl ?_
            refine V.callV (pc := 94) (st := []) C (c_X10_attemptTaking l hN a ha x_2 x_3 m) obI ck_X10_attemptTaking ml_RX10_135 rfl rfl ha.s ha.k rfl rfl (Nat.le_of_ble_eq_true rfl) ⟨by decide, by decide⟩ dX10_attempt_94 (fun r_7 m_8 _ => ?_)
            exact V.iret C dX10_attempt_97
          · refine V.lin (pc := 55) (x := (x_1 / 1000)) (off := 43) (tgt := 98) C dX10_attempt_55 (by decide) (by rw [lv_osw h_6 (show (0 : Int32).toInt = 0 from by decide), lv_osw h_9 (show (1 : Int32).toInt = 1 from by decide)] <;> rfl) (by decide) ?_
            refine V.aload_n (pc := 98) C dX10_attempt_98 3 rfl ?_
            refine V.iload (pc := 99) C dX10_attempt_99 1 rfl ?_
            refine V.iload (pc := 101) C dX10_attempt_101 0 rfl ?_
            refine V.callV (pc := 103) (st := []) C (c_X10_attemptCopy l hN a ha x_2 x_3 m) obI ck_X10_attemptCopy ml_RX10_138 rfl rfl ha.s ha.k rfl rfl (Nat.le_of_ble_eq_true rfl) ⟨by decide, by decide⟩ dX10_attempt_103 (fun r_10 m_11 _ => ?_)
            exact V.iret C dX10_attempt_106
      · refine V.iconst (pc := 29) C dX10_attempt_29 (v := 1) (by decide) ?_
        exact V.iret C dX10_attempt_30
  · refine V.aload_n (pc := 8) C dX10_attempt_8 0 rfl ?_
    refine V.callV (pc := 9) (st := []) C (c_X10_passYear l hN a ha m) obI ck_X10_passYear ml_RX10_126 rfl rfl ha.s ha.k rfl rfl (Nat.le_of_ble_eq_true rfl) ⟨by decide, by decide⟩ dX10_attempt_9 (fun r_12 m_13 _ => ?_)
    refine V.pop (pc := 12) C dX10_attempt_12 rfl ?_
    refine V.iconst (pc := 13) C dX10_attempt_13 (v := 0) (by decide) ?_
    exact V.iret C dX10_attempt_14
theorem c_X10_attempt (l : Launch) {N : Nat} (hN : 109 ≤ N) (a : Nat) (ha : isWorld N a) (x1 : Int64) (m : Mem) : Ct l yX10_attempt cX10_attempt 6 (some .int) 6 SX oI N N RX RX [.ref a, .long x1] m (X10_attempt a x1 m) :=
  Ct.of (own := RX10) (nm := "attempt") (by decide) rfl rfl (Nat.le_of_ble_eq_true rfl) (fun _ _ _ _ _ _ _ _ _ _ _ C => v_X10_attempt C hN a ha x1 m)
theorem dX10_couples_0 : decode cX10_couples 0 = .ok (.iconst 0, 1) := by decide +kernel
theorem dX10_couples_1 : decode cX10_couples 1 = .ok (.istore_n 1, 1) := by decide +kernel
theorem dX10_couples_2 : decode cX10_couples 2 = .ok (.iconst 0, 1) := by decide +kernel
theorem dX10_couples_3 : decode cX10_couples 3 = .ok (.istore_n 2, 1) := by decide +kernel
theorem dX10_couples_4 : decode cX10_couples 4 = .ok (.iload_n 2, 1) := by decide +kernel
theorem dX10_couples_5 : decode cX10_couples 5 = .ok (.aload_n 0, 1) := by decide +kernel
theorem dX10_couples_6 : decode cX10_couples 6 = .ok (.getfield 9, 3) := by decide +kernel
theorem dX10_couples_9 : decode cX10_couples 9 = .ok (.getfield 26, 3) := by decide +kernel
theorem dX10_couples_12 : decode cX10_couples 12 = .ok (.if_icmp .ge 25, 3) := by decide +kernel
theorem dX10_couples_15 : decode cX10_couples 15 = .ok (.aload_n 0, 1) := by decide +kernel
theorem dX10_couples_16 : decode cX10_couples 16 = .ok (.getfield 22, 3) := by decide +kernel
theorem dX10_couples_19 : decode cX10_couples 19 = .ok (.getfield 98, 3) := by decide +kernel
theorem dX10_couples_22 : decode cX10_couples 22 = .ok (.iload_n 2, 1) := by decide +kernel
theorem dX10_couples_23 : decode cX10_couples 23 = .ok (.iaload, 1) := by decide +kernel
theorem dX10_couples_24 : decode cX10_couples 24 = .ok (.iload_n 2, 1) := by decide +kernel
theorem dX10_couples_25 : decode cX10_couples 25 = .ok (.if_icmp .le 6, 3) := by decide +kernel
theorem dX10_couples_28 : decode cX10_couples 28 = .ok (.iinc 1 1, 3) := by decide +kernel
theorem dX10_couples_31 : decode cX10_couples 31 = .ok (.iinc 2 1, 3) := by decide +kernel
theorem dX10_couples_34 : decode cX10_couples 34 = .ok (.goto (-30), 3) := by decide +kernel
theorem dX10_couples_37 : decode cX10_couples 37 = .ok (.iload_n 1, 1) := by decide +kernel
theorem dX10_couples_38 : decode cX10_couples 38 = .ok (.ireturn, 1) := by decide +kernel
set_option maxRecDepth 100000 in
set_option maxHeartbeats 4000000 in
theorem v_X10_couples_b4 {l : Launch} {p : Program} {e : Env} {s : State} {mt : MethodId} {args : Array Value} {below : List Frame} {meth : Method} {c : Code} {A : Nat → Prop} {ad0 : Nat → Nat} {G : Gt} {N : Nat} (C : Cx G p s mt args meth c RX10 cX10_couples 3 (some .int) "couples" A) (hN : 109 ≤ N) (a : Nat) (ha : isWorld N a) : ∀ (n : Nat) (y1 : Int32) (y2 : Int32) (m : Mem), V G SX oI l p e s mt args below meth c 3 1 A ad0 N N RX N RX 4 [(0, .ref a), (1, .int y1), (2, .int y2)] [] m (X10_couples_b4 a n y1 y2 m) := by
  intro n
  induction n with
  | zero =>
    intro y1 y2 m
    rw [X10_couples_b4]
    exact V.nil
  | succ n ih =>
    intro y1 y2 m
    rw [X10_couples_b4]
    refine V.iload_n (pc := 4) C dX10_couples_4 2 rfl ?_
    refine V.aload_n (pc := 5) C dX10_couples_5 0 rfl ?_
    refine V.getr (pc := 6) C fl_RX10_9 ha.s ha.k rfl ha.r0 dX10_couples_6 ?_
    refine V.geti (pc := 9) C fl_RX10_26 sX2 (kX2 hN) rfl dX10_couples_9 ?_
    refine V.icmp_ge (pc := 12) C dX10_couples_12 37 (by decide) (fun _ => ?_) (fun _ => ?_)
    · refine V.iload_n (pc := 37) C dX10_couples_37 1 rfl ?_
      exact V.iret C dX10_couples_38
    · refine V.aload_n (pc := 15) C dX10_couples_15 0 rfl ?_
      refine V.getr (pc := 16) C fl_RX10_22 ha.s ha.k rfl ha.r2 dX10_couples_16 ?_
      refine V.getr (pc := 19) C fl_RX10_98 ha.life.s ha.life.k rfl ha.life.r2 dX10_couples_19 ?_
      refine V.iload_n (pc := 22) C dX10_couples_22 2 rfl ?_
      refine V.iald (pc := 23) C ha.life.s2 ha.life.k2 dX10_couples_23 (fun _ => ?_)
      refine V.iload_n (pc := 24) C dX10_couples_24 2 rfl ?_
      refine V.icmp_le (pc := 25) C dX10_couples_25 31 (by decide) (fun _ => ?_) (fun _ => ?_)
      · refine V.iinc (pc := 31) C dX10_couples_31 (v := 1) (L2 := [(2, .int (y2 + 1)), (0, .ref a), (1, .int y1)]) 2 rfl (by decide) (by decide) rfl ?_
        refine V.goto (pc := 34) C dX10_couples_34 4 (by decide) ?_
        refine V.wk [1, 2, 0] rfl ?_
        exact ih y1 (y2 + 1) m
      · refine V.iinc (pc := 28) C dX10_couples_28 (v := 1) (L2 := [(1, .int (y1 + 1)), (0, .ref a), (2, .int y2)]) 1 rfl (by decide) (by decide) rfl ?_
        refine V.iinc (pc := 31) C dX10_couples_31 (v := 1) (L2 := [(2, .int (y2 + 1)), (1, .int (y1 + 1)), (0, .ref a)]) 2 rfl (by decide) (by decide) rfl ?_
        refine V.goto (pc := 34) C dX10_couples_34 4 (by decide) ?_
        refine V.wk [2, 1, 0] rfl ?_
        exact ih (y1 + 1) (y2 + 1) m
set_option maxRecDepth 100000 in
set_option maxHeartbeats 4000000 in
theorem v_X10_couples {l : Launch} {p : Program} {e : Env} {s : State} {mt : MethodId} {args : Array Value} {below : List Frame} {meth : Method} {c : Code} {A : Nat → Prop} {ad0 : Nat → Nat} {G : Gt} {N : Nat} (C : Cx G p s mt args meth c RX10 cX10_couples 3 (some .int) "couples" A) (hN : 109 ≤ N) (a : Nat) (ha : isWorld N a) (m : Mem) : V G SX oI l p e s mt args below meth c 3 1 A ad0 N N RX N RX 0 [(0, .ref a)] [] m (X10_couples a  m) := by
  rw [X10_couples]
  refine V.iconst (pc := 0) C dX10_couples_0 (v := 0) (by decide) ?_
  refine V.istore_n (pc := 1) C dX10_couples_1 (L2 := [(1, .int 0), (0, .ref a)]) (by decide) rfl ?_
  refine V.iconst (pc := 2) C dX10_couples_2 (v := 0) (by decide) ?_
  refine V.istore_n (pc := 3) C dX10_couples_3 (L2 := [(2, .int 0), (1, .int 0), (0, .ref a)]) (by decide) rfl ?_
  refine V.wk [2, 1, 0] rfl ?_
  exact v_X10_couples_b4 C hN a ha FU 0 0 m
theorem c_X10_couples (l : Launch) {N : Nat} (hN : 109 ≤ N) (a : Nat) (ha : isWorld N a) (m : Mem) : Ct l yX10_couples cX10_couples 3 (some .int) 1 SX oI N N RX RX [.ref a] m (X10_couples a  m) :=
  Ct.of (own := RX10) (nm := "couples") (by decide) rfl rfl (Nat.le_of_ble_eq_true rfl) (fun _ _ _ _ _ _ _ _ _ _ _ C => v_X10_couples C hN a ha  m)
theorem dX10_goodnessWith_0 : decode cX10_goodnessWith 0 = .ok (.aload_n 0, 1) := by decide +kernel
theorem dX10_goodnessWith_1 : decode cX10_goodnessWith 1 = .ok (.iload_n 1, 1) := by decide +kernel
theorem dX10_goodnessWith_2 : decode cX10_goodnessWith 2 = .ok (.iload_n 2, 1) := by decide +kernel
theorem dX10_goodnessWith_3 : decode cX10_goodnessWith 3 = .ok (.iload_n 3, 1) := by decide +kernel
theorem dX10_goodnessWith_4 : decode cX10_goodnessWith 4 = .ok (.iload 4, 2) := by decide +kernel
theorem dX10_goodnessWith_6 : decode cX10_goodnessWith 6 = .ok (.invokevirtual 72, 3) := by decide +kernel
theorem dX10_goodnessWith_9 : decode cX10_goodnessWith 9 = .ok (.aload_n 0, 1) := by decide +kernel
theorem dX10_goodnessWith_10 : decode cX10_goodnessWith 10 = .ok (.getfield 15, 3) := by decide +kernel
theorem dX10_goodnessWith_13 : decode cX10_goodnessWith 13 = .ok (.aload_n 0, 1) := by decide +kernel
theorem dX10_goodnessWith_14 : decode cX10_goodnessWith 14 = .ok (.getfield 9, 3) := by decide +kernel
theorem dX10_goodnessWith_17 : decode cX10_goodnessWith 17 = .ok (.getfield 76, 3) := by decide +kernel
theorem dX10_goodnessWith_20 : decode cX10_goodnessWith 20 = .ok (.invokevirtual 80, 3) := by decide +kernel
theorem dX10_goodnessWith_23 : decode cX10_goodnessWith 23 = .ok (.ireturn, 1) := by decide +kernel
set_option maxRecDepth 100000 in
set_option maxHeartbeats 4000000 in
theorem v_X10_goodnessWith {l : Launch} {p : Program} {e : Env} {s : State} {mt : MethodId} {args : Array Value} {below : List Frame} {meth : Method} {c : Code} {A : Nat → Prop} {ad0 : Nat → Nat} {G : Gt} {N : Nat} (C : Cx G p s mt args meth c RX10 cX10_goodnessWith 5 (some .int) "goodnessWith" A) (hN : 109 ≤ N) (a : Nat) (ha : isWorld N a) (x1 : Int32) (x2 : Int32) (x3 : Int32) (x4 : Int32) (m : Mem) : V G SX oI l p e s mt args below meth c 5 3 A ad0 N N RX N RX 0 [(0, .ref a), (1, .int x1), (2, .int x2), (3, .int x3), (4, .int x4)] [] m (X10_goodnessWith a x1 x2 x3 x4 m) := by
  rw [X10_goodnessWith]
  refine V.aload_n (pc := 0) C dX10_goodnessWith_0 0 rfl ?_
  refine V.iload_n (pc := 1) C dX10_goodnessWith_1 1 rfl ?_
  refine V.iload_n (pc := 2) C dX10_goodnessWith_2 2 rfl ?_
  refine V.iload_n (pc := 3) C dX10_goodnessWith_3 3 rfl ?_
  refine V.iload (pc := 4) C dX10_goodnessWith_4 4 rfl ?_
  refine V.callV (pc := 6) (st := []) C (c_X10_measure l hN a ha x1 x2 x3 x4 m) obV ck_X10_measure ml_RX10_72 rfl rfl ha.s ha.k rfl rfl (Nat.le_of_ble_eq_true rfl) ⟨by decide, by decide⟩ dX10_goodnessWith_6 (fun r_1 m_2 _ => ?_)
  refine V.aload_n (pc := 9) C dX10_goodnessWith_9 0 rfl ?_
  refine V.getr (pc := 10) C fl_RX10_15 ha.s ha.k rfl ha.r1 dX10_goodnessWith_10 ?_
  refine V.aload_n (pc := 13) C dX10_goodnessWith_13 0 rfl ?_
  refine V.getr (pc := 14) C fl_RX10_9 ha.s ha.k rfl ha.r0 dX10_goodnessWith_14 ?_
  refine V.getr (pc := 17) C fl_RX10_76 sX2 (kX2 hN) rfl rX2_7 dX10_goodnessWith_17 ?_
  refine V.callV (pc := 20) (st := []) C (c_X0_reckon l hN 5 (iX5 hN) m_2) obI ck_X0_reckon ml_RX10_80 rfl rfl sX22 (kX22 hN) rfl rfl (Nat.le_of_ble_eq_true rfl) ⟨by decide, by decide⟩ dX10_goodnessWith_20 (fun r_3 m_4 _ => ?_)
  exact V.iret C dX10_goodnessWith_23
theorem c_X10_goodnessWith (l : Launch) {N : Nat} (hN : 109 ≤ N) (a : Nat) (ha : isWorld N a) (x1 : Int32) (x2 : Int32) (x3 : Int32) (x4 : Int32) (m : Mem) : Ct l yX10_goodnessWith cX10_goodnessWith 5 (some .int) 3 SX oI N N RX RX [.ref a, .int x1, .int x2, .int x3, .int x4] m (X10_goodnessWith a x1 x2 x3 x4 m) :=
  Ct.of (own := RX10) (nm := "goodnessWith") (by decide) rfl rfl (Nat.le_of_ble_eq_true rfl) (fun _ _ _ _ _ _ _ _ _ _ _ C => v_X10_goodnessWith C hN a ha x1 x2 x3 x4 m)
theorem dX10_goodness_0 : decode cX10_goodness 0 = .ok (.aload_n 0, 1) := by decide +kernel
theorem dX10_goodness_1 : decode cX10_goodness 1 = .ok (.iload_n 1, 1) := by decide +kernel
theorem dX10_goodness_2 : decode cX10_goodness 2 = .ok (.iload_n 2, 1) := by decide +kernel
theorem dX10_goodness_3 : decode cX10_goodness 3 = .ok (.aload_n 0, 1) := by decide +kernel
theorem dX10_goodness_4 : decode cX10_goodness 4 = .ok (.getfield 22, 3) := by decide +kernel
theorem dX10_goodness_7 : decode cX10_goodness 7 = .ok (.getfield 84, 3) := by decide +kernel
theorem dX10_goodness_10 : decode cX10_goodness 10 = .ok (.iload_n 1, 1) := by decide +kernel
theorem dX10_goodness_11 : decode cX10_goodness 11 = .ok (.iaload, 1) := by decide +kernel
theorem dX10_goodness_12 : decode cX10_goodness 12 = .ok (.aload_n 0, 1) := by decide +kernel
theorem dX10_goodness_13 : decode cX10_goodness 13 = .ok (.getfield 22, 3) := by decide +kernel
theorem dX10_goodness_16 : decode cX10_goodness 16 = .ok (.getfield 84, 3) := by decide +kernel
theorem dX10_goodness_19 : decode cX10_goodness 19 = .ok (.iload_n 2, 1) := by decide +kernel
theorem dX10_goodness_20 : decode cX10_goodness 20 = .ok (.iaload, 1) := by decide +kernel
theorem dX10_goodness_21 : decode cX10_goodness 21 = .ok (.invokevirtual 87, 3) := by decide +kernel
theorem dX10_goodness_24 : decode cX10_goodness 24 = .ok (.ireturn, 1) := by decide +kernel
set_option maxRecDepth 100000 in
set_option maxHeartbeats 4000000 in
theorem v_X10_goodness {l : Launch} {p : Program} {e : Env} {s : State} {mt : MethodId} {args : Array Value} {below : List Frame} {meth : Method} {c : Code} {A : Nat → Prop} {ad0 : Nat → Nat} {G : Gt} {N : Nat} (C : Cx G p s mt args meth c RX10 cX10_goodness 3 (some .int) "goodness" A) (hN : 109 ≤ N) (a : Nat) (ha : isWorld N a) (x1 : Int32) (x2 : Int32) (m : Mem) : V G SX oI l p e s mt args below meth c 3 4 A ad0 N N RX N RX 0 [(0, .ref a), (1, .int x1), (2, .int x2)] [] m (X10_goodness a x1 x2 m) := by
  rw [X10_goodness]
  refine V.aload_n (pc := 0) C dX10_goodness_0 0 rfl ?_
  refine V.iload_n (pc := 1) C dX10_goodness_1 1 rfl ?_
  refine V.iload_n (pc := 2) C dX10_goodness_2 2 rfl ?_
  refine V.aload_n (pc := 3) C dX10_goodness_3 0 rfl ?_
  refine V.getr (pc := 4) C fl_RX10_22 ha.s ha.k rfl ha.r2 dX10_goodness_4 ?_
  refine V.getr (pc := 7) C fl_RX10_84 ha.life.s ha.life.k rfl ha.life.r3 dX10_goodness_7 ?_
  refine V.iload_n (pc := 10) C dX10_goodness_10 1 rfl ?_
  refine V.iald (pc := 11) C ha.life.s3 ha.life.k3 dX10_goodness_11 (fun _ => ?_)
  refine V.aload_n (pc := 12) C dX10_goodness_12 0 rfl ?_
  refine V.getr (pc := 13) C fl_RX10_22 ha.s ha.k rfl ha.r2 dX10_goodness_13 ?_
  refine V.getr (pc := 16) C fl_RX10_84 ha.life.s ha.life.k rfl ha.life.r3 dX10_goodness_16 ?_
  refine V.iload_n (pc := 19) C dX10_goodness_19 2 rfl ?_
  refine V.iald (pc := 20) C ha.life.s3 ha.life.k3 dX10_goodness_20 (fun _ => ?_)
  refine V.callV (pc := 21) (st := []) C (c_X10_goodnessWith l hN a ha x1 x2 (gi m ((a + 1) + 3) (ix x1)) (gi m ((a + 1) + 3) (ix x2)) m) obI ck_X10_goodnessWith ml_RX10_87 rfl rfl ha.s ha.k rfl rfl (Nat.le_of_ble_eq_true rfl) ⟨by decide, by decide⟩ dX10_goodness_21 (fun r_1 m_2 _ => ?_)
  exact V.iret C dX10_goodness_24
theorem c_X10_goodness (l : Launch) {N : Nat} (hN : 109 ≤ N) (a : Nat) (ha : isWorld N a) (x1 : Int32) (x2 : Int32) (m : Mem) : Ct l yX10_goodness cX10_goodness 3 (some .int) 4 SX oI N N RX RX [.ref a, .int x1, .int x2] m (X10_goodness a x1 x2 m) :=
  Ct.of (own := RX10) (nm := "goodness") (by decide) rfl rfl (Nat.le_of_ble_eq_true rfl) (fun _ _ _ _ _ _ _ _ _ _ _ C => v_X10_goodness C hN a ha x1 x2 m)
theorem dX10_goodOfCouples_0 : decode cX10_goodOfCouples 0 = .ok (.iconst 0, 1) := by decide +kernel
theorem dX10_goodOfCouples_1 : decode cX10_goodOfCouples 1 = .ok (.istore_n 1, 1) := by decide +kernel
theorem dX10_goodOfCouples_2 : decode cX10_goodOfCouples 2 = .ok (.iconst 0, 1) := by decide +kernel
theorem dX10_goodOfCouples_3 : decode cX10_goodOfCouples 3 = .ok (.istore_n 2, 1) := by decide +kernel
theorem dX10_goodOfCouples_4 : decode cX10_goodOfCouples 4 = .ok (.iload_n 2, 1) := by decide +kernel
theorem dX10_goodOfCouples_5 : decode cX10_goodOfCouples 5 = .ok (.aload_n 0, 1) := by decide +kernel
theorem dX10_goodOfCouples_6 : decode cX10_goodOfCouples 6 = .ok (.getfield 9, 3) := by decide +kernel
theorem dX10_goodOfCouples_9 : decode cX10_goodOfCouples 9 = .ok (.getfield 26, 3) := by decide +kernel
theorem dX10_goodOfCouples_12 : decode cX10_goodOfCouples 12 = .ok (.if_icmp .ge 39, 3) := by decide +kernel
theorem dX10_goodOfCouples_15 : decode cX10_goodOfCouples 15 = .ok (.aload_n 0, 1) := by decide +kernel
theorem dX10_goodOfCouples_16 : decode cX10_goodOfCouples 16 = .ok (.getfield 22, 3) := by decide +kernel
theorem dX10_goodOfCouples_19 : decode cX10_goodOfCouples 19 = .ok (.getfield 98, 3) := by decide +kernel
theorem dX10_goodOfCouples_22 : decode cX10_goodOfCouples 22 = .ok (.iload_n 2, 1) := by decide +kernel
theorem dX10_goodOfCouples_23 : decode cX10_goodOfCouples 23 = .ok (.iaload, 1) := by decide +kernel
theorem dX10_goodOfCouples_24 : decode cX10_goodOfCouples 24 = .ok (.iload_n 2, 1) := by decide +kernel
theorem dX10_goodOfCouples_25 : decode cX10_goodOfCouples 25 = .ok (.if_icmp .le 20, 3) := by decide +kernel
theorem dX10_goodOfCouples_28 : decode cX10_goodOfCouples 28 = .ok (.iload_n 1, 1) := by decide +kernel
theorem dX10_goodOfCouples_29 : decode cX10_goodOfCouples 29 = .ok (.aload_n 0, 1) := by decide +kernel
theorem dX10_goodOfCouples_30 : decode cX10_goodOfCouples 30 = .ok (.iload_n 2, 1) := by decide +kernel
theorem dX10_goodOfCouples_31 : decode cX10_goodOfCouples 31 = .ok (.aload_n 0, 1) := by decide +kernel
theorem dX10_goodOfCouples_32 : decode cX10_goodOfCouples 32 = .ok (.getfield 22, 3) := by decide +kernel
theorem dX10_goodOfCouples_35 : decode cX10_goodOfCouples 35 = .ok (.getfield 98, 3) := by decide +kernel
theorem dX10_goodOfCouples_38 : decode cX10_goodOfCouples 38 = .ok (.iload_n 2, 1) := by decide +kernel
theorem dX10_goodOfCouples_39 : decode cX10_goodOfCouples 39 = .ok (.iaload, 1) := by decide +kernel
theorem dX10_goodOfCouples_40 : decode cX10_goodOfCouples 40 = .ok (.invokevirtual 181, 3) := by decide +kernel
theorem dX10_goodOfCouples_43 : decode cX10_goodOfCouples 43 = .ok (.iadd, 1) := by decide +kernel
theorem dX10_goodOfCouples_44 : decode cX10_goodOfCouples 44 = .ok (.istore_n 1, 1) := by decide +kernel
theorem dX10_goodOfCouples_45 : decode cX10_goodOfCouples 45 = .ok (.iinc 2 1, 3) := by decide +kernel
theorem dX10_goodOfCouples_48 : decode cX10_goodOfCouples 48 = .ok (.goto (-44), 3) := by decide +kernel
theorem dX10_goodOfCouples_51 : decode cX10_goodOfCouples 51 = .ok (.iload_n 1, 1) := by decide +kernel
theorem dX10_goodOfCouples_52 : decode cX10_goodOfCouples 52 = .ok (.ireturn, 1) := by decide +kernel
set_option maxRecDepth 100000 in
set_option maxHeartbeats 4000000 in
theorem v_X10_goodOfCouples_b4 {l : Launch} {p : Program} {e : Env} {s : State} {mt : MethodId} {args : Array Value} {below : List Frame} {meth : Method} {c : Code} {A : Nat → Prop} {ad0 : Nat → Nat} {G : Gt} {N : Nat} (C : Cx G p s mt args meth c RX10 cX10_goodOfCouples 3 (some .int) "goodOfCouples" A) (hN : 109 ≤ N) (a : Nat) (ha : isWorld N a) : ∀ (n : Nat) (y1 : Int32) (y2 : Int32) (m : Mem), V G SX oI l p e s mt args below meth c 3 5 A ad0 N N RX N RX 4 [(0, .ref a), (1, .int y1), (2, .int y2)] [] m (X10_goodOfCouples_b4 a n y1 y2 m) := by
  intro n
  induction n with
  | zero =>
    intro y1 y2 m
    rw [X10_goodOfCouples_b4]
    exact V.nil
  | succ n ih =>
    intro y1 y2 m
    rw [X10_goodOfCouples_b4]
    refine V.iload_n (pc := 4) C dX10_goodOfCouples_4 2 rfl ?_
    refine V.aload_n (pc := 5) C dX10_goodOfCouples_5 0 rfl ?_
    refine V.getr (pc := 6) C fl_RX10_9 ha.s ha.k rfl ha.r0 dX10_goodOfCouples_6 ?_
    refine V.geti (pc := 9) C fl_RX10_26 sX2 (kX2 hN) rfl dX10_goodOfCouples_9 ?_
    refine V.icmp_ge (pc := 12) C dX10_goodOfCouples_12 51 (by decide) (fun _ => ?_) (fun _ => ?_)
    · refine V.iload_n (pc := 51) C dX10_goodOfCouples_51 1 rfl ?_
      exact V.iret C dX10_goodOfCouples_52
    · refine V.aload_n (pc := 15) C dX10_goodOfCouples_15 0 rfl ?_
      refine V.getr (pc := 16) C fl_RX10_22 ha.s ha.k rfl ha.r2 dX10_goodOfCouples_16 ?_
      refine V.getr (pc := 19) C fl_RX10_98 ha.life.s ha.life.k rfl ha.life.r2 dX10_goodOfCouples_19 ?_
      refine V.iload_n (pc := 22) C dX10_goodOfCouples_22 2 rfl ?_
      refine V.iald (pc := 23) C ha.life.s2 ha.life.k2 dX10_goodOfCouples_23 (fun _ => ?_)
      refine V.iload_n (pc := 24) C dX10_goodOfCouples_24 2 rfl ?_
      refine V.icmp_le (pc := 25) C dX10_goodOfCouples_25 45 (by decide) (fun _ => ?_) (fun _ => ?_)
      · refine V.iinc (pc := 45) C dX10_goodOfCouples_45 (v := 1) (L2 := [(2, .int (y2 + 1)), (0, .ref a), (1, .int y1)]) 2 rfl (by decide) (by decide) rfl ?_
        refine V.goto (pc := 48) C dX10_goodOfCouples_48 4 (by decide) ?_
        refine V.wk [1, 2, 0] rfl ?_
        exact ih y1 (y2 + 1) m
      · refine V.iload_n (pc := 28) C dX10_goodOfCouples_28 1 rfl ?_
        refine V.aload_n (pc := 29) C dX10_goodOfCouples_29 0 rfl ?_
        refine V.iload_n (pc := 30) C dX10_goodOfCouples_30 2 rfl ?_
        refine V.aload_n (pc := 31) C dX10_goodOfCouples_31 0 rfl ?_
        refine V.getr (pc := 32) C fl_RX10_22 ha.s ha.k rfl ha.r2 dX10_goodOfCouples_32 ?_
        refine V.getr (pc := 35) C fl_RX10_98 ha.life.s ha.life.k rfl ha.life.r2 dX10_goodOfCouples_35 ?_
        refine V.iload_n (pc := 38) C dX10_goodOfCouples_38 2 rfl ?_
        refine V.iald (pc := 39) C ha.life.s2 ha.life.k2 dX10_goodOfCouples_39 (fun _ => ?_)
        refine V.callV (pc := 40) (st := [.int y1]) C (c_X10_goodness l hN a ha y2 (gi m ((a + 1) + 2) (ix y2)) m) obI ck_X10_goodness ml_RX10_181 rfl rfl ha.s ha.k rfl rfl (Nat.le_of_ble_eq_true rfl) ⟨by decide, by decide⟩ dX10_goodOfCouples_40 (fun r_1 m_2 _ => ?_)
        refine V.iadd (pc := 43) C dX10_goodOfCouples_43 ?_
        refine V.lti (fun x_3 _ => ?_)
        refine V.istore_n (pc := 44) C dX10_goodOfCouples_44 (L2 := [(1, .int x_3), (0, .ref a), (2, .int y2)]) (by decide) rfl ?_
        refine V.iinc (pc := 45) C dX10_goodOfCouples_45 (v := 1) (L2 := [(2, .int (y2 + 1)), (1, .int x_3), (0, .ref a)]) 2 rfl (by decide) (by decide) rfl ?_
        refine V.goto (pc := 48) C dX10_goodOfCouples_48 4 (by decide) ?_
        refine V.wk [2, 1, 0] rfl ?_
        exact ih x_3 (y2 + 1) m_2
set_option maxRecDepth 100000 in
set_option maxHeartbeats 4000000 in
theorem v_X10_goodOfCouples {l : Launch} {p : Program} {e : Env} {s : State} {mt : MethodId} {args : Array Value} {below : List Frame} {meth : Method} {c : Code} {A : Nat → Prop} {ad0 : Nat → Nat} {G : Gt} {N : Nat} (C : Cx G p s mt args meth c RX10 cX10_goodOfCouples 3 (some .int) "goodOfCouples" A) (hN : 109 ≤ N) (a : Nat) (ha : isWorld N a) (m : Mem) : V G SX oI l p e s mt args below meth c 3 5 A ad0 N N RX N RX 0 [(0, .ref a)] [] m (X10_goodOfCouples a  m) := by
  rw [X10_goodOfCouples]
  refine V.iconst (pc := 0) C dX10_goodOfCouples_0 (v := 0) (by decide) ?_
  refine V.istore_n (pc := 1) C dX10_goodOfCouples_1 (L2 := [(1, .int 0), (0, .ref a)]) (by decide) rfl ?_
  refine V.iconst (pc := 2) C dX10_goodOfCouples_2 (v := 0) (by decide) ?_
  refine V.istore_n (pc := 3) C dX10_goodOfCouples_3 (L2 := [(2, .int 0), (1, .int 0), (0, .ref a)]) (by decide) rfl ?_
  refine V.wk [2, 1, 0] rfl ?_
  exact v_X10_goodOfCouples_b4 C hN a ha FU 0 0 m
theorem c_X10_goodOfCouples (l : Launch) {N : Nat} (hN : 109 ≤ N) (a : Nat) (ha : isWorld N a) (m : Mem) : Ct l yX10_goodOfCouples cX10_goodOfCouples 3 (some .int) 5 SX oI N N RX RX [.ref a] m (X10_goodOfCouples a  m) :=
  Ct.of (own := RX10) (nm := "goodOfCouples") (by decide) rfl rfl (Nat.le_of_ble_eq_true rfl) (fun _ _ _ _ _ _ _ _ _ _ _ C => v_X10_goodOfCouples C hN a ha  m)
theorem dX10_onAllLists_0 : decode cX10_onAllLists 0 = .ok (.iconst 0, 1) := by decide +kernel
theorem dX10_onAllLists_1 : decode cX10_onAllLists 1 = .ok (.istore_n 1, 1) := by decide +kernel
theorem dX10_onAllLists_2 : decode cX10_onAllLists 2 = .ok (.iconst 0, 1) := by decide +kernel
theorem dX10_onAllLists_3 : decode cX10_onAllLists 3 = .ok (.istore_n 2, 1) := by decide +kernel
theorem dX10_onAllLists_4 : decode cX10_onAllLists 4 = .ok (.iload_n 2, 1) := by decide +kernel
theorem dX10_onAllLists_5 : decode cX10_onAllLists 5 = .ok (.aload_n 0, 1) := by decide +kernel
theorem dX10_onAllLists_6 : decode cX10_onAllLists 6 = .ok (.getfield 9, 3) := by decide +kernel
theorem dX10_onAllLists_9 : decode cX10_onAllLists 9 = .ok (.getfield 26, 3) := by decide +kernel
theorem dX10_onAllLists_12 : decode cX10_onAllLists 12 = .ok (.if_icmp .ge 24, 3) := by decide +kernel
theorem dX10_onAllLists_15 : decode cX10_onAllLists 15 = .ok (.iload_n 1, 1) := by decide +kernel
theorem dX10_onAllLists_16 : decode cX10_onAllLists 16 = .ok (.aload_n 0, 1) := by decide +kernel
theorem dX10_onAllLists_17 : decode cX10_onAllLists 17 = .ok (.getfield 22, 3) := by decide +kernel
theorem dX10_onAllLists_20 : decode cX10_onAllLists 20 = .ok (.getfield 84, 3) := by decide +kernel
theorem dX10_onAllLists_23 : decode cX10_onAllLists 23 = .ok (.iload_n 2, 1) := by decide +kernel
theorem dX10_onAllLists_24 : decode cX10_onAllLists 24 = .ok (.iaload, 1) := by decide +kernel
theorem dX10_onAllLists_25 : decode cX10_onAllLists 25 = .ok (.invokestatic 43, 3) := by decide +kernel
theorem dX10_onAllLists_28 : decode cX10_onAllLists 28 = .ok (.iadd, 1) := by decide +kernel
theorem dX10_onAllLists_29 : decode cX10_onAllLists 29 = .ok (.istore_n 1, 1) := by decide +kernel
theorem dX10_onAllLists_30 : decode cX10_onAllLists 30 = .ok (.iinc 2 1, 3) := by decide +kernel
theorem dX10_onAllLists_33 : decode cX10_onAllLists 33 = .ok (.goto (-29), 3) := by decide +kernel
theorem dX10_onAllLists_36 : decode cX10_onAllLists 36 = .ok (.iload_n 1, 1) := by decide +kernel
theorem dX10_onAllLists_37 : decode cX10_onAllLists 37 = .ok (.ireturn, 1) := by decide +kernel
set_option maxRecDepth 100000 in
set_option maxHeartbeats 4000000 in
theorem v_X10_onAllLists_b4 {l : Launch} {p : Program} {e : Env} {s : State} {mt : MethodId} {args : Array Value} {below : List Frame} {meth : Method} {c : Code} {A : Nat → Prop} {ad0 : Nat → Nat} {G : Gt} {N : Nat} (C : Cx G p s mt args meth c RX10 cX10_onAllLists 3 (some .int) "onAllLists" A) (hN : 109 ≤ N) (a : Nat) (ha : isWorld N a) : ∀ (n : Nat) (y1 : Int32) (y2 : Int32) (m : Mem), V G SX oI l p e s mt args below meth c 3 2 A ad0 N N RX N RX 4 [(0, .ref a), (1, .int y1), (2, .int y2)] [] m (X10_onAllLists_b4 a n y1 y2 m) := by
  intro n
  induction n with
  | zero =>
    intro y1 y2 m
    rw [X10_onAllLists_b4]
    exact V.nil
  | succ n ih =>
    intro y1 y2 m
    rw [X10_onAllLists_b4]
    refine V.iload_n (pc := 4) C dX10_onAllLists_4 2 rfl ?_
    refine V.aload_n (pc := 5) C dX10_onAllLists_5 0 rfl ?_
    refine V.getr (pc := 6) C fl_RX10_9 ha.s ha.k rfl ha.r0 dX10_onAllLists_6 ?_
    refine V.geti (pc := 9) C fl_RX10_26 sX2 (kX2 hN) rfl dX10_onAllLists_9 ?_
    refine V.icmp_ge (pc := 12) C dX10_onAllLists_12 36 (by decide) (fun _ => ?_) (fun _ => ?_)
    · refine V.iload_n (pc := 36) C dX10_onAllLists_36 1 rfl ?_
      exact V.iret C dX10_onAllLists_37
    · refine V.iload_n (pc := 15) C dX10_onAllLists_15 1 rfl ?_
      refine V.aload_n (pc := 16) C dX10_onAllLists_16 0 rfl ?_
      refine V.getr (pc := 17) C fl_RX10_22 ha.s ha.k rfl ha.r2 dX10_onAllLists_17 ?_
      refine V.getr (pc := 20) C fl_RX10_84 ha.life.s ha.life.k rfl ha.life.r3 dX10_onAllLists_20 ?_
      refine V.iload_n (pc := 23) C dX10_onAllLists_23 2 rfl ?_
      refine V.iald (pc := 24) C ha.life.s3 ha.life.k3 dX10_onAllLists_24 (fun _ => ?_)
      refine V.callS (pc := 25) (st := [.int y1]) C (c_J6_bitCount_0f7a4 l (gi m ((a + 1) + 3) (ix y2)) m) obI ck_J6_bitCount_0f7a4 ml_RX10_43 rfl rfl (Nat.le_of_ble_eq_true rfl) ⟨by decide, by decide⟩ dX10_onAllLists_25 (fun r_1 m_2 _ => ?_)
      refine V.iadd (pc := 28) C dX10_onAllLists_28 ?_
      refine V.lti (fun x_3 _ => ?_)
      refine V.istore_n (pc := 29) C dX10_onAllLists_29 (L2 := [(1, .int x_3), (0, .ref a), (2, .int y2)]) (by decide) rfl ?_
      refine V.iinc (pc := 30) C dX10_onAllLists_30 (v := 1) (L2 := [(2, .int (y2 + 1)), (1, .int x_3), (0, .ref a)]) 2 rfl (by decide) (by decide) rfl ?_
      refine V.goto (pc := 33) C dX10_onAllLists_33 4 (by decide) ?_
      refine V.wk [2, 1, 0] rfl ?_
      exact ih x_3 (y2 + 1) m_2
set_option maxRecDepth 100000 in
set_option maxHeartbeats 4000000 in
theorem v_X10_onAllLists {l : Launch} {p : Program} {e : Env} {s : State} {mt : MethodId} {args : Array Value} {below : List Frame} {meth : Method} {c : Code} {A : Nat → Prop} {ad0 : Nat → Nat} {G : Gt} {N : Nat} (C : Cx G p s mt args meth c RX10 cX10_onAllLists 3 (some .int) "onAllLists" A) (hN : 109 ≤ N) (a : Nat) (ha : isWorld N a) (m : Mem) : V G SX oI l p e s mt args below meth c 3 2 A ad0 N N RX N RX 0 [(0, .ref a)] [] m (X10_onAllLists a  m) := by
  rw [X10_onAllLists]
  refine V.iconst (pc := 0) C dX10_onAllLists_0 (v := 0) (by decide) ?_
  refine V.istore_n (pc := 1) C dX10_onAllLists_1 (L2 := [(1, .int 0), (0, .ref a)]) (by decide) rfl ?_
  refine V.iconst (pc := 2) C dX10_onAllLists_2 (v := 0) (by decide) ?_
  refine V.istore_n (pc := 3) C dX10_onAllLists_3 (L2 := [(2, .int 0), (1, .int 0), (0, .ref a)]) (by decide) rfl ?_
  refine V.wk [2, 1, 0] rfl ?_
  exact v_X10_onAllLists_b4 C hN a ha FU 0 0 m
theorem c_X10_onAllLists (l : Launch) {N : Nat} (hN : 109 ≤ N) (a : Nat) (ha : isWorld N a) (m : Mem) : Ct l yX10_onAllLists cX10_onAllLists 3 (some .int) 2 SX oI N N RX RX [.ref a] m (X10_onAllLists a  m) :=
  Ct.of (own := RX10) (nm := "onAllLists") (by decide) rfl rfl (Nat.le_of_ble_eq_true rfl) (fun _ _ _ _ _ _ _ _ _ _ _ C => v_X10_onAllLists C hN a ha  m)
theorem dX10_passYearOfTwo_0 : decode cX10_passYearOfTwo 0 = .ok (.aload_n 0, 1) := by decide +kernel
theorem dX10_passYearOfTwo_1 : decode cX10_passYearOfTwo 1 = .ok (.iload_n 1, 1) := by decide +kernel
theorem dX10_passYearOfTwo_2 : decode cX10_passYearOfTwo 2 = .ok (.invokevirtual 160, 3) := by decide +kernel
theorem dX10_passYearOfTwo_5 : decode cX10_passYearOfTwo 5 = .ok (.pop, 1) := by decide +kernel
theorem dX10_passYearOfTwo_6 : decode cX10_passYearOfTwo 6 = .ok (.aload_n 0, 1) := by decide +kernel
theorem dX10_passYearOfTwo_7 : decode cX10_passYearOfTwo 7 = .ok (.iload_n 2, 1) := by decide +kernel
theorem dX10_passYearOfTwo_8 : decode cX10_passYearOfTwo 8 = .ok (.invokevirtual 160, 3) := by decide +kernel
theorem dX10_passYearOfTwo_11 : decode cX10_passYearOfTwo 11 = .ok (.pop, 1) := by decide +kernel
theorem dX10_passYearOfTwo_12 : decode cX10_passYearOfTwo 12 = .ok (.aload_n 0, 1) := by decide +kernel
theorem dX10_passYearOfTwo_13 : decode cX10_passYearOfTwo 13 = .ok (.iload_n 1, 1) := by decide +kernel
theorem dX10_passYearOfTwo_14 : decode cX10_passYearOfTwo 14 = .ok (.iload_n 2, 1) := by decide +kernel
theorem dX10_passYearOfTwo_15 : decode cX10_passYearOfTwo 15 = .ok (.invokevirtual 163, 3) := by decide +kernel
theorem dX10_passYearOfTwo_18 : decode cX10_passYearOfTwo 18 = .ok (.aload_n 0, 1) := by decide +kernel
theorem dX10_passYearOfTwo_19 : decode cX10_passYearOfTwo 19 = .ok (.getfield 22, 3) := by decide +kernel
theorem dX10_passYearOfTwo_22 : decode cX10_passYearOfTwo 22 = .ok (.dup, 1) := by decide +kernel
theorem dX10_passYearOfTwo_23 : decode cX10_passYearOfTwo 23 = .ok (.getfield 69, 3) := by decide +kernel
theorem dX10_passYearOfTwo_26 : decode cX10_passYearOfTwo 26 = .ok (.iconst 1, 1) := by decide +kernel
theorem dX10_passYearOfTwo_27 : decode cX10_passYearOfTwo 27 = .ok (.iadd, 1) := by decide +kernel
theorem dX10_passYearOfTwo_28 : decode cX10_passYearOfTwo 28 = .ok (.putfield 69, 3) := by decide +kernel
theorem dX10_passYearOfTwo_31 : decode cX10_passYearOfTwo 31 = .ok (.return_, 1) := by decide +kernel
set_option maxRecDepth 100000 in
set_option maxHeartbeats 4000000 in
theorem v_X10_passYearOfTwo {l : Launch} {p : Program} {e : Env} {s : State} {mt : MethodId} {args : Array Value} {below : List Frame} {meth : Method} {c : Code} {A : Nat → Prop} {ad0 : Nat → Nat} {G : Gt} {N : Nat} (C : Cx G p s mt args meth c RX10 cX10_passYearOfTwo 3 none "passYearOfTwo" A) (hN : 109 ≤ N) (a : Nat) (ha : isWorld N a) (x1 : Int32) (x2 : Int32) (m : Mem) : V G SX oV l p e s mt args below meth c 3 5 A ad0 N N RX N RX 0 [(0, .ref a), (1, .int x1), (2, .int x2)] [] m (X10_passYearOfTwo a x1 x2 m) := by
  rw [X10_passYearOfTwo]
  refine V.aload_n (pc := 0) C dX10_passYearOfTwo_0 0 rfl ?_
  refine V.iload_n (pc := 1) C dX10_passYearOfTwo_1 1 rfl ?_
  refine V.callV (pc := 2) (st := []) C (c_X10_growOlder l hN a ha x1 m) obI ck_X10_growOlder ml_RX10_160 rfl rfl ha.s ha.k rfl rfl (Nat.le_of_ble_eq_true rfl) ⟨by decide, by decide⟩ dX10_passYearOfTwo_2 (fun r_1 m_2 _ => ?_)
  refine V.pop (pc := 5) C dX10_passYearOfTwo_5 rfl ?_
  refine V.aload_n (pc := 6) C dX10_passYearOfTwo_6 0 rfl ?_
  refine V.iload_n (pc := 7) C dX10_passYearOfTwo_7 2 rfl ?_
  refine V.callV (pc := 8) (st := []) C (c_X10_growOlder l hN a ha x2 m_2) obI ck_X10_growOlder ml_RX10_160 rfl rfl ha.s ha.k rfl rfl (Nat.le_of_ble_eq_true rfl) ⟨by decide, by decide⟩ dX10_passYearOfTwo_8 (fun r_3 m_4 _ => ?_)
  refine V.pop (pc := 11) C dX10_passYearOfTwo_11 rfl ?_
  refine V.aload_n (pc := 12) C dX10_passYearOfTwo_12 0 rfl ?_
  refine V.iload_n (pc := 13) C dX10_passYearOfTwo_13 1 rfl ?_
  refine V.iload_n (pc := 14) C dX10_passYearOfTwo_14 2 rfl ?_
  refine V.callV (pc := 15) (st := []) C (c_X10_exchange l hN a ha x1 x2 m_4) obV ck_X10_exchange ml_RX10_163 rfl rfl ha.s ha.k rfl rfl (Nat.le_of_ble_eq_true rfl) ⟨by decide, by decide⟩ dX10_passYearOfTwo_15 (fun r_5 m_6 _ => ?_)
  refine V.aload_n (pc := 18) C dX10_passYearOfTwo_18 0 rfl ?_
  refine V.getr (pc := 19) C fl_RX10_22 ha.s ha.k rfl ha.r2 dX10_passYearOfTwo_19 ?_
  refine V.dup (pc := 22) C dX10_passYearOfTwo_22 rfl ?_
  refine V.geti (pc := 23) C fl_RX10_69 ha.life.s ha.life.k rfl dX10_passYearOfTwo_23 ?_
  refine V.iconst (pc := 26) C dX10_passYearOfTwo_26 (v := 1) (by decide) ?_
  refine V.iadd (pc := 27) C dX10_passYearOfTwo_27 ?_
  refine V.puti (pc := 28) C fp_RX10_69 ha.life.s ha.life.k rfl dX10_passYearOfTwo_28 ?_
  refine V.ltm (fun m_7 => ?_)
  exact V.vret C dX10_passYearOfTwo_31
theorem c_X10_passYearOfTwo (l : Launch) {N : Nat} (hN : 109 ≤ N) (a : Nat) (ha : isWorld N a) (x1 : Int32) (x2 : Int32) (m : Mem) : Ct l yX10_passYearOfTwo cX10_passYearOfTwo 3 none 5 SX oV N N RX RX [.ref a, .int x1, .int x2] m (X10_passYearOfTwo a x1 x2 m) :=
  Ct.of (own := RX10) (nm := "passYearOfTwo") (by decide) rfl rfl (Nat.le_of_ble_eq_true rfl) (fun _ _ _ _ _ _ _ _ _ _ _ C => v_X10_passYearOfTwo C hN a ha x1 x2 m)
