theorem dX11_part_0 : decode cX11_part 0 = .ok (.aload_n 0, 1) := by decide +kernel
theorem dX11_part_1 : decode cX11_part 1 = .ok (.getfield 38, 3) := by decide +kernel
theorem dX11_part_4 : decode cX11_part 4 = .ok (.iload_n 1, 1) := by decide +kernel
theorem dX11_part_5 : decode cX11_part 5 = .ok (.invokevirtual 123, 3) := by decide +kernel
theorem dX11_part_8 : decode cX11_part 8 = .ok (.ifCond .ne 6, 3) := by decide +kernel
theorem dX11_part_11 : decode cX11_part 11 = .ok (.bipush (-2), 2) := by decide +kernel
theorem dX11_part_13 : decode cX11_part 13 = .ok (.ireturn, 1) := by decide +kernel
theorem dX11_part_14 : decode cX11_part 14 = .ok (.aload_n 0, 1) := by decide +kernel
theorem dX11_part_15 : decode cX11_part 15 = .ok (.getfield 38, 3) := by decide +kernel
theorem dX11_part_18 : decode cX11_part 18 = .ok (.getfield 108, 3) := by decide +kernel
theorem dX11_part_21 : decode cX11_part 21 = .ok (.getfield 137, 3) := by decide +kernel
theorem dX11_part_24 : decode cX11_part 24 = .ok (.iload_n 1, 1) := by decide +kernel
theorem dX11_part_25 : decode cX11_part 25 = .ok (.iaload, 1) := by decide +kernel
theorem dX11_part_26 : decode cX11_part 26 = .ok (.iconst (-1), 1) := by decide +kernel
theorem dX11_part_27 : decode cX11_part 27 = .ok (.if_icmp .ne 6, 3) := by decide +kernel
theorem dX11_part_30 : decode cX11_part 30 = .ok (.bipush (-5), 2) := by decide +kernel
theorem dX11_part_32 : decode cX11_part 32 = .ok (.ireturn, 1) := by decide +kernel
theorem dX11_part_33 : decode cX11_part 33 = .ok (.aload_n 0, 1) := by decide +kernel
theorem dX11_part_34 : decode cX11_part 34 = .ok (.getfield 57, 3) := by decide +kernel
theorem dX11_part_37 : decode cX11_part 37 = .ok (.aload_n 0, 1) := by decide +kernel
theorem dX11_part_38 : decode cX11_part 38 = .ok (.getfield 38, 3) := by decide +kernel
theorem dX11_part_41 : decode cX11_part 41 = .ok (.getfield 108, 3) := by decide +kernel
theorem dX11_part_44 : decode cX11_part 44 = .ok (.invokevirtual 188, 3) := by decide +kernel
theorem dX11_part_47 : decode cX11_part 47 = .ok (.aload_n 0, 1) := by decide +kernel
theorem dX11_part_48 : decode cX11_part 48 = .ok (.getfield 38, 3) := by decide +kernel
theorem dX11_part_51 : decode cX11_part 51 = .ok (.getfield 108, 3) := by decide +kernel
theorem dX11_part_54 : decode cX11_part 54 = .ok (.iload_n 1, 1) := by decide +kernel
theorem dX11_part_55 : decode cX11_part 55 = .ok (.invokevirtual 195, 3) := by decide +kernel
theorem dX11_part_58 : decode cX11_part 58 = .ok (.iconst 0, 1) := by decide +kernel
theorem dX11_part_59 : decode cX11_part 59 = .ok (.ireturn, 1) := by decide +kernel
set_option maxRecDepth 100000 in
set_option maxHeartbeats 4000000 in
theorem v_X11_part {l : Launch} {p : Program} {e : Env} {s : State} {mt : MethodId} {args : Array Value} {below : List Frame} {meth : Method} {c : Code} {A : Nat → Prop} {ad0 : Nat → Nat} {G : Gt} {N : Nat} (C : Cx G p s mt args meth c RX11 cX11_part 2 (some .int) "part" A) (hN : 109 ≤ N) (x1 : Int32) (m : Mem) : V G SX oI l p e s mt args below meth c 2 4 A ad0 N N RX N RX 0 [(0, .ref 0), (1, .int x1)] [] m (X11_part  x1 m) := by
  rw [X11_part]
  refine V.aload_n (pc := 0) C dX11_part_0 0 rfl ?_
  refine V.getr (pc := 1) C fl_RX11_38 sX0 (kX0 hN) rfl rX0_6 dX11_part_1 ?_
  refine V.iload_n (pc := 4) C dX11_part_4 1 rfl ?_
  refine V.callV (pc := 5) (st := []) C (c_X10_isPerson l hN 25 (iX25 hN) x1 m) obI ck_X10_isPerson ml_RX11_123 rfl rfl sX25 (kX25 hN) rfl rfl (Nat.le_of_ble_eq_true rfl) ⟨by decide, by decide⟩ dX11_part_5 (fun r_1 m_2 _ => ?_)
  refine V.if_ne (pc := 8) C dX11_part_8 14 (by decide) (fun _ => ?_) (fun _ => ?_)
  · refine V.aload_n (pc := 14) C dX11_part_14 0 rfl ?_
    refine V.getr (pc := 15) C fl_RX11_38 sX0 (kX0 hN) rfl rX0_6 dX11_part_15 ?_
    refine V.getr (pc := 18) C fl_RX11_108 sX25 (kX25 hN) rfl rX25_2 dX11_part_18 ?_
    refine V.getr (pc := 21) C fl_RX11_137 sX26 (kX26 hN) rfl rX26_2 dX11_part_21 ?_
    refine V.iload_n (pc := 24) C dX11_part_24 1 rfl ?_
    refine V.iald (pc := 25) C sX28 (kX28 hN) dX11_part_25 (fun _ => ?_)
    refine V.iconst (pc := 26) C dX11_part_26 (v := (-1)) (by decide) ?_
    refine V.icmp_ne (pc := 27) C dX11_part_27 33 (by decide) (fun _ => ?_) (fun _ => ?_)
    · refine V.aload_n (pc := 33) C dX11_part_33 0 rfl ?_
      refine V.getr (pc := 34) C fl_RX11_57 sX0 (kX0 hN) rfl rX0_9 dX11_part_34 ?_
      refine V.aload_n (pc := 37) C dX11_part_37 0 rfl ?_
      refine V.getr (pc := 38) C fl_RX11_38 sX0 (kX0 hN) rfl rX0_6 dX11_part_38 ?_
      refine V.getr (pc := 41) C fl_RX11_108 sX25 (kX25 hN) rfl rX25_2 dX11_part_41 ?_
      refine V.callV (pc := 44) (st := []) C (c_X2_keep l hN 26 (iX26 hN) m_2) obV ck_X2_keep ml_RX11_188 rfl rfl sX40 (kX40 hN) rfl rfl (Nat.le_of_ble_eq_true rfl) ⟨by decide, by decide⟩ dX11_part_44 (fun r_3 m_4 _ => ?_)
      refine V.aload_n (pc := 47) C dX11_part_47 0 rfl ?_
      refine V.getr (pc := 48) C fl_RX11_38 sX0 (kX0 hN) rfl rX0_6 dX11_part_48 ?_
      refine V.getr (pc := 51) C fl_RX11_108 sX25 (kX25 hN) rfl rX25_2 dX11_part_51 ?_
      refine V.iload_n (pc := 54) C dX11_part_54 1 rfl ?_
      refine V.callV (pc := 55) (st := []) C (c_X5_split l hN 26 (iX26 hN) x1 m_4) obV ck_X5_split ml_RX11_195 rfl rfl sX26 (kX26 hN) rfl rfl (Nat.le_of_ble_eq_true rfl) ⟨by decide, by decide⟩ dX11_part_55 (fun r_5 m_6 _ => ?_)
      refine V.iconst (pc := 58) C dX11_part_58 (v := 0) (by decide) ?_
      exact V.iret C dX11_part_59
    · refine V.bipush (pc := 30) C dX11_part_30 (v := (-5)) (by decide) ?_
      exact V.iret C dX11_part_32
  · refine V.bipush (pc := 11) C dX11_part_11 (v := (-2)) (by decide) ?_
    exact V.iret C dX11_part_13
theorem c_X11_part (l : Launch) {N : Nat} (hN : 109 ≤ N) (x1 : Int32) (m : Mem) : Ct l yX11_part cX11_part 2 (some .int) 4 SX oI N N RX RX [.ref 0, .int x1] m (X11_part  x1 m) :=
  Ct.of (own := RX11) (nm := "part") (by decide) rfl rfl (Nat.le_of_ble_eq_true rfl) (fun _ _ _ _ _ _ _ _ _ _ _ C => v_X11_part C hN x1 m)
theorem dX11_peace_0 : decode cX11_peace 0 = .ok (.iconst 0, 1) := by decide +kernel
theorem dX11_peace_1 : decode cX11_peace 1 = .ok (.istore_n 1, 1) := by decide +kernel
theorem dX11_peace_2 : decode cX11_peace 2 = .ok (.iconst 0, 1) := by decide +kernel
theorem dX11_peace_3 : decode cX11_peace 3 = .ok (.istore_n 2, 1) := by decide +kernel
theorem dX11_peace_4 : decode cX11_peace 4 = .ok (.iload_n 2, 1) := by decide +kernel
theorem dX11_peace_5 : decode cX11_peace 5 = .ok (.aload_n 0, 1) := by decide +kernel
theorem dX11_peace_6 : decode cX11_peace 6 = .ok (.getfield 16, 3) := by decide +kernel
theorem dX11_peace_9 : decode cX11_peace 9 = .ok (.getfield 249, 3) := by decide +kernel
theorem dX11_peace_12 : decode cX11_peace 12 = .ok (.if_icmp .ge 33, 3) := by decide +kernel
theorem dX11_peace_15 : decode cX11_peace 15 = .ok (.iload_n 1, 1) := by decide +kernel
theorem dX11_peace_16 : decode cX11_peace 16 = .ok (.aload_n 0, 1) := by decide +kernel
theorem dX11_peace_17 : decode cX11_peace 17 = .ok (.getfield 38, 3) := by decide +kernel
theorem dX11_peace_20 : decode cX11_peace 20 = .ok (.getfield 108, 3) := by decide +kernel
theorem dX11_peace_23 : decode cX11_peace 23 = .ok (.getfield 134, 3) := by decide +kernel
theorem dX11_peace_26 : decode cX11_peace 26 = .ok (.iload_n 2, 1) := by decide +kernel
theorem dX11_peace_27 : decode cX11_peace 27 = .ok (.iaload, 1) := by decide +kernel
theorem dX11_peace_28 : decode cX11_peace 28 = .ok (.aload_n 0, 1) := by decide +kernel
theorem dX11_peace_29 : decode cX11_peace 29 = .ok (.getfield 16, 3) := by decide +kernel
theorem dX11_peace_32 : decode cX11_peace 32 = .ok (.iload_n 2, 1) := by decide +kernel
theorem dX11_peace_33 : decode cX11_peace 33 = .ok (.invokevirtual 338, 3) := by decide +kernel
theorem dX11_peace_36 : decode cX11_peace 36 = .ok (.iand, 1) := by decide +kernel
theorem dX11_peace_37 : decode cX11_peace 37 = .ok (.ior, 1) := by decide +kernel
theorem dX11_peace_38 : decode cX11_peace 38 = .ok (.istore_n 1, 1) := by decide +kernel
theorem dX11_peace_39 : decode cX11_peace 39 = .ok (.iinc 2 1, 3) := by decide +kernel
theorem dX11_peace_42 : decode cX11_peace 42 = .ok (.goto (-38), 3) := by decide +kernel
theorem dX11_peace_45 : decode cX11_peace 45 = .ok (.iload_n 1, 1) := by decide +kernel
theorem dX11_peace_46 : decode cX11_peace 46 = .ok (.ireturn, 1) := by decide +kernel
set_option maxRecDepth 100000 in
set_option maxHeartbeats 4000000 in
theorem v_X11_peace_b4 {l : Launch} {p : Program} {e : Env} {s : State} {mt : MethodId} {args : Array Value} {below : List Frame} {meth : Method} {c : Code} {A : Nat → Prop} {ad0 : Nat → Nat} {G : Gt} {N : Nat} (C : Cx G p s mt args meth c RX11 cX11_peace 3 (some .int) "peace" A) (hN : 109 ≤ N) : ∀ (n : Nat) (y1 : Int32) (y2 : Int32) (m : Mem), V G SX oI l p e s mt args below meth c 3 2 A ad0 N N RX N RX 4 [(0, .ref 0), (1, .int y1), (2, .int y2)] [] m (X11_peace_b4  n y1 y2 m) := by
  intro n
  induction n with
  | zero =>
    intro y1 y2 m
    rw [X11_peace_b4]
    exact V.nil
  | succ n ih =>
    intro y1 y2 m
    rw [X11_peace_b4]
    refine V.iload_n (pc := 4) C dX11_peace_4 2 rfl ?_
    refine V.aload_n (pc := 5) C dX11_peace_5 0 rfl ?_
    refine V.getr (pc := 6) C fl_RX11_16 sX0 (kX0 hN) rfl rX0_3 dX11_peace_6 ?_
    refine V.geti (pc := 9) C fl_RX11_249 sX2 (kX2 hN) rfl dX11_peace_9 ?_
    refine V.icmp_ge (pc := 12) C dX11_peace_12 45 (by decide) (fun _ => ?_) (fun _ => ?_)
    · refine V.iload_n (pc := 45) C dX11_peace_45 1 rfl ?_
      exact V.iret C dX11_peace_46
    · refine V.iload_n (pc := 15) C dX11_peace_15 1 rfl ?_
      refine V.aload_n (pc := 16) C dX11_peace_16 0 rfl ?_
      refine V.getr (pc := 17) C fl_RX11_38 sX0 (kX0 hN) rfl rX0_6 dX11_peace_17 ?_
      refine V.getr (pc := 20) C fl_RX11_108 sX25 (kX25 hN) rfl rX25_2 dX11_peace_20 ?_
      refine V.getr (pc := 23) C fl_RX11_134 sX26 (kX26 hN) rfl rX26_3 dX11_peace_23 ?_
      refine V.iload_n (pc := 26) C dX11_peace_26 2 rfl ?_
      refine V.iald (pc := 27) C sX29 (kX29 hN) dX11_peace_27 (fun _ => ?_)
      refine V.aload_n (pc := 28) C dX11_peace_28 0 rfl ?_
      refine V.getr (pc := 29) C fl_RX11_16 sX0 (kX0 hN) rfl rX0_3 dX11_peace_29 ?_
      refine V.iload_n (pc := 32) C dX11_peace_32 2 rfl ?_
      refine V.callV (pc := 33) (st := [.int (gi m 29 (ix y2)), .int y1]) C (c_X8_traitsBut l hN 2 (iX2 hN) y2 m) obI ck_X8_traitsBut ml_RX11_338 rfl rfl sX2 (kX2 hN) rfl rfl (Nat.le_of_ble_eq_true rfl) ⟨by decide, by decide⟩ dX11_peace_33 (fun r_1 m_2 _ => ?_)
      refine V.iand (pc := 36) C dX11_peace_36 ?_
      refine V.ior (pc := 37) C dX11_peace_37 ?_
      refine V.lti (fun x_3 _ => ?_)
      refine V.istore_n (pc := 38) C dX11_peace_38 (L2 := [(1, .int x_3), (0, .ref 0), (2, .int y2)]) (by decide) rfl ?_
      refine V.iinc (pc := 39) C dX11_peace_39 (v := 1) (L2 := [(2, .int (y2 + 1)), (1, .int x_3), (0, .ref 0)]) 2 rfl (by decide) (by decide) rfl ?_
      refine V.goto (pc := 42) C dX11_peace_42 4 (by decide) ?_
      refine V.wk [2, 1, 0] rfl ?_
      exact ih x_3 (y2 + 1) m_2
set_option maxRecDepth 100000 in
set_option maxHeartbeats 4000000 in
theorem v_X11_peace {l : Launch} {p : Program} {e : Env} {s : State} {mt : MethodId} {args : Array Value} {below : List Frame} {meth : Method} {c : Code} {A : Nat → Prop} {ad0 : Nat → Nat} {G : Gt} {N : Nat} (C : Cx G p s mt args meth c RX11 cX11_peace 3 (some .int) "peace" A) (hN : 109 ≤ N) (m : Mem) : V G SX oI l p e s mt args below meth c 3 2 A ad0 N N RX N RX 0 [(0, .ref 0)] [] m (X11_peace   m) := by
  rw [X11_peace]
  refine V.iconst (pc := 0) C dX11_peace_0 (v := 0) (by decide) ?_
  refine V.istore_n (pc := 1) C dX11_peace_1 (L2 := [(1, .int 0), (0, .ref 0)]) (by decide) rfl ?_
  refine V.iconst (pc := 2) C dX11_peace_2 (v := 0) (by decide) ?_
  refine V.istore_n (pc := 3) C dX11_peace_3 (L2 := [(2, .int 0), (1, .int 0), (0, .ref 0)]) (by decide) rfl ?_
  refine V.wk [2, 1, 0] rfl ?_
  exact v_X11_peace_b4 C hN FU 0 0 m
theorem c_X11_peace (l : Launch) {N : Nat} (hN : 109 ≤ N) (m : Mem) : Ct l yX11_peace cX11_peace 3 (some .int) 2 SX oI N N RX RX [.ref 0] m (X11_peace   m) :=
  Ct.of (own := RX11) (nm := "peace") (by decide) rfl rfl (Nat.le_of_ble_eq_true rfl) (fun _ _ _ _ _ _ _ _ _ _ _ C => v_X11_peace C hN  m)
theorem dX11_perform_0 : decode cX11_perform 0 = .ok (.iload_n 1, 1) := by decide +kernel
theorem dX11_perform_1 : decode cX11_perform 1 = .ok (.invokestatic 223, 3) := by decide +kernel
theorem dX11_perform_4 : decode cX11_perform 4 = .ok (.ifCond .ne 6, 3) := by decide +kernel
theorem dX11_perform_7 : decode cX11_perform 7 = .ok (.bipush (-2), 2) := by decide +kernel
theorem dX11_perform_9 : decode cX11_perform 9 = .ok (.ireturn, 1) := by decide +kernel
theorem dX11_perform_10 : decode cX11_perform 10 = .ok (.aload_n 0, 1) := by decide +kernel
theorem dX11_perform_11 : decode cX11_perform 11 = .ok (.getfield 79, 3) := by decide +kernel
theorem dX11_perform_14 : decode cX11_perform 14 = .ok (.iload_n 1, 1) := by decide +kernel
theorem dX11_perform_15 : decode cX11_perform 15 = .ok (.aaload, 1) := by decide +kernel
theorem dX11_perform_16 : decode cX11_perform 16 = .ok (.getfield 226, 3) := by decide +kernel
theorem dX11_perform_19 : decode cX11_perform 19 = .ok (.ifCond .ne 6, 3) := by decide +kernel
theorem dX11_perform_22 : decode cX11_perform 22 = .ok (.bipush (-6), 2) := by decide +kernel
theorem dX11_perform_24 : decode cX11_perform 24 = .ok (.ireturn, 1) := by decide +kernel
theorem dX11_perform_25 : decode cX11_perform 25 = .ok (.aload_n 0, 1) := by decide +kernel
theorem dX11_perform_26 : decode cX11_perform 26 = .ok (.aload_n 0, 1) := by decide +kernel
theorem dX11_perform_27 : decode cX11_perform 27 = .ok (.getfield 79, 3) := by decide +kernel
theorem dX11_perform_30 : decode cX11_perform 30 = .ok (.iload_n 1, 1) := by decide +kernel
theorem dX11_perform_31 : decode cX11_perform 31 = .ok (.aaload, 1) := by decide +kernel
theorem dX11_perform_32 : decode cX11_perform 32 = .ok (.invokevirtual 230, 3) := by decide +kernel
theorem dX11_perform_35 : decode cX11_perform 35 = .ok (.istore_n 2, 1) := by decide +kernel
theorem dX11_perform_36 : decode cX11_perform 36 = .ok (.aload_n 0, 1) := by decide +kernel
theorem dX11_perform_37 : decode cX11_perform 37 = .ok (.iload_n 2, 1) := by decide +kernel
theorem dX11_perform_38 : decode cX11_perform 38 = .ok (.invokevirtual 243, 3) := by decide +kernel
theorem dX11_perform_41 : decode cX11_perform 41 = .ok (.iload_n 2, 1) := by decide +kernel
theorem dX11_perform_42 : decode cX11_perform 42 = .ok (.ireturn, 1) := by decide +kernel
set_option maxRecDepth 100000 in
set_option maxHeartbeats 4000000 in
theorem v_X11_perform {l : Launch} {p : Program} {e : Env} {s : State} {mt : MethodId} {args : Array Value} {below : List Frame} {meth : Method} {c : Code} {A : Nat → Prop} {ad0 : Nat → Nat} {G : Gt} {N : Nat} (C : Cx G p s mt args meth c RX11 cX11_perform 3 (some .int) "perform" A) (hN : 109 ≤ N) (x1 : Int32) (m : Mem) : V G SX oI l p e s mt args below meth c 3 8 A ad0 N N RX N RX 0 [(0, .ref 0), (1, .int x1)] [] m (X11_perform  x1 m) := by
  rw [X11_perform]
  refine V.iload_n (pc := 0) C dX11_perform_0 1 rfl ?_
  refine V.callS (pc := 1) (st := []) C (c_X11_isTray l hN x1 m) obI ck_X11_isTray ml_RX11_223 rfl rfl (Nat.le_of_ble_eq_true rfl) ⟨by decide, by decide⟩ dX11_perform_1 (fun r_1 m_2 _ => ?_)
  refine V.if_ne (pc := 4) C dX11_perform_4 10 (by decide) (fun _ => ?_) (fun _ => ?_)
  · refine V.aload_n (pc := 10) C dX11_perform_10 0 rfl ?_
    refine V.getr (pc := 11) C fl_RX11_79 sX0 (kX0 hN) rfl rX0_12 dX11_perform_11 ?_
    refine V.iload_n (pc := 14) C dX11_perform_14 1 rfl ?_
    refine V.aald (pc := 15) (f := fun j => 100 + 2 * j) C sX99 (Or.inr rfl) (kX99 hN) rTrays dX11_perform_15 (fun h_4 => ?_)
    refine V.ltr (fun b_3 eb_3 => ?_)
    have hb_3 : isTray N b_3 := by rw [eb_3]; exact trayAt hN h_4
    refine V.geti (pc := 16) C fl_RX11_226 hb_3.s hb_3.k rfl dX11_perform_16 ?_
    refine V.if_ne (pc := 19) C dX11_perform_19 25 (by decide) (fun _ => ?_) (fun _ => ?_)
    · refine V.aload_n (pc := 25) C dX11_perform_25 0 rfl ?_
      refine V.aload_n (pc := 26) C dX11_perform_26 0 rfl ?_
      refine V.getr (pc := 27) C fl_RX11_79 sX0 (kX0 hN) rfl rX0_12 dX11_perform_27 ?_
      refine V.iload_n (pc := 30) C dX11_perform_30 1 rfl ?_
      refine V.aald (pc := 31) (f := fun j => 100 + 2 * j) C sX99 (Or.inr rfl) (kX99 hN) rTrays dX11_perform_31 (fun h_6 => ?_)
      refine V.ltr (fun b_5 eb_5 => ?_)
      have hb_5 : isTray N b_5 := by rw [eb_5]; exact trayAt hN h_6
      refine V.callV (pc := 32) (st := []) C (c_X11_rehearse l hN b_5 hb_5 m_2) obI ck_X11_rehearse ml_RX11_230 rfl rfl sX0 (kX0 hN) rfl rfl (Nat.le_of_ble_eq_true rfl) ⟨by decide, by decide⟩ dX11_perform_32 (fun r_7 m_8 _ => ?_)
      refine V.istore_n (pc := 35) C dX11_perform_35 (L2 := [(2, .int r_7), (0, .ref 0), (1, .int x1)]) (by decide) rfl ?_
      refine V.aload_n (pc := 36) C dX11_perform_36 1 rfl ?_
      refine V.iload_n (pc := 37) C dX11_perform_37 0 rfl ?_
      refine V.callV (pc := 38) (st := []) C (c_X11_acceptTrial l hN r_7 m_8) obV ck_X11_acceptTrial ml_RX11_243 rfl rfl sX0 (kX0 hN) rfl rfl (Nat.le_of_ble_eq_true rfl) ⟨by decide, by decide⟩ dX11_perform_38 (fun r_9 m_10 _ => ?_)
      refine V.iload_n (pc := 41) C dX11_perform_41 0 rfl ?_
      exact V.iret C dX11_perform_42
    · refine V.bipush (pc := 22) C dX11_perform_22 (v := (-6)) (by decide) ?_
      exact V.iret C dX11_perform_24
  · refine V.bipush (pc := 7) C dX11_perform_7 (v := (-2)) (by decide) ?_
    exact V.iret C dX11_perform_9
theorem c_X11_perform (l : Launch) {N : Nat} (hN : 109 ≤ N) (x1 : Int32) (m : Mem) : Ct l yX11_perform cX11_perform 3 (some .int) 8 SX oI N N RX RX [.ref 0, .int x1] m (X11_perform  x1 m) :=
  Ct.of (own := RX11) (nm := "perform") (by decide) rfl rfl (Nat.le_of_ble_eq_true rfl) (fun _ _ _ _ _ _ _ _ _ _ _ C => v_X11_perform C hN x1 m)
theorem dX11_person_0 : decode cX11_person 0 = .ok (.aload_n 0, 1) := by decide +kernel
theorem dX11_person_1 : decode cX11_person 1 = .ok (.getfield 38, 3) := by decide +kernel
theorem dX11_person_4 : decode cX11_person 4 = .ok (.iload_n 1, 1) := by decide +kernel
theorem dX11_person_5 : decode cX11_person 5 = .ok (.invokevirtual 123, 3) := by decide +kernel
theorem dX11_person_8 : decode cX11_person 8 = .ok (.ifCond .ne 6, 3) := by decide +kernel
theorem dX11_person_11 : decode cX11_person 11 = .ok (.bipush (-2), 2) := by decide +kernel
theorem dX11_person_13 : decode cX11_person 13 = .ok (.ireturn, 1) := by decide +kernel
theorem dX11_person_14 : decode cX11_person 14 = .ok (.iload_n 2, 1) := by decide +kernel
theorem dX11_person_15 : decode cX11_person 15 = .ok (.tableswitch 78 0 3 #[29, 42, 52, 65], 29) := by decide +kernel
theorem dX11_person_44 : decode cX11_person 44 = .ok (.aload_n 0, 1) := by decide +kernel
theorem dX11_person_45 : decode cX11_person 45 = .ok (.getfield 38, 3) := by decide +kernel
theorem dX11_person_48 : decode cX11_person 48 = .ok (.getfield 108, 3) := by decide +kernel
theorem dX11_person_51 : decode cX11_person 51 = .ok (.getfield 127, 3) := by decide +kernel
theorem dX11_person_54 : decode cX11_person 54 = .ok (.iload_n 1, 1) := by decide +kernel
theorem dX11_person_55 : decode cX11_person 55 = .ok (.iaload, 1) := by decide +kernel
theorem dX11_person_56 : decode cX11_person 56 = .ok (.ireturn, 1) := by decide +kernel
theorem dX11_person_57 : decode cX11_person 57 = .ok (.aload_n 0, 1) := by decide +kernel
theorem dX11_person_58 : decode cX11_person 58 = .ok (.getfield 16, 3) := by decide +kernel
theorem dX11_person_61 : decode cX11_person 61 = .ok (.getfield 131, 3) := by decide +kernel
theorem dX11_person_64 : decode cX11_person 64 = .ok (.iload_n 1, 1) := by decide +kernel
theorem dX11_person_65 : decode cX11_person 65 = .ok (.iaload, 1) := by decide +kernel
theorem dX11_person_66 : decode cX11_person 66 = .ok (.ireturn, 1) := by decide +kernel
theorem dX11_person_67 : decode cX11_person 67 = .ok (.aload_n 0, 1) := by decide +kernel
theorem dX11_person_68 : decode cX11_person 68 = .ok (.getfield 38, 3) := by decide +kernel
theorem dX11_person_71 : decode cX11_person 71 = .ok (.getfield 108, 3) := by decide +kernel
theorem dX11_person_74 : decode cX11_person 74 = .ok (.getfield 134, 3) := by decide +kernel
theorem dX11_person_77 : decode cX11_person 77 = .ok (.iload_n 1, 1) := by decide +kernel
theorem dX11_person_78 : decode cX11_person 78 = .ok (.iaload, 1) := by decide +kernel
theorem dX11_person_79 : decode cX11_person 79 = .ok (.ireturn, 1) := by decide +kernel
theorem dX11_person_80 : decode cX11_person 80 = .ok (.aload_n 0, 1) := by decide +kernel
theorem dX11_person_81 : decode cX11_person 81 = .ok (.getfield 38, 3) := by decide +kernel
theorem dX11_person_84 : decode cX11_person 84 = .ok (.getfield 108, 3) := by decide +kernel
theorem dX11_person_87 : decode cX11_person 87 = .ok (.getfield 137, 3) := by decide +kernel
theorem dX11_person_90 : decode cX11_person 90 = .ok (.iload_n 1, 1) := by decide +kernel
theorem dX11_person_91 : decode cX11_person 91 = .ok (.iaload, 1) := by decide +kernel
theorem dX11_person_92 : decode cX11_person 92 = .ok (.ireturn, 1) := by decide +kernel
theorem dX11_person_93 : decode cX11_person 93 = .ok (.bipush (-2), 2) := by decide +kernel
theorem dX11_person_95 : decode cX11_person 95 = .ok (.ireturn, 1) := by decide +kernel
set_option maxRecDepth 100000 in
set_option maxHeartbeats 4000000 in
theorem v_X11_person {l : Launch} {p : Program} {e : Env} {s : State} {mt : MethodId} {args : Array Value} {below : List Frame} {meth : Method} {c : Code} {A : Nat → Prop} {ad0 : Nat → Nat} {G : Gt} {N : Nat} (C : Cx G p s mt args meth c RX11 cX11_person 3 (some .int) "person" A) (hN : 109 ≤ N) (x1 : Int32) (x2 : Int32) (m : Mem) : V G SX oI l p e s mt args below meth c 3 2 A ad0 N N RX N RX 0 [(0, .ref 0), (1, .int x1), (2, .int x2)] [] m (X11_person  x1 x2 m) := by
  rw [X11_person]
  refine V.aload_n (pc := 0) C dX11_person_0 0 rfl ?_
  refine V.getr (pc := 1) C fl_RX11_38 sX0 (kX0 hN) rfl rX0_6 dX11_person_1 ?_
  refine V.iload_n (pc := 4) C dX11_person_4 1 rfl ?_
  refine V.callV (pc := 5) (st := []) C (c_X10_isPerson l hN 25 (iX25 hN) x1 m) obI ck_X10_isPerson ml_RX11_123 rfl rfl sX25 (kX25 hN) rfl rfl (Nat.le_of_ble_eq_true rfl) ⟨by decide, by decide⟩ dX11_person_5 (fun r_1 m_2 _ => ?_)
  refine V.if_ne (pc := 8) C dX11_person_8 14 (by decide) (fun _ => ?_) (fun _ => ?_)
  · refine V.iload_n (pc := 14) C dX11_person_14 2 rfl ?_
    refine V.br (fun h_3 => ?_) (fun h_3 => ?_)
    · refine V.tin (pc := 15) (x := x2) (j := 0) (tgt := 44) C dX11_person_15 h_3 (by decide) (by decide) rfl (by decide) ?_
      refine V.aload_n (pc := 44) C dX11_person_44 0 rfl ?_
      refine V.getr (pc := 45) C fl_RX11_38 sX0 (kX0 hN) rfl rX0_6 dX11_person_45 ?_
      refine V.getr (pc := 48) C fl_RX11_108 sX25 (kX25 hN) rfl rX25_2 dX11_person_48 ?_
      refine V.getr (pc := 51) C fl_RX11_127 sX26 (kX26 hN) rfl rX26_1 dX11_person_51 ?_
      refine V.iload_n (pc := 54) C dX11_person_54 1 rfl ?_
      refine V.iald (pc := 55) C sX27 (kX27 hN) dX11_person_55 (fun _ => ?_)
      exact V.iret C dX11_person_56
    · refine V.br (fun h_4 => ?_) (fun h_4 => ?_)
      · refine V.tin (pc := 15) (x := x2) (j := 1) (tgt := 57) C dX11_person_15 h_4 (by decide) (by decide) rfl (by decide) ?_
        refine V.aload_n (pc := 57) C dX11_person_57 0 rfl ?_
        refine V.getr (pc := 58) C fl_RX11_16 sX0 (kX0 hN) rfl rX0_3 dX11_person_58 ?_
        refine V.getr (pc := 61) C fl_RX11_131 sX2 (kX2 hN) rfl rX2_6 dX11_person_61 ?_
        refine V.iload_n (pc := 64) C dX11_person_64 1 rfl ?_
        refine V.iald (pc := 65) C sX4 (kX4 hN) dX11_person_65 (fun _ => ?_)
        exact V.iret C dX11_person_66
      · refine V.br (fun h_5 => ?_) (fun h_5 => ?_)
        · refine V.tin (pc := 15) (x := x2) (j := 2) (tgt := 67) C dX11_person_15 h_5 (by decide) (by decide) rfl (by decide) ?_
          refine V.aload_n (pc := 67) C dX11_person_67 0 rfl ?_
          refine V.getr (pc := 68) C fl_RX11_38 sX0 (kX0 hN) rfl rX0_6 dX11_person_68 ?_
          refine V.getr (pc := 71) C fl_RX11_108 sX25 (kX25 hN) rfl rX25_2 dX11_person_71 ?_
          refine V.getr (pc := 74) C fl_RX11_134 sX26 (kX26 hN) rfl rX26_3 dX11_person_74 ?_
          refine V.iload_n (pc := 77) C dX11_person_77 1 rfl ?_
          refine V.iald (pc := 78) C sX29 (kX29 hN) dX11_person_78 (fun _ => ?_)
          exact V.iret C dX11_person_79
        · refine V.br (fun h_6 => ?_) (fun h_6 => ?_)
          · refine V.tin (pc := 15) (x := x2) (j := 3) (tgt := 80) C dX11_person_15 h_6 (by decide) (by decide) rfl (by decide) ?_
            refine V.aload_n (pc := 80) C dX11_person_80 0 rfl ?_
            refine V.getr (pc := 81) C fl_RX11_38 sX0 (kX0 hN) rfl rX0_6 dX11_person_81 ?_
            refine V.getr (pc := 84) C fl_RX11_108 sX25 (kX25 hN) rfl rX25_2 dX11_person_84 ?_
            refine V.getr (pc := 87) C fl_RX11_137 sX26 (kX26 hN) rfl rX26_2 dX11_person_87 ?_
            refine V.iload_n (pc := 90) C dX11_person_90 1 rfl ?_
            refine V.iald (pc := 91) C sX28 (kX28 hN) dX11_person_91 (fun _ => ?_)
            exact V.iret C dX11_person_92
          · have g0 := lv_neT h_3 (show (0 : Int32).toInt = 0 from by decide)
            have g1 := lv_neT h_4 (show (1 : Int32).toInt = 1 from by decide)
            have g2 := lv_neT h_5 (show (2 : Int32).toInt = 2 from by decide)
            have g3 := lv_neT h_6 (show (3 : Int32).toInt = 3 from by decide)
            refine V.tout (pc := 15) (x := x2) (tgt := 93) C dX11_person_15 (by omega) (by decide) ?_
            refine V.bipush (pc := 93) C dX11_person_93 (v := (-2)) (by decide) ?_
            exact V.iret C dX11_person_95
  · refine V.bipush (pc := 11) C dX11_person_11 (v := (-2)) (by decide) ?_
    exact V.iret C dX11_person_13
theorem c_X11_person (l : Launch) {N : Nat} (hN : 109 ≤ N) (x1 : Int32) (x2 : Int32) (m : Mem) : Ct l yX11_person cX11_person 3 (some .int) 2 SX oI N N RX RX [.ref 0, .int x1, .int x2] m (X11_person  x1 x2 m) :=
  Ct.of (own := RX11) (nm := "person") (by decide) rfl rfl (Nat.le_of_ble_eq_true rfl) (fun _ _ _ _ _ _ _ _ _ _ _ C => v_X11_person C hN x1 x2 m)
theorem dX11_pieced_0 : decode cX11_pieced 0 = .ok (.aload_n 0, 1) := by decide +kernel
theorem dX11_pieced_1 : decode cX11_pieced 1 = .ok (.getfield 38, 3) := by decide +kernel
theorem dX11_pieced_4 : decode cX11_pieced 4 = .ok (.iload_n 1, 1) := by decide +kernel
theorem dX11_pieced_5 : decode cX11_pieced 5 = .ok (.invokevirtual 123, 3) := by decide +kernel
theorem dX11_pieced_8 : decode cX11_pieced 8 = .ok (.ifCond .eq 10, 3) := by decide +kernel
theorem dX11_pieced_11 : decode cX11_pieced 11 = .ok (.iload_n 2, 1) := by decide +kernel
theorem dX11_pieced_12 : decode cX11_pieced 12 = .ok (.invokestatic 315, 3) := by decide +kernel
theorem dX11_pieced_15 : decode cX11_pieced 15 = .ok (.ifCond .ne 6, 3) := by decide +kernel
theorem dX11_pieced_18 : decode cX11_pieced 18 = .ok (.bipush (-2), 2) := by decide +kernel
theorem dX11_pieced_20 : decode cX11_pieced 20 = .ok (.ireturn, 1) := by decide +kernel
theorem dX11_pieced_21 : decode cX11_pieced 21 = .ok (.aload_n 0, 1) := by decide +kernel
theorem dX11_pieced_22 : decode cX11_pieced 22 = .ok (.getfield 16, 3) := by decide +kernel
theorem dX11_pieced_25 : decode cX11_pieced 25 = .ok (.invokevirtual 265, 3) := by decide +kernel
theorem dX11_pieced_28 : decode cX11_pieced 28 = .ok (.istore_n 3, 1) := by decide +kernel
theorem dX11_pieced_29 : decode cX11_pieced 29 = .ok (.iconst (-1), 1) := by decide +kernel
theorem dX11_pieced_30 : decode cX11_pieced 30 = .ok (.istore 4, 2) := by decide +kernel
theorem dX11_pieced_32 : decode cX11_pieced 32 = .ok (.iconst 0, 1) := by decide +kernel
theorem dX11_pieced_33 : decode cX11_pieced 33 = .ok (.istore 5, 2) := by decide +kernel
theorem dX11_pieced_35 : decode cX11_pieced 35 = .ok (.iconst 0, 1) := by decide +kernel
theorem dX11_pieced_36 : decode cX11_pieced 36 = .ok (.istore 6, 2) := by decide +kernel
theorem dX11_pieced_38 : decode cX11_pieced 38 = .ok (.iload 6, 2) := by decide +kernel
theorem dX11_pieced_40 : decode cX11_pieced 40 = .ok (.iload_n 3, 1) := by decide +kernel
theorem dX11_pieced_41 : decode cX11_pieced 41 = .ok (.if_icmp .gt 81, 3) := by decide +kernel
theorem dX11_pieced_44 : decode cX11_pieced 44 = .ok (.iload 4, 2) := by decide +kernel
theorem dX11_pieced_46 : decode cX11_pieced 46 = .ok (.iconst (-1), 1) := by decide +kernel
theorem dX11_pieced_47 : decode cX11_pieced 47 = .ok (.if_icmp .eq 13, 3) := by decide +kernel
theorem dX11_pieced_50 : decode cX11_pieced 50 = .ok (.iload 6, 2) := by decide +kernel
theorem dX11_pieced_52 : decode cX11_pieced 52 = .ok (.invokestatic 204, 3) := by decide +kernel
theorem dX11_pieced_55 : decode cX11_pieced 55 = .ok (.iload 4, 2) := by decide +kernel
theorem dX11_pieced_57 : decode cX11_pieced 57 = .ok (.if_icmp .ge 7, 3) := by decide +kernel
theorem dX11_pieced_60 : decode cX11_pieced 60 = .ok (.iconst 1, 1) := by decide +kernel
theorem dX11_pieced_61 : decode cX11_pieced 61 = .ok (.goto 4, 3) := by decide +kernel
theorem dX11_pieced_64 : decode cX11_pieced 64 = .ok (.iconst 0, 1) := by decide +kernel
theorem dX11_pieced_65 : decode cX11_pieced 65 = .ok (.istore 7, 2) := by decide +kernel
theorem dX11_pieced_67 : decode cX11_pieced 67 = .ok (.iload 7, 2) := by decide +kernel
theorem dX11_pieced_69 : decode cX11_pieced 69 = .ok (.ifCond .eq 47, 3) := by decide +kernel
theorem dX11_pieced_72 : decode cX11_pieced 72 = .ok (.iload 6, 2) := by decide +kernel
theorem dX11_pieced_74 : decode cX11_pieced 74 = .ok (.iconst 1, 1) := by decide +kernel
theorem dX11_pieced_75 : decode cX11_pieced 75 = .ok (.iload_n 1, 1) := by decide +kernel
theorem dX11_pieced_76 : decode cX11_pieced 76 = .ok (.ishl, 1) := by decide +kernel
theorem dX11_pieced_77 : decode cX11_pieced 77 = .ok (.iand, 1) := by decide +kernel
theorem dX11_pieced_78 : decode cX11_pieced 78 = .ok (.ifCond .ne 38, 3) := by decide +kernel
theorem dX11_pieced_81 : decode cX11_pieced 81 = .ok (.aload_n 0, 1) := by decide +kernel
theorem dX11_pieced_82 : decode cX11_pieced 82 = .ok (.getfield 38, 3) := by decide +kernel
theorem dX11_pieced_85 : decode cX11_pieced 85 = .ok (.iload 6, 2) := by decide +kernel
theorem dX11_pieced_87 : decode cX11_pieced 87 = .ok (.invokevirtual 332, 3) := by decide +kernel
theorem dX11_pieced_90 : decode cX11_pieced 90 = .ok (.aload_n 0, 1) := by decide +kernel
theorem dX11_pieced_91 : decode cX11_pieced 91 = .ok (.getfield 38, 3) := by decide +kernel
theorem dX11_pieced_94 : decode cX11_pieced 94 = .ok (.getfield 108, 3) := by decide +kernel
theorem dX11_pieced_97 : decode cX11_pieced 97 = .ok (.getfield 134, 3) := by decide +kernel
theorem dX11_pieced_100 : decode cX11_pieced 100 = .ok (.iload_n 1, 1) := by decide +kernel
theorem dX11_pieced_101 : decode cX11_pieced 101 = .ok (.iaload, 1) := by decide +kernel
theorem dX11_pieced_102 : decode cX11_pieced 102 = .ok (.if_icmp .ne 14, 3) := by decide +kernel
theorem dX11_pieced_105 : decode cX11_pieced 105 = .ok (.iload 6, 2) := by decide +kernel
theorem dX11_pieced_107 : decode cX11_pieced 107 = .ok (.invokestatic 204, 3) := by decide +kernel
theorem dX11_pieced_110 : decode cX11_pieced 110 = .ok (.istore 4, 2) := by decide +kernel
theorem dX11_pieced_112 : decode cX11_pieced 112 = .ok (.iload 6, 2) := by decide +kernel
theorem dX11_pieced_114 : decode cX11_pieced 114 = .ok (.istore 5, 2) := by decide +kernel
theorem dX11_pieced_116 : decode cX11_pieced 116 = .ok (.iinc 6 1, 3) := by decide +kernel
theorem dX11_pieced_119 : decode cX11_pieced 119 = .ok (.goto (-81), 3) := by decide +kernel
theorem dX11_pieced_122 : decode cX11_pieced 122 = .ok (.iload 4, 2) := by decide +kernel
theorem dX11_pieced_124 : decode cX11_pieced 124 = .ok (.iconst (-1), 1) := by decide +kernel
theorem dX11_pieced_125 : decode cX11_pieced 125 = .ok (.if_icmp .eq 7, 3) := by decide +kernel
theorem dX11_pieced_128 : decode cX11_pieced 128 = .ok (.iload_n 2, 1) := by decide +kernel
theorem dX11_pieced_129 : decode cX11_pieced 129 = .ok (.ifCond .ne 8, 3) := by decide +kernel
theorem dX11_pieced_132 : decode cX11_pieced 132 = .ok (.iload 4, 2) := by decide +kernel
theorem dX11_pieced_134 : decode cX11_pieced 134 = .ok (.goto 5, 3) := by decide +kernel
theorem dX11_pieced_137 : decode cX11_pieced 137 = .ok (.iload 5, 2) := by decide +kernel
theorem dX11_pieced_139 : decode cX11_pieced 139 = .ok (.ireturn, 1) := by decide +kernel
set_option maxRecDepth 100000 in
set_option maxHeartbeats 4000000 in
theorem v_X11_pieced_b65 {l : Launch} {p : Program} {e : Env} {s : State} {mt : MethodId} {args : Array Value} {below : List Frame} {meth : Method} {c : Code} {A : Nat → Prop} {ad0 : Nat → Nat} {G : Gt} {N : Nat} (C : Cx G p s mt args meth c RX11 cX11_pieced 8 (some .int) "pieced" A) (hN : 109 ≤ N) (k38 : Int32 → Int32 → Int32 → Int32 → Int32 → Int32 → Mem → Option (Int32 × Mem)) (h38 : ∀ (y1 : Int32) (y2 : Int32) (y3 : Int32) (y4 : Int32) (y5 : Int32) (y6 : Int32) (m : Mem), V G SX oI l p e s mt args below meth c 8 2 A ad0 N N RX N RX 38 [(0, .ref 0), (1, .int y1), (2, .int y2), (3, .int y3), (4, .int y4), (5, .int y5), (6, .int y6)] [] m (k38 y1 y2 y3 y4 y5 y6 m)) (y1 : Int32) (y2 : Int32) (y3 : Int32) (y4 : Int32) (y5 : Int32) (y6 : Int32) (z0 : Int32) (m : Mem) : V G SX oI l p e s mt args below meth c 8 2 A ad0 N N RX N RX 65 [(0, .ref 0), (1, .int y1), (2, .int y2), (3, .int y3), (4, .int y4), (5, .int y5), (6, .int y6)] [.int z0] m (X11_pieced_b65 k38 y1 y2 y3 y4 y5 y6 z0 m) := by
  rw [X11_pieced_b65]
  refine V.istore (pc := 65) C dX11_pieced_65 (L2 := [(7, .int z0), (0, .ref 0), (1, .int y1), (2, .int y2), (3, .int y3), (4, .int y4), (5, .int y5), (6, .int y6)]) (by decide) rfl ?_
  refine V.iload (pc := 67) C dX11_pieced_67 0 rfl ?_
  refine V.if_eq (pc := 69) C dX11_pieced_69 116 (by decide) (fun _ => ?_) (fun _ => ?_)
  · refine V.iinc (pc := 116) C dX11_pieced_116 (v := 1) (L2 := [(6, .int (y6 + 1)), (7, .int z0), (0, .ref 0), (1, .int y1), (2, .int y2), (3, .int y3), (4, .int y4), (5, .int y5)]) 7 rfl (by decide) (by decide) rfl ?_
    refine V.goto (pc := 119) C dX11_pieced_119 38 (by decide) ?_
    refine V.wk [2, 3, 4, 5, 6, 7, 0] rfl ?_
    exact h38 y1 y2 y3 y4 y5 (y6 + 1) m
  · refine V.iload (pc := 72) C dX11_pieced_72 7 rfl ?_
    refine V.iconst (pc := 74) C dX11_pieced_74 (v := 1) (by decide) ?_
    refine V.iload_n (pc := 75) C dX11_pieced_75 2 rfl ?_
    refine V.ishl (pc := 76) C dX11_pieced_76 ?_
    refine V.iand (pc := 77) C dX11_pieced_77 ?_
    refine V.if_ne (pc := 78) C dX11_pieced_78 116 (by decide) (fun _ => ?_) (fun _ => ?_)
    · refine V.iinc (pc := 116) C dX11_pieced_116 (v := 1) (L2 := [(6, .int (y6 + 1)), (7, .int z0), (0, .ref 0), (1, .int y1), (2, .int y2), (3, .int y3), (4, .int y4), (5, .int y5)]) 7 rfl (by decide) (by decide) rfl ?_
      refine V.goto (pc := 119) C dX11_pieced_119 38 (by decide) ?_
      refine V.wk [2, 3, 4, 5, 6, 7, 0] rfl ?_
      exact h38 y1 y2 y3 y4 y5 (y6 + 1) m
    · refine V.aload_n (pc := 81) C dX11_pieced_81 1 rfl ?_
      refine V.getr (pc := 82) C fl_RX11_38 sX0 (kX0 hN) rfl rX0_6 dX11_pieced_82 ?_
      refine V.iload (pc := 85) C dX11_pieced_85 7 rfl ?_
      refine V.callV (pc := 87) (st := []) C (c_X10_anyOf l hN 25 (iX25 hN) y6 m) obI ck_X10_anyOf ml_RX11_332 rfl rfl sX25 (kX25 hN) rfl rfl (Nat.le_of_ble_eq_true rfl) ⟨by decide, by decide⟩ dX11_pieced_87 (fun r_7 m_8 _ => ?_)
      refine V.aload_n (pc := 90) C dX11_pieced_90 1 rfl ?_
      refine V.getr (pc := 91) C fl_RX11_38 sX0 (kX0 hN) rfl rX0_6 dX11_pieced_91 ?_
      refine V.getr (pc := 94) C fl_RX11_108 sX25 (kX25 hN) rfl rX25_2 dX11_pieced_94 ?_
      refine V.getr (pc := 97) C fl_RX11_134 sX26 (kX26 hN) rfl rX26_3 dX11_pieced_97 ?_
      refine V.iload_n (pc := 100) C dX11_pieced_100 2 rfl ?_
      refine V.iald (pc := 101) C sX29 (kX29 hN) dX11_pieced_101 (fun _ => ?_)
      refine V.icmp_ne (pc := 102) C dX11_pieced_102 116 (by decide) (fun _ => ?_) (fun _ => ?_)
      · refine V.iinc (pc := 116) C dX11_pieced_116 (v := 1) (L2 := [(6, .int (y6 + 1)), (7, .int z0), (0, .ref 0), (1, .int y1), (2, .int y2), (3, .int y3), (4, .int y4), (5, .int y5)]) 7 rfl (by decide) (by decide) rfl ?_
        refine V.goto (pc := 119) C dX11_pieced_119 38 (by decide) ?_
        refine V.wk [2, 3, 4, 5, 6, 7, 0] rfl ?_
        exact h38 y1 y2 y3 y4 y5 (y6 + 1) m_8
      · refine V.iload (pc := 105) C dX11_pieced_105 7 rfl ?_
        refine V.callS (pc := 107) (st := []) C (c_J6_bitCount_0f7a4 l y6 m_8) obI ck_J6_bitCount_0f7a4 ml_RX11_204 rfl rfl (Nat.le_of_ble_eq_true rfl) ⟨by decide, by decide⟩ dX11_pieced_107 (fun r_9 m_10 _ => ?_)
        refine V.istore (pc := 110) C dX11_pieced_110 (L2 := [(4, .int r_9), (7, .int z0), (0, .ref 0), (1, .int y1), (2, .int y2), (3, .int y3), (5, .int y5), (6, .int y6)]) (by decide) rfl ?_
        refine V.iload (pc := 112) C dX11_pieced_112 7 rfl ?_
        refine V.istore (pc := 114) C dX11_pieced_114 (L2 := [(5, .int y6), (4, .int r_9), (7, .int z0), (0, .ref 0), (1, .int y1), (2, .int y2), (3, .int y3), (6, .int y6)]) (by decide) rfl ?_
        refine V.iinc (pc := 116) C dX11_pieced_116 (v := 1) (L2 := [(6, .int (y6 + 1)), (5, .int y6), (4, .int r_9), (7, .int z0), (0, .ref 0), (1, .int y1), (2, .int y2), (3, .int y3)]) 7 rfl (by decide) (by decide) rfl ?_
        refine V.goto (pc := 119) C dX11_pieced_119 38 (by decide) ?_
        refine V.wk [4, 5, 6, 7, 2, 1, 0] rfl ?_
        exact h38 y1 y2 y3 r_9 y6 (y6 + 1) m_10
set_option maxRecDepth 100000 in
set_option maxHeartbeats 4000000 in
theorem v_X11_pieced_b38 {l : Launch} {p : Program} {e : Env} {s : State} {mt : MethodId} {args : Array Value} {below : List Frame} {meth : Method} {c : Code} {A : Nat → Prop} {ad0 : Nat → Nat} {G : Gt} {N : Nat} (C : Cx G p s mt args meth c RX11 cX11_pieced 8 (some .int) "pieced" A) (hN : 109 ≤ N) : ∀ (n : Nat) (y1 : Int32) (y2 : Int32) (y3 : Int32) (y4 : Int32) (y5 : Int32) (y6 : Int32) (m : Mem), V G SX oI l p e s mt args below meth c 8 2 A ad0 N N RX N RX 38 [(0, .ref 0), (1, .int y1), (2, .int y2), (3, .int y3), (4, .int y4), (5, .int y5), (6, .int y6)] [] m (X11_pieced_b38  n y1 y2 y3 y4 y5 y6 m) := by
  intro n
  induction n with
  | zero =>
    intro y1 y2 y3 y4 y5 y6 m
    rw [X11_pieced_b38]
    exact V.nil
  | succ n ih =>
    intro y1 y2 y3 y4 y5 y6 m
    rw [X11_pieced_b38]
    refine V.iload (pc := 38) C dX11_pieced_38 6 rfl ?_
    refine V.iload_n (pc := 40) C dX11_pieced_40 3 rfl ?_
    refine V.icmp_gt (pc := 41) C dX11_pieced_41 122 (by decide) (fun _ => ?_) (fun _ => ?_)
    · refine V.iload (pc := 122) C dX11_pieced_122 4 rfl ?_
      refine V.iconst (pc := 124) C dX11_pieced_124 (v := (-1)) (by decide) ?_
      refine V.icmp_eq (pc := 125) C dX11_pieced_125 132 (by decide) (fun _ => ?_) (fun _ => ?_)
      · refine V.iload (pc := 132) C dX11_pieced_132 4 rfl ?_
        refine V.goto (pc := 134) C dX11_pieced_134 139 (by decide) ?_
        exact V.iret C dX11_pieced_139
      · refine V.iload_n (pc := 128) C dX11_pieced_128 2 rfl ?_
        refine V.if_ne (pc := 129) C dX11_pieced_129 137 (by decide) (fun _ => ?_) (fun _ => ?_)
        · refine V.iload (pc := 137) C dX11_pieced_137 5 rfl ?_
          exact V.iret C dX11_pieced_139
        · refine V.iload (pc := 132) C dX11_pieced_132 4 rfl ?_
          refine V.goto (pc := 134) C dX11_pieced_134 139 (by decide) ?_
          exact V.iret C dX11_pieced_139
    · refine V.iload (pc := 44) C dX11_pieced_44 4 rfl ?_
      refine V.iconst (pc := 46) C dX11_pieced_46 (v := (-1)) (by decide) ?_
      refine V.icmp_eq (pc := 47) C dX11_pieced_47 60 (by decide) (fun _ => ?_) (fun _ => ?_)
      · refine V.iconst (pc := 60) C dX11_pieced_60 (v := 1) (by decide) ?_
        refine V.goto (pc := 61) C dX11_pieced_61 65 (by decide) ?_
        refine V.wk [0, 1, 2, 3, 4, 5, 6] rfl ?_
        exact v_X11_pieced_b65 C hN (X11_pieced_b38 n) ih y1 y2 y3 y4 y5 y6 1 m
      · refine V.iload (pc := 50) C dX11_pieced_50 6 rfl ?_
        refine V.callS (pc := 52) (st := []) C (c_J6_bitCount_0f7a4 l y6 m) obI ck_J6_bitCount_0f7a4 ml_RX11_204 rfl rfl (Nat.le_of_ble_eq_true rfl) ⟨by decide, by decide⟩ dX11_pieced_52 (fun r_11 m_12 _ => ?_)
        refine V.iload (pc := 55) C dX11_pieced_55 4 rfl ?_
        refine V.icmp_ge (pc := 57) C dX11_pieced_57 64 (by decide) (fun _ => ?_) (fun _ => ?_)
        · refine V.iconst (pc := 64) C dX11_pieced_64 (v := 0) (by decide) ?_
          refine V.wk [0, 1, 2, 3, 4, 5, 6] rfl ?_
          exact v_X11_pieced_b65 C hN (X11_pieced_b38 n) ih y1 y2 y3 y4 y5 y6 0 m_12
        · refine V.iconst (pc := 60) C dX11_pieced_60 (v := 1) (by decide) ?_
          refine V.goto (pc := 61) C dX11_pieced_61 65 (by decide) ?_
          refine V.wk [0, 1, 2, 3, 4, 5, 6] rfl ?_
          exact v_X11_pieced_b65 C hN (X11_pieced_b38 n) ih y1 y2 y3 y4 y5 y6 1 m_12
set_option maxRecDepth 100000 in
set_option maxHeartbeats 4000000 in
theorem v_X11_pieced {l : Launch} {p : Program} {e : Env} {s : State} {mt : MethodId} {args : Array Value} {below : List Frame} {meth : Method} {c : Code} {A : Nat → Prop} {ad0 : Nat → Nat} {G : Gt} {N : Nat} (C : Cx G p s mt args meth c RX11 cX11_pieced 8 (some .int) "pieced" A) (hN : 109 ≤ N) (x1 : Int32) (x2 : Int32) (m : Mem) : V G SX oI l p e s mt args below meth c 8 2 A ad0 N N RX N RX 0 [(0, .ref 0), (1, .int x1), (2, .int x2)] [] m (X11_pieced  x1 x2 m) := by
  rw [X11_pieced]
  refine V.aload_n (pc := 0) C dX11_pieced_0 0 rfl ?_
  refine V.getr (pc := 1) C fl_RX11_38 sX0 (kX0 hN) rfl rX0_6 dX11_pieced_1 ?_
  refine V.iload_n (pc := 4) C dX11_pieced_4 1 rfl ?_
  refine V.callV (pc := 5) (st := []) C (c_X10_isPerson l hN 25 (iX25 hN) x1 m) obI ck_X10_isPerson ml_RX11_123 rfl rfl sX25 (kX25 hN) rfl rfl (Nat.le_of_ble_eq_true rfl) ⟨by decide, by decide⟩ dX11_pieced_5 (fun r_1 m_2 _ => ?_)
  refine V.if_eq (pc := 8) C dX11_pieced_8 18 (by decide) (fun _ => ?_) (fun _ => ?_)
  · refine V.bipush (pc := 18) C dX11_pieced_18 (v := (-2)) (by decide) ?_
    exact V.iret C dX11_pieced_20
  · refine V.iload_n (pc := 11) C dX11_pieced_11 2 rfl ?_
    refine V.callS (pc := 12) (st := []) C (c_X11_isEither l hN x2 m_2) obI ck_X11_isEither ml_RX11_315 rfl rfl (Nat.le_of_ble_eq_true rfl) ⟨by decide, by decide⟩ dX11_pieced_12 (fun r_3 m_4 _ => ?_)
    refine V.if_ne (pc := 15) C dX11_pieced_15 21 (by decide) (fun _ => ?_) (fun _ => ?_)
    · refine V.aload_n (pc := 21) C dX11_pieced_21 0 rfl ?_
      refine V.getr (pc := 22) C fl_RX11_16 sX0 (kX0 hN) rfl rX0_3 dX11_pieced_22 ?_
      refine V.callV (pc := 25) (st := []) C (c_X8_everybody l hN 2 (iX2 hN) m_4) obI ck_X8_everybody ml_RX11_265 rfl rfl sX2 (kX2 hN) rfl rfl (Nat.le_of_ble_eq_true rfl) ⟨by decide, by decide⟩ dX11_pieced_25 (fun r_5 m_6 _ => ?_)
      refine V.istore_n (pc := 28) C dX11_pieced_28 (L2 := [(3, .int r_5), (0, .ref 0), (1, .int x1), (2, .int x2)]) (by decide) rfl ?_
      refine V.iconst (pc := 29) C dX11_pieced_29 (v := (-1)) (by decide) ?_
      refine V.istore (pc := 30) C dX11_pieced_30 (L2 := [(4, .int (-1)), (3, .int r_5), (0, .ref 0), (1, .int x1), (2, .int x2)]) (by decide) rfl ?_
      refine V.iconst (pc := 32) C dX11_pieced_32 (v := 0) (by decide) ?_
      refine V.istore (pc := 33) C dX11_pieced_33 (L2 := [(5, .int 0), (4, .int (-1)), (3, .int r_5), (0, .ref 0), (1, .int x1), (2, .int x2)]) (by decide) rfl ?_
      refine V.iconst (pc := 35) C dX11_pieced_35 (v := 0) (by decide) ?_
      refine V.istore (pc := 36) C dX11_pieced_36 (L2 := [(6, .int 0), (5, .int 0), (4, .int (-1)), (3, .int r_5), (0, .ref 0), (1, .int x1), (2, .int x2)]) (by decide) rfl ?_
      refine V.wk [4, 5, 6, 3, 2, 1, 0] rfl ?_
      exact v_X11_pieced_b38 C hN FU x1 x2 r_5 (-1) 0 0 m_6
    · refine V.bipush (pc := 18) C dX11_pieced_18 (v := (-2)) (by decide) ?_
      exact V.iret C dX11_pieced_20
theorem c_X11_pieced (l : Launch) {N : Nat} (hN : 109 ≤ N) (x1 : Int32) (x2 : Int32) (m : Mem) : Ct l yX11_pieced cX11_pieced 8 (some .int) 2 SX oI N N RX RX [.ref 0, .int x1, .int x2] m (X11_pieced  x1 x2 m) :=
  Ct.of (own := RX11) (nm := "pieced") (by decide) rfl rfl (Nat.le_of_ble_eq_true rfl) (fun _ _ _ _ _ _ _ _ _ _ _ C => v_X11_pieced C hN x1 x2 m)
theorem dX11_season_0 : decode cX11_season 0 = .ok (.iload_n 2, 1) := by decide +kernel
theorem dX11_season_1 : decode cX11_season 1 = .ok (.iconst 1, 1) := by decide +kernel
theorem dX11_season_2 : decode cX11_season 2 = .ok (.if_icmp .lt 9, 3) := by decide +kernel
theorem dX11_season_5 : decode cX11_season 5 = .ok (.iload_n 2, 1) := by decide +kernel
theorem dX11_season_6 : decode cX11_season 6 = .ok (.bipush 40, 2) := by decide +kernel
theorem dX11_season_8 : decode cX11_season 8 = .ok (.if_icmp .le 6, 3) := by decide +kernel
theorem dX11_season_11 : decode cX11_season 11 = .ok (.bipush (-3), 2) := by decide +kernel
theorem dX11_season_13 : decode cX11_season 13 = .ok (.ireturn, 1) := by decide +kernel
theorem dX11_season_14 : decode cX11_season 14 = .ok (.aload_n 0, 1) := by decide +kernel
theorem dX11_season_15 : decode cX11_season 15 = .ok (.getfield 16, 3) := by decide +kernel
theorem dX11_season_18 : decode cX11_season 18 = .ok (.getfield 246, 3) := by decide +kernel
theorem dX11_season_21 : decode cX11_season 21 = .ok (.ifCond .eq 13, 3) := by decide +kernel
theorem dX11_season_24 : decode cX11_season 24 = .ok (.aload_n 0, 1) := by decide +kernel
theorem dX11_season_25 : decode cX11_season 25 = .ok (.getfield 16, 3) := by decide +kernel
theorem dX11_season_28 : decode cX11_season 28 = .ok (.getfield 249, 3) := by decide +kernel
theorem dX11_season_31 : decode cX11_season 31 = .ok (.ifCond .ne 6, 3) := by decide +kernel
theorem dX11_season_34 : decode cX11_season 34 = .ok (.bipush (-5), 2) := by decide +kernel
theorem dX11_season_36 : decode cX11_season 36 = .ok (.ireturn, 1) := by decide +kernel
theorem dX11_season_37 : decode cX11_season 37 = .ok (.aload_n 0, 1) := by decide +kernel
theorem dX11_season_38 : decode cX11_season 38 = .ok (.getfield 42, 3) := by decide +kernel
theorem dX11_season_41 : decode cX11_season 41 = .ok (.getfield 108, 3) := by decide +kernel
theorem dX11_season_44 : decode cX11_season 44 = .ok (.aload_n 0, 1) := by decide +kernel
theorem dX11_season_45 : decode cX11_season 45 = .ok (.getfield 38, 3) := by decide +kernel
theorem dX11_season_48 : decode cX11_season 48 = .ok (.getfield 108, 3) := by decide +kernel
theorem dX11_season_51 : decode cX11_season 51 = .ok (.invokevirtual 111, 3) := by decide +kernel
theorem dX11_season_54 : decode cX11_season 54 = .ok (.aload_n 0, 1) := by decide +kernel
theorem dX11_season_55 : decode cX11_season 55 = .ok (.iload_n 1, 1) := by decide +kernel
theorem dX11_season_56 : decode cX11_season 56 = .ok (.putfield 252, 3) := by decide +kernel
theorem dX11_season_59 : decode cX11_season 59 = .ok (.iconst 0, 1) := by decide +kernel
theorem dX11_season_60 : decode cX11_season 60 = .ok (.istore_n 3, 1) := by decide +kernel
theorem dX11_season_61 : decode cX11_season 61 = .ok (.iconst 0, 1) := by decide +kernel
theorem dX11_season_62 : decode cX11_season 62 = .ok (.istore 4, 2) := by decide +kernel
theorem dX11_season_64 : decode cX11_season 64 = .ok (.iload 4, 2) := by decide +kernel
theorem dX11_season_66 : decode cX11_season 66 = .ok (.iload_n 2, 1) := by decide +kernel
theorem dX11_season_67 : decode cX11_season 67 = .ok (.if_icmp .ge 27, 3) := by decide +kernel
theorem dX11_season_70 : decode cX11_season 70 = .ok (.aload_n 0, 1) := by decide +kernel
theorem dX11_season_71 : decode cX11_season 71 = .ok (.getfield 42, 3) := by decide +kernel
theorem dX11_season_74 : decode cX11_season 74 = .ok (.aload_n 0, 1) := by decide +kernel
theorem dX11_season_75 : decode cX11_season 75 = .ok (.invokevirtual 255, 3) := by decide +kernel
theorem dX11_season_78 : decode cX11_season 78 = .ok (.i2l, 1) := by decide +kernel
theorem dX11_season_79 : decode cX11_season 79 = .ok (.invokevirtual 258, 3) := by decide +kernel
theorem dX11_season_82 : decode cX11_season 82 = .ok (.ifCond .ne 6, 3) := by decide +kernel
theorem dX11_season_85 : decode cX11_season 85 = .ok (.iinc 3 1, 3) := by decide +kernel
theorem dX11_season_88 : decode cX11_season 88 = .ok (.iinc 4 1, 3) := by decide +kernel
theorem dX11_season_91 : decode cX11_season 91 = .ok (.goto (-27), 3) := by decide +kernel
theorem dX11_season_94 : decode cX11_season 94 = .ok (.aload_n 0, 1) := by decide +kernel
theorem dX11_season_95 : decode cX11_season 95 = .ok (.iload_n 3, 1) := by decide +kernel
theorem dX11_season_96 : decode cX11_season 96 = .ok (.invokevirtual 243, 3) := by decide +kernel
theorem dX11_season_99 : decode cX11_season 99 = .ok (.iload_n 3, 1) := by decide +kernel
theorem dX11_season_100 : decode cX11_season 100 = .ok (.ireturn, 1) := by decide +kernel
set_option maxRecDepth 100000 in
set_option maxHeartbeats 4000000 in
theorem v_X11_season_b64 {l : Launch} {p : Program} {e : Env} {s : State} {mt : MethodId} {args : Array Value} {below : List Frame} {meth : Method} {c : Code} {A : Nat → Prop} {ad0 : Nat → Nat} {G : Gt} {N : Nat} (C : Cx G p s mt args meth c RX11 cX11_season 5 (some .int) "season" A) (hN : 109 ≤ N) : ∀ (n : Nat) (y2 : Int32) (y3 : Int32) (y4 : Int32) (m : Mem), V G SX oI l p e s mt args below meth c 5 7 A ad0 N N RX N RX 64 [(0, .ref 0), (2, .int y2), (3, .int y3), (4, .int y4)] [] m (X11_season_b64  n y2 y3 y4 m) := by
  intro n
  induction n with
  | zero =>
    intro y2 y3 y4 m
    rw [X11_season_b64]
    exact V.nil
  | succ n ih =>
    intro y2 y3 y4 m
    rw [X11_season_b64]
    refine V.iload (pc := 64) C dX11_season_64 3 rfl ?_
    refine V.iload_n (pc := 66) C dX11_season_66 1 rfl ?_
    refine V.icmp_ge (pc := 67) C dX11_season_67 94 (by decide) (fun _ => ?_) (fun _ => ?_)
    · refine V.aload_n (pc := 94) C dX11_season_94 0 rfl ?_
      refine V.iload_n (pc := 95) C dX11_season_95 2 rfl ?_
      refine V.callV (pc := 96) (st := []) C (c_X11_acceptTrial l hN y3 m) obV ck_X11_acceptTrial ml_RX11_243 rfl rfl sX0 (kX0 hN) rfl rfl (Nat.le_of_ble_eq_true rfl) ⟨by decide, by decide⟩ dX11_season_96 (fun r_4 m_5 _ => ?_)
      refine V.iload_n (pc := 99) C dX11_season_99 2 rfl ?_
      exact V.iret C dX11_season_100
    · refine V.aload_n (pc := 70) C dX11_season_70 0 rfl ?_
      refine V.getr (pc := 71) C fl_RX11_42 sX0 (kX0 hN) rfl rX0_7 dX11_season_71 ?_
      refine V.aload_n (pc := 74) C dX11_season_74 0 rfl ?_
      refine V.callV (pc := 75) (st := [.ref 32]) C (c_X11_drawDeed l hN m) obI ck_X11_drawDeed ml_RX11_255 rfl rfl sX0 (kX0 hN) rfl rfl (Nat.le_of_ble_eq_true rfl) ⟨by decide, by decide⟩ dX11_season_75 (fun r_6 m_7 _ => ?_)
      refine V.i2l (pc := 78) C dX11_season_78 ?_
      refine V.callV (pc := 79) (st := []) C (c_X10_attempt l hN 32 (iX32 hN) (Int32.toInt64 r_6) m_7) obI ck_X10_attempt ml_RX11_258 rfl rfl sX32 (kX32 hN) rfl rfl (Nat.le_of_ble_eq_true rfl) ⟨by decide, by decide⟩ dX11_season_79 (fun r_8 m_9 _ => ?_)
      refine V.if_ne (pc := 82) C dX11_season_82 88 (by decide) (fun _ => ?_) (fun _ => ?_)
      · refine V.iinc (pc := 88) C dX11_season_88 (v := 1) (L2 := [(4, .int (y4 + 1)), (0, .ref 0), (2, .int y2), (3, .int y3)]) 3 rfl (by decide) (by decide) rfl ?_
        refine V.goto (pc := 91) C dX11_season_91 64 (by decide) ?_
        refine V.wk [1, 2, 3, 0] rfl ?_
        exact ih y2 y3 (y4 + 1) m_9
      · refine V.iinc (pc := 85) C dX11_season_85 (v := 1) (L2 := [(3, .int (y3 + 1)), (0, .ref 0), (2, .int y2), (4, .int y4)]) 2 rfl (by decide) (by decide) rfl ?_
        refine V.iinc (pc := 88) C dX11_season_88 (v := 1) (L2 := [(4, .int (y4 + 1)), (3, .int (y3 + 1)), (0, .ref 0), (2, .int y2)]) 3 rfl (by decide) (by decide) rfl ?_
        refine V.goto (pc := 91) C dX11_season_91 64 (by decide) ?_
        refine V.wk [2, 3, 1, 0] rfl ?_
        exact ih y2 (y3 + 1) (y4 + 1) m_9
set_option maxRecDepth 100000 in
set_option maxHeartbeats 4000000 in
theorem v_X11_season {l : Launch} {p : Program} {e : Env} {s : State} {mt : MethodId} {args : Array Value} {below : List Frame} {meth : Method} {c : Code} {A : Nat → Prop} {ad0 : Nat → Nat} {G : Gt} {N : Nat} (C : Cx G p s mt args meth c RX11 cX11_season 5 (some .int) "season" A) (hN : 109 ≤ N) (x1 : Int32) (x2 : Int32) (m : Mem) : V G SX oI l p e s mt args below meth c 5 7 A ad0 N N RX N RX 0 [(0, .ref 0), (1, .int x1), (2, .int x2)] [] m (X11_season  x1 x2 m) := by
  rw [X11_season]
  refine V.iload_n (pc := 0) C dX11_season_0 2 rfl ?_
  refine V.iconst (pc := 1) C dX11_season_1 (v := 1) (by decide) ?_
  refine V.icmp_lt (pc := 2) C dX11_season_2 11 (by decide) (fun _ => ?_) (fun _ => ?_)
  · refine V.bipush (pc := 11) C dX11_season_11 (v := (-3)) (by decide) ?_
    exact V.iret C dX11_season_13
  · refine V.iload_n (pc := 5) C dX11_season_5 2 rfl ?_
    refine V.bipush (pc := 6) C dX11_season_6 (v := 40) (by decide) ?_
    refine V.icmp_le (pc := 8) C dX11_season_8 14 (by decide) (fun _ => ?_) (fun _ => ?_)
    · refine V.aload_n (pc := 14) C dX11_season_14 0 rfl ?_
      refine V.getr (pc := 15) C fl_RX11_16 sX0 (kX0 hN) rfl rX0_3 dX11_season_15 ?_
      refine V.geti (pc := 18) C fl_RX11_246 sX2 (kX2 hN) rfl dX11_season_18 ?_
      refine V.if_eq (pc := 21) C dX11_season_21 34 (by decide) (fun _ => ?_) (fun _ => ?_)
      · refine V.bipush (pc := 34) C dX11_season_34 (v := (-5)) (by decide) ?_
        exact V.iret C dX11_season_36
      · refine V.aload_n (pc := 24) C dX11_season_24 0 rfl ?_
        refine V.getr (pc := 25) C fl_RX11_16 sX0 (kX0 hN) rfl rX0_3 dX11_season_25 ?_
        refine V.geti (pc := 28) C fl_RX11_249 sX2 (kX2 hN) rfl dX11_season_28 ?_
        refine V.if_ne (pc := 31) C dX11_season_31 37 (by decide) (fun _ => ?_) (fun _ => ?_)
        · refine V.aload_n (pc := 37) C dX11_season_37 0 rfl ?_
          refine V.getr (pc := 38) C fl_RX11_42 sX0 (kX0 hN) rfl rX0_7 dX11_season_38 ?_
          refine V.getr (pc := 41) C fl_RX11_108 sX32 (kX32 hN) rfl rX32_2 dX11_season_41 ?_
          refine V.aload_n (pc := 44) C dX11_season_44 0 rfl ?_
          refine V.getr (pc := 45) C fl_RX11_38 sX0 (kX0 hN) rfl rX0_6 dX11_season_45 ?_
          refine V.getr (pc := 48) C fl_RX11_108 sX25 (kX25 hN) rfl rX25_2 dX11_season_48 ?_
          refine V.callV (pc := 51) (st := []) C (c_X5_become l hN 33 (iX33 hN) 26 (iX26 hN) m) obV ck_X5_become ml_RX11_111 rfl rfl sX33 (kX33 hN) rfl rfl (Nat.le_of_ble_eq_true rfl) ⟨by decide, by decide⟩ dX11_season_51 (fun r_1 m_2 _ => ?_)
          refine V.aload_n (pc := 54) C dX11_season_54 0 rfl ?_
          refine V.iload_n (pc := 55) C dX11_season_55 1 rfl ?_
          refine V.puti (pc := 56) C fp_RX11_252 sX0 (kX0 hN) rfl dX11_season_56 ?_
          refine V.ltm (fun m_3 => ?_)
          refine V.iconst (pc := 59) C dX11_season_59 (v := 0) (by decide) ?_
          refine V.istore_n (pc := 60) C dX11_season_60 (L2 := [(3, .int 0), (0, .ref 0), (1, .int x1), (2, .int x2)]) (by decide) rfl ?_
          refine V.iconst (pc := 61) C dX11_season_61 (v := 0) (by decide) ?_
          refine V.istore (pc := 62) C dX11_season_62 (L2 := [(4, .int 0), (3, .int 0), (0, .ref 0), (1, .int x1), (2, .int x2)]) (by decide) rfl ?_
          refine V.wk [2, 4, 1, 0] rfl ?_
          exact v_X11_season_b64 C hN FU x2 0 0 m_3
        · refine V.bipush (pc := 34) C dX11_season_34 (v := (-5)) (by decide) ?_
          exact V.iret C dX11_season_36
    · refine V.bipush (pc := 11) C dX11_season_11 (v := (-3)) (by decide) ?_
      exact V.iret C dX11_season_13
theorem c_X11_season (l : Launch) {N : Nat} (hN : 109 ≤ N) (x1 : Int32) (x2 : Int32) (m : Mem) : Ct l yX11_season cX11_season 5 (some .int) 7 SX oI N N RX RX [.ref 0, .int x1, .int x2] m (X11_season  x1 x2 m) :=
  Ct.of (own := RX11) (nm := "season") (by decide) rfl rfl (Nat.le_of_ble_eq_true rfl) (fun _ _ _ _ _ _ _ _ _ _ _ C => v_X11_season C hN x1 x2 m)
theorem dX11_sharer_0 : decode cX11_sharer 0 = .ok (.aload_n 0, 1) := by decide +kernel
theorem dX11_sharer_1 : decode cX11_sharer 1 = .ok (.getfield 38, 3) := by decide +kernel
theorem dX11_sharer_4 : decode cX11_sharer 4 = .ok (.iload_n 1, 1) := by decide +kernel
theorem dX11_sharer_5 : decode cX11_sharer 5 = .ok (.invokevirtual 123, 3) := by decide +kernel
theorem dX11_sharer_8 : decode cX11_sharer 8 = .ok (.ifCond .ne 6, 3) := by decide +kernel
theorem dX11_sharer_11 : decode cX11_sharer 11 = .ok (.bipush (-2), 2) := by decide +kernel
theorem dX11_sharer_13 : decode cX11_sharer 13 = .ok (.ireturn, 1) := by decide +kernel
theorem dX11_sharer_14 : decode cX11_sharer 14 = .ok (.iconst (-1), 1) := by decide +kernel
theorem dX11_sharer_15 : decode cX11_sharer 15 = .ok (.istore_n 2, 1) := by decide +kernel
theorem dX11_sharer_16 : decode cX11_sharer 16 = .ok (.iconst 0, 1) := by decide +kernel
theorem dX11_sharer_17 : decode cX11_sharer 17 = .ok (.istore_n 3, 1) := by decide +kernel
theorem dX11_sharer_18 : decode cX11_sharer 18 = .ok (.iconst 0, 1) := by decide +kernel
theorem dX11_sharer_19 : decode cX11_sharer 19 = .ok (.istore 4, 2) := by decide +kernel
theorem dX11_sharer_21 : decode cX11_sharer 21 = .ok (.iload 4, 2) := by decide +kernel
theorem dX11_sharer_23 : decode cX11_sharer 23 = .ok (.aload_n 0, 1) := by decide +kernel
theorem dX11_sharer_24 : decode cX11_sharer 24 = .ok (.getfield 16, 3) := by decide +kernel
theorem dX11_sharer_27 : decode cX11_sharer 27 = .ok (.getfield 249, 3) := by decide +kernel
theorem dX11_sharer_30 : decode cX11_sharer 30 = .ok (.if_icmp .ge 76, 3) := by decide +kernel
theorem dX11_sharer_33 : decode cX11_sharer 33 = .ok (.iload 4, 2) := by decide +kernel
theorem dX11_sharer_35 : decode cX11_sharer 35 = .ok (.iload_n 1, 1) := by decide +kernel
theorem dX11_sharer_36 : decode cX11_sharer 36 = .ok (.if_icmp .eq 64, 3) := by decide +kernel
theorem dX11_sharer_39 : decode cX11_sharer 39 = .ok (.aload_n 0, 1) := by decide +kernel
theorem dX11_sharer_40 : decode cX11_sharer 40 = .ok (.getfield 38, 3) := by decide +kernel
theorem dX11_sharer_43 : decode cX11_sharer 43 = .ok (.iload_n 1, 1) := by decide +kernel
theorem dX11_sharer_44 : decode cX11_sharer 44 = .ok (.iload 4, 2) := by decide +kernel
theorem dX11_sharer_46 : decode cX11_sharer 46 = .ok (.aload_n 0, 1) := by decide +kernel
theorem dX11_sharer_47 : decode cX11_sharer 47 = .ok (.getfield 38, 3) := by decide +kernel
theorem dX11_sharer_50 : decode cX11_sharer 50 = .ok (.getfield 108, 3) := by decide +kernel
theorem dX11_sharer_53 : decode cX11_sharer 53 = .ok (.getfield 134, 3) := by decide +kernel
theorem dX11_sharer_56 : decode cX11_sharer 56 = .ok (.iload_n 1, 1) := by decide +kernel
theorem dX11_sharer_57 : decode cX11_sharer 57 = .ok (.iaload, 1) := by decide +kernel
theorem dX11_sharer_58 : decode cX11_sharer 58 = .ok (.aload_n 0, 1) := by decide +kernel
theorem dX11_sharer_59 : decode cX11_sharer 59 = .ok (.getfield 38, 3) := by decide +kernel
theorem dX11_sharer_62 : decode cX11_sharer 62 = .ok (.getfield 108, 3) := by decide +kernel
theorem dX11_sharer_65 : decode cX11_sharer 65 = .ok (.getfield 134, 3) := by decide +kernel
theorem dX11_sharer_68 : decode cX11_sharer 68 = .ok (.iload 4, 2) := by decide +kernel
theorem dX11_sharer_70 : decode cX11_sharer 70 = .ok (.iaload, 1) := by decide +kernel
theorem dX11_sharer_71 : decode cX11_sharer 71 = .ok (.invokevirtual 166, 3) := by decide +kernel
theorem dX11_sharer_74 : decode cX11_sharer 74 = .ok (.aload_n 0, 1) := by decide +kernel
theorem dX11_sharer_75 : decode cX11_sharer 75 = .ok (.getfield 38, 3) := by decide +kernel
theorem dX11_sharer_78 : decode cX11_sharer 78 = .ok (.getfield 170, 3) := by decide +kernel
theorem dX11_sharer_81 : decode cX11_sharer 81 = .ok (.getfield 174, 3) := by decide +kernel
theorem dX11_sharer_84 : decode cX11_sharer 84 = .ok (.iconst 1, 1) := by decide +kernel
theorem dX11_sharer_85 : decode cX11_sharer 85 = .ok (.iaload, 1) := by decide +kernel
theorem dX11_sharer_86 : decode cX11_sharer 86 = .ok (.istore 5, 2) := by decide +kernel
theorem dX11_sharer_88 : decode cX11_sharer 88 = .ok (.iload 5, 2) := by decide +kernel
theorem dX11_sharer_90 : decode cX11_sharer 90 = .ok (.iload_n 3, 1) := by decide +kernel
theorem dX11_sharer_91 : decode cX11_sharer 91 = .ok (.if_icmp .le 9, 3) := by decide +kernel
theorem dX11_sharer_94 : decode cX11_sharer 94 = .ok (.iload 4, 2) := by decide +kernel
theorem dX11_sharer_96 : decode cX11_sharer 96 = .ok (.istore_n 2, 1) := by decide +kernel
theorem dX11_sharer_97 : decode cX11_sharer 97 = .ok (.iload 5, 2) := by decide +kernel
theorem dX11_sharer_99 : decode cX11_sharer 99 = .ok (.istore_n 3, 1) := by decide +kernel
theorem dX11_sharer_100 : decode cX11_sharer 100 = .ok (.iinc 4 1, 3) := by decide +kernel
theorem dX11_sharer_103 : decode cX11_sharer 103 = .ok (.goto (-82), 3) := by decide +kernel
theorem dX11_sharer_106 : decode cX11_sharer 106 = .ok (.iload_n 2, 1) := by decide +kernel
theorem dX11_sharer_107 : decode cX11_sharer 107 = .ok (.ireturn, 1) := by decide +kernel
set_option maxRecDepth 100000 in
set_option maxHeartbeats 4000000 in
theorem v_X11_sharer_b21 {l : Launch} {p : Program} {e : Env} {s : State} {mt : MethodId} {args : Array Value} {below : List Frame} {meth : Method} {c : Code} {A : Nat → Prop} {ad0 : Nat → Nat} {G : Gt} {N : Nat} (C : Cx G p s mt args meth c RX11 cX11_sharer 6 (some .int) "sharer" A) (hN : 109 ≤ N) : ∀ (n : Nat) (y1 : Int32) (y2 : Int32) (y3 : Int32) (y4 : Int32) (m : Mem), V G SX oI l p e s mt args below meth c 6 3 A ad0 N N RX N RX 21 [(0, .ref 0), (1, .int y1), (2, .int y2), (3, .int y3), (4, .int y4)] [] m (X11_sharer_b21  n y1 y2 y3 y4 m) := by
  intro n
  induction n with
  | zero =>
    intro y1 y2 y3 y4 m
    rw [X11_sharer_b21]
    exact V.nil
  | succ n ih =>
    intro y1 y2 y3 y4 m
    rw [X11_sharer_b21]
    refine V.iload (pc := 21) C dX11_sharer_21 4 rfl ?_
    refine V.aload_n (pc := 23) C dX11_sharer_23 0 rfl ?_
    refine V.getr (pc := 24) C fl_RX11_16 sX0 (kX0 hN) rfl rX0_3 dX11_sharer_24 ?_
    refine V.geti (pc := 27) C fl_RX11_249 sX2 (kX2 hN) rfl dX11_sharer_27 ?_
    refine V.icmp_ge (pc := 30) C dX11_sharer_30 106 (by decide) (fun _ => ?_) (fun _ => ?_)
    · refine V.iload_n (pc := 106) C dX11_sharer_106 2 rfl ?_
      exact V.iret C dX11_sharer_107
    · refine V.iload (pc := 33) C dX11_sharer_33 4 rfl ?_
      refine V.iload_n (pc := 35) C dX11_sharer_35 1 rfl ?_
      refine V.icmp_eq (pc := 36) C dX11_sharer_36 100 (by decide) (fun _ => ?_) (fun _ => ?_)
      · refine V.iinc (pc := 100) C dX11_sharer_100 (v := 1) (L2 := [(4, .int (y4 + 1)), (0, .ref 0), (1, .int y1), (2, .int y2), (3, .int y3)]) 4 rfl (by decide) (by decide) rfl ?_
        refine V.goto (pc := 103) C dX11_sharer_103 21 (by decide) ?_
        refine V.wk [1, 2, 3, 4, 0] rfl ?_
        exact ih y1 y2 y3 (y4 + 1) m
      · refine V.aload_n (pc := 39) C dX11_sharer_39 0 rfl ?_
        refine V.getr (pc := 40) C fl_RX11_38 sX0 (kX0 hN) rfl rX0_6 dX11_sharer_40 ?_
        refine V.iload_n (pc := 43) C dX11_sharer_43 1 rfl ?_
        refine V.iload (pc := 44) C dX11_sharer_44 4 rfl ?_
        refine V.aload_n (pc := 46) C dX11_sharer_46 0 rfl ?_
        refine V.getr (pc := 47) C fl_RX11_38 sX0 (kX0 hN) rfl rX0_6 dX11_sharer_47 ?_
        refine V.getr (pc := 50) C fl_RX11_108 sX25 (kX25 hN) rfl rX25_2 dX11_sharer_50 ?_
        refine V.getr (pc := 53) C fl_RX11_134 sX26 (kX26 hN) rfl rX26_3 dX11_sharer_53 ?_
        refine V.iload_n (pc := 56) C dX11_sharer_56 1 rfl ?_
        refine V.iald (pc := 57) C sX29 (kX29 hN) dX11_sharer_57 (fun _ => ?_)
        refine V.aload_n (pc := 58) C dX11_sharer_58 0 rfl ?_
        refine V.getr (pc := 59) C fl_RX11_38 sX0 (kX0 hN) rfl rX0_6 dX11_sharer_59 ?_
        refine V.getr (pc := 62) C fl_RX11_108 sX25 (kX25 hN) rfl rX25_2 dX11_sharer_62 ?_
        refine V.getr (pc := 65) C fl_RX11_134 sX26 (kX26 hN) rfl rX26_3 dX11_sharer_65 ?_
        refine V.iload (pc := 68) C dX11_sharer_68 4 rfl ?_
        refine V.iald (pc := 70) C sX29 (kX29 hN) dX11_sharer_70 (fun _ => ?_)
        refine V.callV (pc := 71) (st := []) C (c_X10_measure l hN 25 (iX25 hN) y1 y4 (gi m 29 (ix y1)) (gi m 29 (ix y4)) m) obV ck_X10_measure ml_RX11_166 rfl rfl sX25 (kX25 hN) rfl rfl (Nat.le_of_ble_eq_true rfl) ⟨by decide, by decide⟩ dX11_sharer_71 (fun r_3 m_4 _ => ?_)
        refine V.aload_n (pc := 74) C dX11_sharer_74 0 rfl ?_
        refine V.getr (pc := 75) C fl_RX11_38 sX0 (kX0 hN) rfl rX0_6 dX11_sharer_75 ?_
        refine V.getr (pc := 78) C fl_RX11_170 sX25 (kX25 hN) rfl rX25_1 dX11_sharer_78 ?_
        refine V.getr (pc := 81) C fl_RX11_174 sX22 (kX22 hN) rfl rX22_0 dX11_sharer_81 ?_
        refine V.iconst (pc := 84) C dX11_sharer_84 (v := 1) (by decide) ?_
        refine V.iald (pc := 85) C sX23 (kX23 hN) dX11_sharer_85 (fun _ => ?_)
        refine V.lti (fun x_5 _ => ?_)
        refine V.istore (pc := 86) C dX11_sharer_86 (L2 := [(5, .int x_5), (0, .ref 0), (1, .int y1), (2, .int y2), (3, .int y3), (4, .int y4)]) (by decide) rfl ?_
        refine V.iload (pc := 88) C dX11_sharer_88 0 rfl ?_
        refine V.iload_n (pc := 90) C dX11_sharer_90 4 rfl ?_
        refine V.icmp_le (pc := 91) C dX11_sharer_91 100 (by decide) (fun _ => ?_) (fun _ => ?_)
        · refine V.iinc (pc := 100) C dX11_sharer_100 (v := 1) (L2 := [(4, .int (y4 + 1)), (5, .int x_5), (0, .ref 0), (1, .int y1), (2, .int y2), (3, .int y3)]) 5 rfl (by decide) (by decide) rfl ?_
          refine V.goto (pc := 103) C dX11_sharer_103 21 (by decide) ?_
          refine V.wk [2, 3, 4, 5, 0] rfl ?_
          exact ih y1 y2 y3 (y4 + 1) m_4
        · refine V.iload (pc := 94) C dX11_sharer_94 5 rfl ?_
          refine V.istore_n (pc := 96) C dX11_sharer_96 (L2 := [(2, .int y4), (5, .int x_5), (0, .ref 0), (1, .int y1), (3, .int y3), (4, .int y4)]) (by decide) rfl ?_
          refine V.iload (pc := 97) C dX11_sharer_97 1 rfl ?_
          refine V.istore_n (pc := 99) C dX11_sharer_99 (L2 := [(3, .int x_5), (2, .int y4), (5, .int x_5), (0, .ref 0), (1, .int y1), (4, .int y4)]) (by decide) rfl ?_
          refine V.iinc (pc := 100) C dX11_sharer_100 (v := 1) (L2 := [(4, .int (y4 + 1)), (3, .int x_5), (2, .int y4), (5, .int x_5), (0, .ref 0), (1, .int y1)]) 5 rfl (by decide) (by decide) rfl ?_
          refine V.goto (pc := 103) C dX11_sharer_103 21 (by decide) ?_
          refine V.wk [4, 5, 2, 1, 0] rfl ?_
          exact ih y1 y4 x_5 (y4 + 1) m_4
set_option maxRecDepth 100000 in
set_option maxHeartbeats 4000000 in
theorem v_X11_sharer {l : Launch} {p : Program} {e : Env} {s : State} {mt : MethodId} {args : Array Value} {below : List Frame} {meth : Method} {c : Code} {A : Nat → Prop} {ad0 : Nat → Nat} {G : Gt} {N : Nat} (C : Cx G p s mt args meth c RX11 cX11_sharer 6 (some .int) "sharer" A) (hN : 109 ≤ N) (x1 : Int32) (m : Mem) : V G SX oI l p e s mt args below meth c 6 3 A ad0 N N RX N RX 0 [(0, .ref 0), (1, .int x1)] [] m (X11_sharer  x1 m) := by
  rw [X11_sharer]
  refine V.aload_n (pc := 0) C dX11_sharer_0 0 rfl ?_
  refine V.getr (pc := 1) C fl_RX11_38 sX0 (kX0 hN) rfl rX0_6 dX11_sharer_1 ?_
  refine V.iload_n (pc := 4) C dX11_sharer_4 1 rfl ?_
  refine V.callV (pc := 5) (st := []) C (c_X10_isPerson l hN 25 (iX25 hN) x1 m) obI ck_X10_isPerson ml_RX11_123 rfl rfl sX25 (kX25 hN) rfl rfl (Nat.le_of_ble_eq_true rfl) ⟨by decide, by decide⟩ dX11_sharer_5 (fun r_1 m_2 _ => ?_)
  refine V.if_ne (pc := 8) C dX11_sharer_8 14 (by decide) (fun _ => ?_) (fun _ => ?_)
  · refine V.iconst (pc := 14) C dX11_sharer_14 (v := (-1)) (by decide) ?_
    refine V.istore_n (pc := 15) C dX11_sharer_15 (L2 := [(2, .int (-1)), (0, .ref 0), (1, .int x1)]) (by decide) rfl ?_
    refine V.iconst (pc := 16) C dX11_sharer_16 (v := 0) (by decide) ?_
    refine V.istore_n (pc := 17) C dX11_sharer_17 (L2 := [(3, .int 0), (2, .int (-1)), (0, .ref 0), (1, .int x1)]) (by decide) rfl ?_
    refine V.iconst (pc := 18) C dX11_sharer_18 (v := 0) (by decide) ?_
    refine V.istore (pc := 19) C dX11_sharer_19 (L2 := [(4, .int 0), (3, .int 0), (2, .int (-1)), (0, .ref 0), (1, .int x1)]) (by decide) rfl ?_
    refine V.wk [3, 4, 2, 1, 0] rfl ?_
    exact v_X11_sharer_b21 C hN FU x1 (-1) 0 0 m_2
  · refine V.bipush (pc := 11) C dX11_sharer_11 (v := (-2)) (by decide) ?_
    exact V.iret C dX11_sharer_13
theorem c_X11_sharer (l : Launch) {N : Nat} (hN : 109 ≤ N) (x1 : Int32) (m : Mem) : Ct l yX11_sharer cX11_sharer 6 (some .int) 3 SX oI N N RX RX [.ref 0, .int x1] m (X11_sharer  x1 m) :=
  Ct.of (own := RX11) (nm := "sharer") (by decide) rfl rfl (Nat.le_of_ble_eq_true rfl) (fun _ _ _ _ _ _ _ _ _ _ _ C => v_X11_sharer C hN x1 m)
theorem dX11_since_0 : decode cX11_since 0 = .ok (.aload_n 0, 1) := by decide +kernel
theorem dX11_since_1 : decode cX11_since 1 = .ok (.getfield 38, 3) := by decide +kernel
theorem dX11_since_4 : decode cX11_since 4 = .ok (.iload_n 1, 1) := by decide +kernel
theorem dX11_since_5 : decode cX11_since 5 = .ok (.invokevirtual 123, 3) := by decide +kernel
theorem dX11_since_8 : decode cX11_since 8 = .ok (.ifCond .eq 14, 3) := by decide +kernel
theorem dX11_since_11 : decode cX11_since 11 = .ok (.aload_n 0, 1) := by decide +kernel
theorem dX11_since_12 : decode cX11_since 12 = .ok (.getfield 38, 3) := by decide +kernel
theorem dX11_since_15 : decode cX11_since 15 = .ok (.iload_n 2, 1) := by decide +kernel
theorem dX11_since_16 : decode cX11_since 16 = .ok (.invokevirtual 140, 3) := by decide +kernel
theorem dX11_since_19 : decode cX11_since 19 = .ok (.ifCond .ne 6, 3) := by decide +kernel
theorem dX11_since_22 : decode cX11_since 22 = .ok (.bipush (-2), 2) := by decide +kernel
theorem dX11_since_24 : decode cX11_since 24 = .ok (.ireturn, 1) := by decide +kernel
theorem dX11_since_25 : decode cX11_since 25 = .ok (.aload_n 0, 1) := by decide +kernel
theorem dX11_since_26 : decode cX11_since 26 = .ok (.getfield 38, 3) := by decide +kernel
theorem dX11_since_29 : decode cX11_since 29 = .ok (.getfield 108, 3) := by decide +kernel
theorem dX11_since_32 : decode cX11_since 32 = .ok (.iload_n 1, 1) := by decide +kernel
theorem dX11_since_33 : decode cX11_since 33 = .ok (.iload_n 2, 1) := by decide +kernel
theorem dX11_since_34 : decode cX11_since 34 = .ok (.invokevirtual 143, 3) := by decide +kernel
theorem dX11_since_37 : decode cX11_since 37 = .ok (.ifCond .eq 23, 3) := by decide +kernel
theorem dX11_since_40 : decode cX11_since 40 = .ok (.aload_n 0, 1) := by decide +kernel
theorem dX11_since_41 : decode cX11_since 41 = .ok (.getfield 38, 3) := by decide +kernel
theorem dX11_since_44 : decode cX11_since 44 = .ok (.getfield 108, 3) := by decide +kernel
theorem dX11_since_47 : decode cX11_since 47 = .ok (.getfield 147, 3) := by decide +kernel
theorem dX11_since_50 : decode cX11_since 50 = .ok (.iload_n 1, 1) := by decide +kernel
theorem dX11_since_51 : decode cX11_since 51 = .ok (.bipush 14, 2) := by decide +kernel
theorem dX11_since_53 : decode cX11_since 53 = .ok (.imul, 1) := by decide +kernel
theorem dX11_since_54 : decode cX11_since 54 = .ok (.iload_n 2, 1) := by decide +kernel
theorem dX11_since_55 : decode cX11_since 55 = .ok (.iadd, 1) := by decide +kernel
theorem dX11_since_56 : decode cX11_since 56 = .ok (.iaload, 1) := by decide +kernel
theorem dX11_since_57 : decode cX11_since 57 = .ok (.goto 4, 3) := by decide +kernel
theorem dX11_since_60 : decode cX11_since 60 = .ok (.iconst (-1), 1) := by decide +kernel
theorem dX11_since_61 : decode cX11_since 61 = .ok (.ireturn, 1) := by decide +kernel
set_option maxRecDepth 100000 in
set_option maxHeartbeats 4000000 in
theorem v_X11_since {l : Launch} {p : Program} {e : Env} {s : State} {mt : MethodId} {args : Array Value} {below : List Frame} {meth : Method} {c : Code} {A : Nat → Prop} {ad0 : Nat → Nat} {G : Gt} {N : Nat} (C : Cx G p s mt args meth c RX11 cX11_since 3 (some .int) "since" A) (hN : 109 ≤ N) (x1 : Int32) (x2 : Int32) (m : Mem) : V G SX oI l p e s mt args below meth c 3 2 A ad0 N N RX N RX 0 [(0, .ref 0), (1, .int x1), (2, .int x2)] [] m (X11_since  x1 x2 m) := by
  rw [X11_since]
  refine V.aload_n (pc := 0) C dX11_since_0 0 rfl ?_
  refine V.getr (pc := 1) C fl_RX11_38 sX0 (kX0 hN) rfl rX0_6 dX11_since_1 ?_
  refine V.iload_n (pc := 4) C dX11_since_4 1 rfl ?_
  refine V.callV (pc := 5) (st := []) C (c_X10_isPerson l hN 25 (iX25 hN) x1 m) obI ck_X10_isPerson ml_RX11_123 rfl rfl sX25 (kX25 hN) rfl rfl (Nat.le_of_ble_eq_true rfl) ⟨by decide, by decide⟩ dX11_since_5 (fun r_1 m_2 _ => ?_)
  refine V.if_eq (pc := 8) C dX11_since_8 22 (by decide) (fun _ => ?_) (fun _ => ?_)
  · refine V.bipush (pc := 22) C dX11_since_22 (v := (-2)) (by decide) ?_
    exact V.iret C dX11_since_24
  · refine V.aload_n (pc := 11) C dX11_since_11 0 rfl ?_
    refine V.getr (pc := 12) C fl_RX11_38 sX0 (kX0 hN) rfl rX0_6 dX11_since_12 ?_
    refine V.iload_n (pc := 15) C dX11_since_15 2 rfl ?_
    refine V.callV (pc := 16) (st := []) C (c_X10_isThing l hN 25 (iX25 hN) x2 m_2) obI ck_X10_isThing ml_RX11_140 rfl rfl sX25 (kX25 hN) rfl rfl (Nat.le_of_ble_eq_true rfl) ⟨by decide, by decide⟩ dX11_since_16 (fun r_3 m_4 _ => ?_)
    refine V.if_ne (pc := 19) C dX11_since_19 25 (by decide) (fun _ => ?_) (fun _ => ?_)
    · refine V.aload_n (pc := 25) C dX11_since_25 0 rfl ?_
      refine V.getr (pc := 26) C fl_RX11_38 sX0 (kX0 hN) rfl rX0_6 dX11_since_26 ?_
      refine V.getr (pc := 29) C fl_RX11_108 sX25 (kX25 hN) rfl rX25_2 dX11_since_29 ?_
      refine V.iload_n (pc := 32) C dX11_since_32 1 rfl ?_
      refine V.iload_n (pc := 33) C dX11_since_33 2 rfl ?_
      refine V.callV (pc := 34) (st := []) C (c_X5_has l hN 26 (iX26 hN) x1 x2 m_4) obI ck_X5_has ml_RX11_143 rfl rfl sX26 (kX26 hN) rfl rfl (Nat.le_of_ble_eq_true rfl) ⟨by decide, by decide⟩ dX11_since_34 (fun r_5 m_6 _ => ?_)
      refine V.if_eq (pc := 37) C dX11_since_37 60 (by decide) (fun _ => ?_) (fun _ => ?_)
      · refine V.iconst (pc := 60) C dX11_since_60 (v := (-1)) (by decide) ?_
        exact V.iret C dX11_since_61
      · refine V.aload_n (pc := 40) C dX11_since_40 0 rfl ?_
        refine V.getr (pc := 41) C fl_RX11_38 sX0 (kX0 hN) rfl rX0_6 dX11_since_41 ?_
        refine V.getr (pc := 44) C fl_RX11_108 sX25 (kX25 hN) rfl rX25_2 dX11_since_44 ?_
        refine V.getr (pc := 47) C fl_RX11_147 sX26 (kX26 hN) rfl rX26_5 dX11_since_47 ?_
        refine V.iload_n (pc := 50) C dX11_since_50 1 rfl ?_
        refine V.bipush (pc := 51) C dX11_since_51 (v := 14) (by decide) ?_
        refine V.imul (pc := 53) C dX11_since_53 ?_
        refine V.iload_n (pc := 54) C dX11_since_54 2 rfl ?_
        refine V.iadd (pc := 55) C dX11_since_55 ?_
        refine V.iald (pc := 56) C sX31 (kX31 hN) dX11_since_56 (fun _ => ?_)
        refine V.goto (pc := 57) C dX11_since_57 61 (by decide) ?_
        exact V.iret C dX11_since_61
    · refine V.bipush (pc := 22) C dX11_since_22 (v := (-2)) (by decide) ?_
      exact V.iret C dX11_since_24
theorem c_X11_since (l : Launch) {N : Nat} (hN : 109 ≤ N) (x1 : Int32) (x2 : Int32) (m : Mem) : Ct l yX11_since cX11_since 3 (some .int) 2 SX oI N N RX RX [.ref 0, .int x1, .int x2] m (X11_since  x1 x2 m) :=
  Ct.of (own := RX11) (nm := "since") (by decide) rfl rfl (Nat.le_of_ble_eq_true rfl) (fun _ _ _ _ _ _ _ _ _ _ _ C => v_X11_since C hN x1 x2 m)
theorem dX6_settle_0 : decode cX6_settle 0 = .ok (.iload_n 1, 1) := by decide +kernel
theorem dX6_settle_1 : decode cX6_settle 1 = .ok (.aload_n 0, 1) := by decide +kernel
theorem dX6_settle_2 : decode cX6_settle 2 = .ok (.getfield 40, 3) := by decide +kernel
theorem dX6_settle_5 : decode cX6_settle 5 = .ok (.if_icmp .lt 17, 3) := by decide +kernel
theorem dX6_settle_8 : decode cX6_settle 8 = .ok (.aload_n 0, 1) := by decide +kernel
theorem dX6_settle_9 : decode cX6_settle 9 = .ok (.invokevirtual 73, 3) := by decide +kernel
theorem dX6_settle_12 : decode cX6_settle 12 = .ok (.iconst (-1), 1) := by decide +kernel
theorem dX6_settle_13 : decode cX6_settle 13 = .ok (.if_icmp .ne 7, 3) := by decide +kernel
theorem dX6_settle_16 : decode cX6_settle 16 = .ok (.iconst 1, 1) := by decide +kernel
theorem dX6_settle_17 : decode cX6_settle 17 = .ok (.goto 4, 3) := by decide +kernel
theorem dX6_settle_20 : decode cX6_settle 20 = .ok (.iconst 0, 1) := by decide +kernel
theorem dX6_settle_21 : decode cX6_settle 21 = .ok (.ireturn, 1) := by decide +kernel
theorem dX6_settle_22 : decode cX6_settle 22 = .ok (.aload_n 0, 1) := by decide +kernel
theorem dX6_settle_23 : decode cX6_settle 23 = .ok (.getfield 25, 3) := by decide +kernel
theorem dX6_settle_26 : decode cX6_settle 26 = .ok (.iload_n 1, 1) := by decide +kernel
theorem dX6_settle_27 : decode cX6_settle 27 = .ok (.iaload, 1) := by decide +kernel
theorem dX6_settle_28 : decode cX6_settle 28 = .ok (.iconst (-1), 1) := by decide +kernel
theorem dX6_settle_29 : decode cX6_settle 29 = .ok (.if_icmp .eq 11, 3) := by decide +kernel
theorem dX6_settle_32 : decode cX6_settle 32 = .ok (.aload_n 0, 1) := by decide +kernel
theorem dX6_settle_33 : decode cX6_settle 33 = .ok (.iload_n 1, 1) := by decide +kernel
theorem dX6_settle_34 : decode cX6_settle 34 = .ok (.iconst 1, 1) := by decide +kernel
theorem dX6_settle_35 : decode cX6_settle 35 = .ok (.iadd, 1) := by decide +kernel
theorem dX6_settle_36 : decode cX6_settle 36 = .ok (.invokevirtual 77, 3) := by decide +kernel
theorem dX6_settle_39 : decode cX6_settle 39 = .ok (.ireturn, 1) := by decide +kernel
theorem dX6_settle_40 : decode cX6_settle 40 = .ok (.iload_n 1, 1) := by decide +kernel
theorem dX6_settle_41 : decode cX6_settle 41 = .ok (.iconst 1, 1) := by decide +kernel
theorem dX6_settle_42 : decode cX6_settle 42 = .ok (.iadd, 1) := by decide +kernel
theorem dX6_settle_43 : decode cX6_settle 43 = .ok (.istore_n 2, 1) := by decide +kernel
theorem dX6_settle_44 : decode cX6_settle 44 = .ok (.iload_n 2, 1) := by decide +kernel
theorem dX6_settle_45 : decode cX6_settle 45 = .ok (.aload_n 0, 1) := by decide +kernel
theorem dX6_settle_46 : decode cX6_settle 46 = .ok (.getfield 40, 3) := by decide +kernel
theorem dX6_settle_49 : decode cX6_settle 49 = .ok (.if_icmp .ge 68, 3) := by decide +kernel
theorem dX6_settle_52 : decode cX6_settle 52 = .ok (.aload_n 0, 1) := by decide +kernel
theorem dX6_settle_53 : decode cX6_settle 53 = .ok (.getfield 25, 3) := by decide +kernel
theorem dX6_settle_56 : decode cX6_settle 56 = .ok (.iload_n 2, 1) := by decide +kernel
theorem dX6_settle_57 : decode cX6_settle 57 = .ok (.iaload, 1) := by decide +kernel
theorem dX6_settle_58 : decode cX6_settle 58 = .ok (.iconst (-1), 1) := by decide +kernel
theorem dX6_settle_59 : decode cX6_settle 59 = .ok (.if_icmp .ne 52, 3) := by decide +kernel
theorem dX6_settle_62 : decode cX6_settle 62 = .ok (.aload_n 0, 1) := by decide +kernel
theorem dX6_settle_63 : decode cX6_settle 63 = .ok (.iload_n 1, 1) := by decide +kernel
theorem dX6_settle_64 : decode cX6_settle 64 = .ok (.iload_n 2, 1) := by decide +kernel
theorem dX6_settle_65 : decode cX6_settle 65 = .ok (.invokevirtual 60, 3) := by decide +kernel
theorem dX6_settle_68 : decode cX6_settle 68 = .ok (.ifCond .eq 43, 3) := by decide +kernel
theorem dX6_settle_71 : decode cX6_settle 71 = .ok (.aload_n 0, 1) := by decide +kernel
theorem dX6_settle_72 : decode cX6_settle 72 = .ok (.getfield 25, 3) := by decide +kernel
theorem dX6_settle_75 : decode cX6_settle 75 = .ok (.iload_n 1, 1) := by decide +kernel
theorem dX6_settle_76 : decode cX6_settle 76 = .ok (.iload_n 2, 1) := by decide +kernel
theorem dX6_settle_77 : decode cX6_settle 77 = .ok (.iastore, 1) := by decide +kernel
theorem dX6_settle_78 : decode cX6_settle 78 = .ok (.aload_n 0, 1) := by decide +kernel
theorem dX6_settle_79 : decode cX6_settle 79 = .ok (.getfield 25, 3) := by decide +kernel
theorem dX6_settle_82 : decode cX6_settle 82 = .ok (.iload_n 2, 1) := by decide +kernel
theorem dX6_settle_83 : decode cX6_settle 83 = .ok (.iload_n 1, 1) := by decide +kernel
theorem dX6_settle_84 : decode cX6_settle 84 = .ok (.iastore, 1) := by decide +kernel
theorem dX6_settle_85 : decode cX6_settle 85 = .ok (.aload_n 0, 1) := by decide +kernel
theorem dX6_settle_86 : decode cX6_settle 86 = .ok (.iload_n 1, 1) := by decide +kernel
theorem dX6_settle_87 : decode cX6_settle 87 = .ok (.iconst 1, 1) := by decide +kernel
theorem dX6_settle_88 : decode cX6_settle 88 = .ok (.iadd, 1) := by decide +kernel
theorem dX6_settle_89 : decode cX6_settle 89 = .ok (.invokevirtual 77, 3) := by decide +kernel
theorem dX6_settle_92 : decode cX6_settle 92 = .ok (.ifCond .eq 5, 3) := by decide +kernel
theorem dX6_settle_95 : decode cX6_settle 95 = .ok (.iconst 1, 1) := by decide +kernel
theorem dX6_settle_96 : decode cX6_settle 96 = .ok (.ireturn, 1) := by decide +kernel
theorem dX6_settle_97 : decode cX6_settle 97 = .ok (.aload_n 0, 1) := by decide +kernel
theorem dX6_settle_98 : decode cX6_settle 98 = .ok (.getfield 25, 3) := by decide +kernel
theorem dX6_settle_101 : decode cX6_settle 101 = .ok (.iload_n 1, 1) := by decide +kernel
theorem dX6_settle_102 : decode cX6_settle 102 = .ok (.iconst (-1), 1) := by decide +kernel
theorem dX6_settle_103 : decode cX6_settle 103 = .ok (.iastore, 1) := by decide +kernel
theorem dX6_settle_104 : decode cX6_settle 104 = .ok (.aload_n 0, 1) := by decide +kernel
theorem dX6_settle_105 : decode cX6_settle 105 = .ok (.getfield 25, 3) := by decide +kernel
theorem dX6_settle_108 : decode cX6_settle 108 = .ok (.iload_n 2, 1) := by decide +kernel
theorem dX6_settle_109 : decode cX6_settle 109 = .ok (.iconst (-1), 1) := by decide +kernel
theorem dX6_settle_110 : decode cX6_settle 110 = .ok (.iastore, 1) := by decide +kernel
theorem dX6_settle_111 : decode cX6_settle 111 = .ok (.iinc 2 1, 3) := by decide +kernel
theorem dX6_settle_114 : decode cX6_settle 114 = .ok (.goto (-70), 3) := by decide +kernel
theorem dX6_settle_117 : decode cX6_settle 117 = .ok (.aload_n 0, 1) := by decide +kernel
theorem dX6_settle_118 : decode cX6_settle 118 = .ok (.iload_n 1, 1) := by decide +kernel
theorem dX6_settle_119 : decode cX6_settle 119 = .ok (.iconst 1, 1) := by decide +kernel
theorem dX6_settle_120 : decode cX6_settle 120 = .ok (.iadd, 1) := by decide +kernel
theorem dX6_settle_121 : decode cX6_settle 121 = .ok (.invokevirtual 77, 3) := by decide +kernel
theorem dX6_settle_124 : decode cX6_settle 124 = .ok (.ireturn, 1) := by decide +kernel
set_option maxRecDepth 100000 in
set_option maxHeartbeats 4000000 in
theorem v_X6_settle_b44 {l : Launch} {p : Program} {e : Env} {s : State} {mt : MethodId} {args : Array Value} {below : List Frame} {meth : Method} {c : Code} {A : Nat → Prop} {ad0 : Nat → Nat} {G : Gt} {N : Nat} {fr fr1 : Nat} (hfr : fr1 + 1 ≤ fr ∧ 3 ≤ fr) (C : Cx G p s mt args meth c RX6 cX6_settle 3 (some .boolean) "settle" A) (hN : 109 ≤ N) (f_X6_settle : Int32 → Mem → Option (Int32 × Mem)) (h_X6_settle : ∀ (x1 : Int32) (m : Mem), Ct l yX6_settle cX6_settle 3 (some .boolean) fr1 SX oI N N RX RX [.ref 90, .int x1] m (f_X6_settle x1 m)) : ∀ (n : Nat) (y1 : Int32) (y2 : Int32) (m : Mem), V G SX oI l p e s mt args below meth c 3 fr A ad0 N N RX N RX 44 [(0, .ref 90), (1, .int y1), (2, .int y2)] [] m (X6_settle_b44 f_X6_settle n y1 y2 m) := by
  intro n
  induction n with
  | zero =>
    intro y1 y2 m
    rw [X6_settle_b44]
    exact V.nil
  | succ n ih =>
    intro y1 y2 m
    rw [X6_settle_b44]
    refine V.iload_n (pc := 44) C dX6_settle_44 2 rfl ?_
    refine V.aload_n (pc := 45) C dX6_settle_45 0 rfl ?_
    refine V.geti (pc := 46) C fl_RX6_40 sX90 (kX90 hN) rfl dX6_settle_46 ?_
    refine V.icmp_ge (pc := 49) C dX6_settle_49 117 (by decide) (fun _ => ?_) (fun _ => ?_)
    · refine V.aload_n (pc := 117) C dX6_settle_117 0 rfl ?_
      refine V.iload_n (pc := 118) C dX6_settle_118 1 rfl ?_
      refine V.iconst (pc := 119) C dX6_settle_119 (v := 1) (by decide) ?_
      refine V.iadd (pc := 120) C dX6_settle_120 ?_
      refine V.callV (pc := 121) (st := []) C (h_X6_settle (y1 + 1) m) obI ck_X6_settle ml_RX6_77 rfl rfl sX90 (kX90 hN) rfl rfl (Nat.le_of_ble_eq_true rfl) ⟨by omega, by decide⟩ dX6_settle_121 (fun r_2 m_3 _ => ?_)
      exact V.bret C dX6_settle_124
    · refine V.aload_n (pc := 52) C dX6_settle_52 0 rfl ?_
      refine V.getr (pc := 53) C fl_RX6_25 sX90 (kX90 hN) rfl rX90_5 dX6_settle_53 ?_
      refine V.iload_n (pc := 56) C dX6_settle_56 2 rfl ?_
      refine V.iald (pc := 57) C sX95 (kX95 hN) dX6_settle_57 (fun _ => ?_)
      refine V.iconst (pc := 58) C dX6_settle_58 (v := (-1)) (by decide) ?_
      refine V.icmp_ne (pc := 59) C dX6_settle_59 111 (by decide) (fun _ => ?_) (fun _ => ?_)
      · refine V.iinc (pc := 111) C dX6_settle_111 (v := 1) (L2 := [(2, .int (y2 + 1)), (0, .ref 90), (1, .int y1)]) 2 rfl (by decide) (by decide) rfl ?_
        refine V.goto (pc := 114) C dX6_settle_114 44 (by decide) ?_
        refine V.wk [1, 2, 0] rfl ?_
        exact ih y1 (y2 + 1) m
      · refine V.aload_n (pc := 62) C dX6_settle_62 0 rfl ?_
        refine V.iload_n (pc := 63) C dX6_settle_63 1 rfl ?_
        refine V.iload_n (pc := 64) C dX6_settle_64 2 rfl ?_
        refine V.callV (pc := 65) (st := []) C (c_X6_isOpen l hN y1 y2 m) obI ck_X6_isOpen ml_RX6_60 rfl rfl sX90 (kX90 hN) rfl rfl (Nat.le_of_ble_eq_true rfl) ⟨by omega, by decide⟩ dX6_settle_65 (fun r_4 m_5 _ => ?_)
        refine V.if_eq (pc := 68) C dX6_settle_68 111 (by decide) (fun _ => ?_) (fun _ => ?_)
        · refine V.iinc (pc := 111) C dX6_settle_111 (v := 1) (L2 := [(2, .int (y2 + 1)), (0, .ref 90), (1, .int y1)]) 2 rfl (by decide) (by decide) rfl ?_
          refine V.goto (pc := 114) C dX6_settle_114 44 (by decide) ?_
          refine V.wk [1, 2, 0] rfl ?_
          exact ih y1 (y2 + 1) m_5
        · refine V.aload_n (pc := 71) C dX6_settle_71 0 rfl ?_
          refine V.getr (pc := 72) C fl_RX6_25 sX90 (kX90 hN) rfl rX90_5 dX6_settle_72 ?_
          refine V.iload_n (pc := 75) C dX6_settle_75 1 rfl ?_
          refine V.iload_n (pc := 76) C dX6_settle_76 2 rfl ?_
          refine V.iast (pc := 77) C sX95 (kX95 hN) dX6_settle_77 (fun _ => ?_)
          refine V.ltm (fun m_6 => ?_)
          refine V.aload_n (pc := 78) C dX6_settle_78 0 rfl ?_
          refine V.getr (pc := 79) C fl_RX6_25 sX90 (kX90 hN) rfl rX90_5 dX6_settle_79 ?_
          refine V.iload_n (pc := 82) C dX6_settle_82 2 rfl ?_
          refine V.iload_n (pc := 83) C dX6_settle_83 1 rfl ?_
          refine V.iast (pc := 84) C sX95 (kX95 hN) dX6_settle_84 (fun _ => ?_)
          refine V.ltm (fun m_7 => ?_)
          refine V.aload_n (pc := 85) C dX6_settle_85 0 rfl ?_
          refine V.iload_n (pc := 86) C dX6_settle_86 1 rfl ?_
          refine V.iconst (pc := 87) C dX6_settle_87 (v := 1) (by decide) ?_
          refine V.iadd (pc := 88) C dX6_settle_88 ?_
          refine V.callV (pc := 89) (st := []) C (h_X6_settle (y1 + 1) m_7) obI ck_X6_settle ml_RX6_77 rfl rfl sX90 (kX90 hN) rfl rfl (Nat.le_of_ble_eq_true rfl) ⟨by omega, by decide⟩ dX6_settle_89 (fun r_8 m_9 _ => ?_)
          refine V.if_eq (pc := 92) C dX6_settle_92 97 (by decide) (fun _ => ?_) (fun _ => ?_)
          · refine V.aload_n (pc := 97) C dX6_settle_97 0 rfl ?_
            refine V.getr (pc := 98) C fl_RX6_25 sX90 (kX90 hN) rfl rX90_5 dX6_settle_98 ?_
            refine V.iload_n (pc := 101) C dX6_settle_101 1 rfl ?_
            refine V.iconst (pc := 102) C dX6_settle_102 (v := (-1)) (by decide) ?_
            refine V.iast (pc := 103) C sX95 (kX95 hN) dX6_settle_103 (fun _ => ?_)
            refine V.ltm (fun m_10 => ?_)
            refine V.aload_n (pc := 104) C dX6_settle_104 0 rfl ?_
            refine V.getr (pc := 105) C fl_RX6_25 sX90 (kX90 hN) rfl rX90_5 dX6_settle_105 ?_
            refine V.iload_n (pc := 108) C dX6_settle_108 2 rfl ?_
            refine V.iconst (pc := 109) C dX6_settle_109 (v := (-1)) (by decide) ?_
            refine V.iast (pc := 110) C sX95 (kX95 hN) dX6_settle_110 (fun _ => ?_)
            refine V.ltm (fun m_11 => ?_)
            refine V.iinc (pc := 111) C dX6_settle_111 (v := 1) (L2 := [(2, .int (y2 + 1)), (0, .ref 90), (1, .int y1)]) 2 rfl (by decide) (by decide) rfl ?_
            refine V.goto (pc := 114) C dX6_settle_114 44 (by decide) ?_
            refine V.wk [1, 2, 0] rfl ?_
            exact ih y1 (y2 + 1) m_11
          · refine V.iconst (pc := 95) C dX6_settle_95 (v := 1) (by decide) ?_
            exact V.zret rfl C dX6_settle_96
set_option maxRecDepth 100000 in
set_option maxHeartbeats 4000000 in
theorem v_X6_settle {l : Launch} {p : Program} {e : Env} {s : State} {mt : MethodId} {args : Array Value} {below : List Frame} {meth : Method} {c : Code} {A : Nat → Prop} {ad0 : Nat → Nat} {G : Gt} {N : Nat} {fr fr1 : Nat} (hfr : fr1 + 1 ≤ fr ∧ 3 ≤ fr) (C : Cx G p s mt args meth c RX6 cX6_settle 3 (some .boolean) "settle" A) (hN : 109 ≤ N) (f_X6_settle : Int32 → Mem → Option (Int32 × Mem)) (h_X6_settle : ∀ (x1 : Int32) (m : Mem), Ct l yX6_settle cX6_settle 3 (some .boolean) fr1 SX oI N N RX RX [.ref 90, .int x1] m (f_X6_settle x1 m)) (x1 : Int32) (m : Mem) : V G SX oI l p e s mt args below meth c 3 fr A ad0 N N RX N RX 0 [(0, .ref 90), (1, .int x1)] [] m (X6_settle f_X6_settle x1 m) := by
  rw [X6_settle]
  refine V.iload_n (pc := 0) C dX6_settle_0 1 rfl ?_
  refine V.aload_n (pc := 1) C dX6_settle_1 0 rfl ?_
  refine V.geti (pc := 2) C fl_RX6_40 sX90 (kX90 hN) rfl dX6_settle_2 ?_
  refine V.icmp_lt (pc := 5) C dX6_settle_5 22 (by decide) (fun _ => ?_) (fun _ => ?_)
  · refine V.aload_n (pc := 22) C dX6_settle_22 0 rfl ?_
    refine V.getr (pc := 23) C fl_RX6_25 sX90 (kX90 hN) rfl rX90_5 dX6_settle_23 ?_
    refine V.iload_n (pc := 26) C dX6_settle_26 1 rfl ?_
    refine V.iald (pc := 27) C sX95 (kX95 hN) dX6_settle_27 (fun _ => ?_)
    refine V.iconst (pc := 28) C dX6_settle_28 (v := (-1)) (by decide) ?_
    refine V.icmp_eq (pc := 29) C dX6_settle_29 40 (by decide) (fun _ => ?_) (fun _ => ?_)
    · refine V.iload_n (pc := 40) C dX6_settle_40 1 rfl ?_
      refine V.iconst (pc := 41) C dX6_settle_41 (v := 1) (by decide) ?_
      refine V.iadd (pc := 42) C dX6_settle_42 ?_
      refine V.lti (fun x_1 _ => ?_)
      refine V.istore_n (pc := 43) C dX6_settle_43 (L2 := [(2, .int x_1), (0, .ref 90), (1, .int x1)]) (by decide) rfl ?_
      refine V.wk [1, 2, 0] rfl ?_
      exact v_X6_settle_b44 hfr C hN f_X6_settle h_X6_settle FU x1 x_1 m
    · refine V.aload_n (pc := 32) C dX6_settle_32 0 rfl ?_
      refine V.iload_n (pc := 33) C dX6_settle_33 1 rfl ?_
      refine V.iconst (pc := 34) C dX6_settle_34 (v := 1) (by decide) ?_
      refine V.iadd (pc := 35) C dX6_settle_35 ?_
      refine V.callV (pc := 36) (st := []) C (h_X6_settle (x1 + 1) m) obI ck_X6_settle ml_RX6_77 rfl rfl sX90 (kX90 hN) rfl rfl (Nat.le_of_ble_eq_true rfl) ⟨by omega, by decide⟩ dX6_settle_36 (fun r_12 m_13 _ => ?_)
      exact V.bret C dX6_settle_39
  · refine V.aload_n (pc := 8) C dX6_settle_8 0 rfl ?_
    refine V.callV (pc := 9) (st := []) C (c_X6_firstBreak l hN m) obI ck_X6_firstBreak ml_RX6_73 rfl rfl sX90 (kX90 hN) rfl rfl (Nat.le_of_ble_eq_true rfl) ⟨by omega, by decide⟩ dX6_settle_9 (fun r_14 m_15 _ => ?_)
    refine V.iconst (pc := 12) C dX6_settle_12 (v := (-1)) (by decide) ?_
    refine V.icmp_ne (pc := 13) C dX6_settle_13 20 (by decide) (fun _ => ?_) (fun _ => ?_)
    · refine V.iconst (pc := 20) C dX6_settle_20 (v := 0) (by decide) ?_
      exact V.zret rfl C dX6_settle_21
    · refine V.iconst (pc := 16) C dX6_settle_16 (v := 1) (by decide) ?_
      refine V.goto (pc := 17) C dX6_settle_17 21 (by decide) ?_
      exact V.zret rfl C dX6_settle_21
theorem c_X6_settle (l : Launch) {N : Nat} {fr fr1 : Nat} (hfr : fr1 + 1 ≤ fr ∧ 3 ≤ fr) (hN : 109 ≤ N) (f_X6_settle : Int32 → Mem → Option (Int32 × Mem)) (h_X6_settle : ∀ (x1 : Int32) (m : Mem), Ct l yX6_settle cX6_settle 3 (some .boolean) fr1 SX oI N N RX RX [.ref 90, .int x1] m (f_X6_settle x1 m)) (x1 : Int32) (m : Mem) : Ct l yX6_settle cX6_settle 3 (some .boolean) fr SX oI N N RX RX [.ref 90, .int x1] m (X6_settle f_X6_settle x1 m) :=
  Ct.of (own := RX6) (nm := "settle") (by decide) rfl rfl (Nat.le_of_ble_eq_true rfl) (fun _ _ _ _ _ _ _ _ _ _ _ C => v_X6_settle hfr C hN f_X6_settle h_X6_settle x1 m)
