theorem dX6_firstBreak_0 : decode cX6_firstBreak 0 = .ok (.iconst 0, 1) := by decide +kernel
theorem dX6_firstBreak_1 : decode cX6_firstBreak 1 = .ok (.istore_n 1, 1) := by decide +kernel
theorem dX6_firstBreak_2 : decode cX6_firstBreak 2 = .ok (.iload_n 1, 1) := by decide +kernel
theorem dX6_firstBreak_3 : decode cX6_firstBreak 3 = .ok (.aload_n 0, 1) := by decide +kernel
theorem dX6_firstBreak_4 : decode cX6_firstBreak 4 = .ok (.getfield 40, 3) := by decide +kernel
theorem dX6_firstBreak_7 : decode cX6_firstBreak 7 = .ok (.if_icmp .ge 73, 3) := by decide +kernel
theorem dX6_firstBreak_10 : decode cX6_firstBreak 10 = .ok (.iload_n 1, 1) := by decide +kernel
theorem dX6_firstBreak_11 : decode cX6_firstBreak 11 = .ok (.iconst 1, 1) := by decide +kernel
theorem dX6_firstBreak_12 : decode cX6_firstBreak 12 = .ok (.iadd, 1) := by decide +kernel
theorem dX6_firstBreak_13 : decode cX6_firstBreak 13 = .ok (.istore_n 2, 1) := by decide +kernel
theorem dX6_firstBreak_14 : decode cX6_firstBreak 14 = .ok (.iload_n 2, 1) := by decide +kernel
theorem dX6_firstBreak_15 : decode cX6_firstBreak 15 = .ok (.aload_n 0, 1) := by decide +kernel
theorem dX6_firstBreak_16 : decode cX6_firstBreak 16 = .ok (.getfield 40, 3) := by decide +kernel
theorem dX6_firstBreak_19 : decode cX6_firstBreak 19 = .ok (.if_icmp .ge 55, 3) := by decide +kernel
theorem dX6_firstBreak_22 : decode cX6_firstBreak 22 = .ok (.aload_n 0, 1) := by decide +kernel
theorem dX6_firstBreak_23 : decode cX6_firstBreak 23 = .ok (.getfield 15, 3) := by decide +kernel
theorem dX6_firstBreak_26 : decode cX6_firstBreak 26 = .ok (.iload_n 1, 1) := by decide +kernel
theorem dX6_firstBreak_27 : decode cX6_firstBreak 27 = .ok (.bipush 8, 2) := by decide +kernel
theorem dX6_firstBreak_29 : decode cX6_firstBreak 29 = .ok (.imul, 1) := by decide +kernel
theorem dX6_firstBreak_30 : decode cX6_firstBreak 30 = .ok (.iload_n 2, 1) := by decide +kernel
theorem dX6_firstBreak_31 : decode cX6_firstBreak 31 = .ok (.iadd, 1) := by decide +kernel
theorem dX6_firstBreak_32 : decode cX6_firstBreak 32 = .ok (.iaload, 1) := by decide +kernel
theorem dX6_firstBreak_33 : decode cX6_firstBreak 33 = .ok (.istore_n 3, 1) := by decide +kernel
theorem dX6_firstBreak_34 : decode cX6_firstBreak 34 = .ok (.aload_n 0, 1) := by decide +kernel
theorem dX6_firstBreak_35 : decode cX6_firstBreak 35 = .ok (.iload_n 1, 1) := by decide +kernel
theorem dX6_firstBreak_36 : decode cX6_firstBreak 36 = .ok (.iload_n 2, 1) := by decide +kernel
theorem dX6_firstBreak_37 : decode cX6_firstBreak 37 = .ok (.invokevirtual 60, 3) := by decide +kernel
theorem dX6_firstBreak_40 : decode cX6_firstBreak 40 = .ok (.ifCond .eq 28, 3) := by decide +kernel
theorem dX6_firstBreak_43 : decode cX6_firstBreak 43 = .ok (.iload_n 3, 1) := by decide +kernel
theorem dX6_firstBreak_44 : decode cX6_firstBreak 44 = .ok (.aload_n 0, 1) := by decide +kernel
theorem dX6_firstBreak_45 : decode cX6_firstBreak 45 = .ok (.iload_n 1, 1) := by decide +kernel
theorem dX6_firstBreak_46 : decode cX6_firstBreak 46 = .ok (.invokevirtual 81, 3) := by decide +kernel
theorem dX6_firstBreak_49 : decode cX6_firstBreak 49 = .ok (.if_icmp .le 19, 3) := by decide +kernel
theorem dX6_firstBreak_52 : decode cX6_firstBreak 52 = .ok (.iload_n 3, 1) := by decide +kernel
theorem dX6_firstBreak_53 : decode cX6_firstBreak 53 = .ok (.aload_n 0, 1) := by decide +kernel
theorem dX6_firstBreak_54 : decode cX6_firstBreak 54 = .ok (.iload_n 2, 1) := by decide +kernel
theorem dX6_firstBreak_55 : decode cX6_firstBreak 55 = .ok (.invokevirtual 81, 3) := by decide +kernel
theorem dX6_firstBreak_58 : decode cX6_firstBreak 58 = .ok (.if_icmp .le 10, 3) := by decide +kernel
theorem dX6_firstBreak_61 : decode cX6_firstBreak 61 = .ok (.bipush 10, 2) := by decide +kernel
theorem dX6_firstBreak_63 : decode cX6_firstBreak 63 = .ok (.iload_n 1, 1) := by decide +kernel
theorem dX6_firstBreak_64 : decode cX6_firstBreak 64 = .ok (.imul, 1) := by decide +kernel
theorem dX6_firstBreak_65 : decode cX6_firstBreak 65 = .ok (.iload_n 2, 1) := by decide +kernel
theorem dX6_firstBreak_66 : decode cX6_firstBreak 66 = .ok (.iadd, 1) := by decide +kernel
theorem dX6_firstBreak_67 : decode cX6_firstBreak 67 = .ok (.ireturn, 1) := by decide +kernel
theorem dX6_firstBreak_68 : decode cX6_firstBreak 68 = .ok (.iinc 2 1, 3) := by decide +kernel
theorem dX6_firstBreak_71 : decode cX6_firstBreak 71 = .ok (.goto (-57), 3) := by decide +kernel
theorem dX6_firstBreak_74 : decode cX6_firstBreak 74 = .ok (.iinc 1 1, 3) := by decide +kernel
theorem dX6_firstBreak_77 : decode cX6_firstBreak 77 = .ok (.goto (-75), 3) := by decide +kernel
theorem dX6_firstBreak_80 : decode cX6_firstBreak 80 = .ok (.iconst (-1), 1) := by decide +kernel
theorem dX6_firstBreak_81 : decode cX6_firstBreak 81 = .ok (.ireturn, 1) := by decide +kernel
set_option maxRecDepth 100000 in
set_option maxHeartbeats 4000000 in
theorem v_X6_firstBreak_b14 {l : Launch} {p : Program} {e : Env} {s : State} {mt : MethodId} {args : Array Value} {below : List Frame} {meth : Method} {c : Code} {A : Nat → Prop} {ad0 : Nat → Nat} {G : Gt} {N : Nat} (C : Cx G p s mt args meth c RX6 cX6_firstBreak 4 (some .int) "firstBreak" A) (hN : 109 ≤ N) (k2 : Int32 → Mem → Option (Int32 × Mem)) (h2 : ∀ (y1 : Int32) (m : Mem), V G SX oI l p e s mt args below meth c 4 2 A ad0 N N RX N RX 2 [(0, .ref 90), (1, .int y1)] [] m (k2 y1 m)) : ∀ (n : Nat) (y1 : Int32) (y2 : Int32) (m : Mem), V G SX oI l p e s mt args below meth c 4 2 A ad0 N N RX N RX 14 [(0, .ref 90), (1, .int y1), (2, .int y2)] [] m (X6_firstBreak_b14 k2 n y1 y2 m) := by
  intro n
  induction n with
  | zero =>
    intro y1 y2 m
    rw [X6_firstBreak_b14]
    exact V.nil
  | succ n ih =>
    intro y1 y2 m
    rw [X6_firstBreak_b14]
    refine V.iload_n (pc := 14) C dX6_firstBreak_14 2 rfl ?_
    refine V.aload_n (pc := 15) C dX6_firstBreak_15 0 rfl ?_
    refine V.geti (pc := 16) C fl_RX6_40 sX90 (kX90 hN) rfl dX6_firstBreak_16 ?_
    refine V.icmp_ge (pc := 19) C dX6_firstBreak_19 74 (by decide) (fun _ => ?_) (fun _ => ?_)
    · refine V.iinc (pc := 74) C dX6_firstBreak_74 (v := 1) (L2 := [(1, .int (y1 + 1)), (0, .ref 90), (2, .int y2)]) 1 rfl (by decide) (by decide) rfl ?_
      refine V.goto (pc := 77) C dX6_firstBreak_77 2 (by decide) ?_
      refine V.wk [1, 0] rfl ?_
      exact h2 (y1 + 1) m
    · refine V.aload_n (pc := 22) C dX6_firstBreak_22 0 rfl ?_
      refine V.getr (pc := 23) C fl_RX6_15 sX90 (kX90 hN) rfl rX90_2 dX6_firstBreak_23 ?_
      refine V.iload_n (pc := 26) C dX6_firstBreak_26 1 rfl ?_
      refine V.bipush (pc := 27) C dX6_firstBreak_27 (v := 8) (by decide) ?_
      refine V.imul (pc := 29) C dX6_firstBreak_29 ?_
      refine V.iload_n (pc := 30) C dX6_firstBreak_30 2 rfl ?_
      refine V.iadd (pc := 31) C dX6_firstBreak_31 ?_
      refine V.iald (pc := 32) C sX92 (kX92 hN) dX6_firstBreak_32 (fun _ => ?_)
      refine V.lti (fun x_2 _ => ?_)
      refine V.istore_n (pc := 33) C dX6_firstBreak_33 (L2 := [(3, .int x_2), (0, .ref 90), (1, .int y1), (2, .int y2)]) (by decide) rfl ?_
      refine V.aload_n (pc := 34) C dX6_firstBreak_34 1 rfl ?_
      refine V.iload_n (pc := 35) C dX6_firstBreak_35 2 rfl ?_
      refine V.iload_n (pc := 36) C dX6_firstBreak_36 3 rfl ?_
      refine V.callV (pc := 37) (st := []) C (c_X6_isOpen l hN y1 y2 m) obI ck_X6_isOpen ml_RX6_60 rfl rfl sX90 (kX90 hN) rfl rfl (Nat.le_of_ble_eq_true rfl) ⟨by decide, by decide⟩ dX6_firstBreak_37 (fun r_3 m_4 _ => ?_)
      refine V.if_eq (pc := 40) C dX6_firstBreak_40 68 (by decide) (fun _ => ?_) (fun _ => ?_)
      · refine V.iinc (pc := 68) C dX6_firstBreak_68 (v := 1) (L2 := [(2, .int (y2 + 1)), (3, .int x_2), (0, .ref 90), (1, .int y1)]) 3 rfl (by decide) (by decide) rfl ?_
        refine V.goto (pc := 71) C dX6_firstBreak_71 14 (by decide) ?_
        refine V.wk [2, 3, 0] rfl ?_
        exact ih y1 (y2 + 1) m_4
      · refine V.iload_n (pc := 43) C dX6_firstBreak_43 0 rfl ?_
        refine V.aload_n (pc := 44) C dX6_firstBreak_44 1 rfl ?_
        refine V.iload_n (pc := 45) C dX6_firstBreak_45 2 rfl ?_
        refine V.callV (pc := 46) (st := [.int x_2]) C (c_X6_goodNow l hN y1 m_4) obI ck_X6_goodNow ml_RX6_81 rfl rfl sX90 (kX90 hN) rfl rfl (Nat.le_of_ble_eq_true rfl) ⟨by decide, by decide⟩ dX6_firstBreak_46 (fun r_5 m_6 _ => ?_)
        refine V.icmp_le (pc := 49) C dX6_firstBreak_49 68 (by decide) (fun _ => ?_) (fun _ => ?_)
        · refine V.iinc (pc := 68) C dX6_firstBreak_68 (v := 1) (L2 := [(2, .int (y2 + 1)), (3, .int x_2), (0, .ref 90), (1, .int y1)]) 3 rfl (by decide) (by decide) rfl ?_
          refine V.goto (pc := 71) C dX6_firstBreak_71 14 (by decide) ?_
          refine V.wk [2, 3, 0] rfl ?_
          exact ih y1 (y2 + 1) m_6
        · refine V.iload_n (pc := 52) C dX6_firstBreak_52 0 rfl ?_
          refine V.aload_n (pc := 53) C dX6_firstBreak_53 1 rfl ?_
          refine V.iload_n (pc := 54) C dX6_firstBreak_54 3 rfl ?_
          refine V.callV (pc := 55) (st := [.int x_2]) C (c_X6_goodNow l hN y2 m_6) obI ck_X6_goodNow ml_RX6_81 rfl rfl sX90 (kX90 hN) rfl rfl (Nat.le_of_ble_eq_true rfl) ⟨by decide, by decide⟩ dX6_firstBreak_55 (fun r_7 m_8 _ => ?_)
          refine V.icmp_le (pc := 58) C dX6_firstBreak_58 68 (by decide) (fun _ => ?_) (fun _ => ?_)
          · refine V.iinc (pc := 68) C dX6_firstBreak_68 (v := 1) (L2 := [(2, .int (y2 + 1)), (3, .int x_2), (0, .ref 90), (1, .int y1)]) 3 rfl (by decide) (by decide) rfl ?_
            refine V.goto (pc := 71) C dX6_firstBreak_71 14 (by decide) ?_
            refine V.wk [2, 3, 0] rfl ?_
            exact ih y1 (y2 + 1) m_8
          · refine V.bipush (pc := 61) C dX6_firstBreak_61 (v := 10) (by decide) ?_
            refine V.iload_n (pc := 63) C dX6_firstBreak_63 2 rfl ?_
            refine V.imul (pc := 64) C dX6_firstBreak_64 ?_
            refine V.iload_n (pc := 65) C dX6_firstBreak_65 3 rfl ?_
            refine V.iadd (pc := 66) C dX6_firstBreak_66 ?_
            exact V.iret C dX6_firstBreak_67
set_option maxRecDepth 100000 in
set_option maxHeartbeats 4000000 in
theorem v_X6_firstBreak_b2 {l : Launch} {p : Program} {e : Env} {s : State} {mt : MethodId} {args : Array Value} {below : List Frame} {meth : Method} {c : Code} {A : Nat → Prop} {ad0 : Nat → Nat} {G : Gt} {N : Nat} (C : Cx G p s mt args meth c RX6 cX6_firstBreak 4 (some .int) "firstBreak" A) (hN : 109 ≤ N) : ∀ (n : Nat) (y1 : Int32) (m : Mem), V G SX oI l p e s mt args below meth c 4 2 A ad0 N N RX N RX 2 [(0, .ref 90), (1, .int y1)] [] m (X6_firstBreak_b2  n y1 m) := by
  intro n
  induction n with
  | zero =>
    intro y1 m
    rw [X6_firstBreak_b2]
    exact V.nil
  | succ n ih =>
    intro y1 m
    rw [X6_firstBreak_b2]
    refine V.iload_n (pc := 2) C dX6_firstBreak_2 1 rfl ?_
    refine V.aload_n (pc := 3) C dX6_firstBreak_3 0 rfl ?_
    refine V.geti (pc := 4) C fl_RX6_40 sX90 (kX90 hN) rfl dX6_firstBreak_4 ?_
    refine V.icmp_ge (pc := 7) C dX6_firstBreak_7 80 (by decide) (fun _ => ?_) (fun _ => ?_)
    · refine V.iconst (pc := 80) C dX6_firstBreak_80 (v := (-1)) (by decide) ?_
      exact V.iret C dX6_firstBreak_81
    · refine V.iload_n (pc := 10) C dX6_firstBreak_10 1 rfl ?_
      refine V.iconst (pc := 11) C dX6_firstBreak_11 (v := 1) (by decide) ?_
      refine V.iadd (pc := 12) C dX6_firstBreak_12 ?_
      refine V.lti (fun x_1 _ => ?_)
      refine V.istore_n (pc := 13) C dX6_firstBreak_13 (L2 := [(2, .int x_1), (0, .ref 90), (1, .int y1)]) (by decide) rfl ?_
      refine V.wk [1, 2, 0] rfl ?_
      exact v_X6_firstBreak_b14 C hN (X6_firstBreak_b2 n) ih FU y1 x_1 m
set_option maxRecDepth 100000 in
set_option maxHeartbeats 4000000 in
theorem v_X6_firstBreak {l : Launch} {p : Program} {e : Env} {s : State} {mt : MethodId} {args : Array Value} {below : List Frame} {meth : Method} {c : Code} {A : Nat → Prop} {ad0 : Nat → Nat} {G : Gt} {N : Nat} (C : Cx G p s mt args meth c RX6 cX6_firstBreak 4 (some .int) "firstBreak" A) (hN : 109 ≤ N) (m : Mem) : V G SX oI l p e s mt args below meth c 4 2 A ad0 N N RX N RX 0 [(0, .ref 90)] [] m (X6_firstBreak   m) := by
  rw [X6_firstBreak]
  refine V.iconst (pc := 0) C dX6_firstBreak_0 (v := 0) (by decide) ?_
  refine V.istore_n (pc := 1) C dX6_firstBreak_1 (L2 := [(1, .int 0), (0, .ref 90)]) (by decide) rfl ?_
  refine V.wk [1, 0] rfl ?_
  exact v_X6_firstBreak_b2 C hN FU 0 m
theorem c_X6_firstBreak (l : Launch) {N : Nat} (hN : 109 ≤ N) (m : Mem) : Ct l yX6_firstBreak cX6_firstBreak 4 (some .int) 2 SX oI N N RX RX [.ref 90] m (X6_firstBreak   m) :=
  Ct.of (own := RX6) (nm := "firstBreak") (by decide) rfl rfl (Nat.le_of_ble_eq_true rfl) (fun _ _ _ _ _ _ _ _ _ _ _ C => v_X6_firstBreak C hN  m)
theorem dX11_breaks_0 : decode cX11_breaks 0 = .ok (.aload_n 0, 1) := by decide +kernel
theorem dX11_breaks_1 : decode cX11_breaks 1 = .ok (.getfield 64, 3) := by decide +kernel
theorem dX11_breaks_4 : decode cX11_breaks 4 = .ok (.aload_n 0, 1) := by decide +kernel
theorem dX11_breaks_5 : decode cX11_breaks 5 = .ok (.getfield 38, 3) := by decide +kernel
theorem dX11_breaks_8 : decode cX11_breaks 8 = .ok (.invokevirtual 262, 3) := by decide +kernel
theorem dX11_breaks_11 : decode cX11_breaks 11 = .ok (.aload_n 0, 1) := by decide +kernel
theorem dX11_breaks_12 : decode cX11_breaks 12 = .ok (.getfield 64, 3) := by decide +kernel
theorem dX11_breaks_15 : decode cX11_breaks 15 = .ok (.aload_n 0, 1) := by decide +kernel
theorem dX11_breaks_16 : decode cX11_breaks 16 = .ok (.getfield 38, 3) := by decide +kernel
theorem dX11_breaks_19 : decode cX11_breaks 19 = .ok (.getfield 108, 3) := by decide +kernel
theorem dX11_breaks_22 : decode cX11_breaks 22 = .ok (.getfield 137, 3) := by decide +kernel
theorem dX11_breaks_25 : decode cX11_breaks 25 = .ok (.invokevirtual 289, 3) := by decide +kernel
theorem dX11_breaks_28 : decode cX11_breaks 28 = .ok (.aload_n 0, 1) := by decide +kernel
theorem dX11_breaks_29 : decode cX11_breaks 29 = .ok (.getfield 64, 3) := by decide +kernel
theorem dX11_breaks_32 : decode cX11_breaks 32 = .ok (.invokevirtual 293, 3) := by decide +kernel
theorem dX11_breaks_35 : decode cX11_breaks 35 = .ok (.ireturn, 1) := by decide +kernel
set_option maxRecDepth 100000 in
set_option maxHeartbeats 4000000 in
theorem v_X11_breaks {l : Launch} {p : Program} {e : Env} {s : State} {mt : MethodId} {args : Array Value} {below : List Frame} {meth : Method} {c : Code} {A : Nat → Prop} {ad0 : Nat → Nat} {G : Gt} {N : Nat} (C : Cx G p s mt args meth c RX11 cX11_breaks 1 (some .int) "breaks" A) (hN : 109 ≤ N) (m : Mem) : V G SX oI l p e s mt args below meth c 1 6 A ad0 N N RX N RX 0 [(0, .ref 0)] [] m (X11_breaks   m) := by
  rw [X11_breaks]
  refine V.aload_n (pc := 0) C dX11_breaks_0 0 rfl ?_
  refine V.getr (pc := 1) C fl_RX11_64 sX0 (kX0 hN) rfl rX0_10 dX11_breaks_1 ?_
  refine V.aload_n (pc := 4) C dX11_breaks_4 0 rfl ?_
  refine V.getr (pc := 5) C fl_RX11_38 sX0 (kX0 hN) rfl rX0_6 dX11_breaks_5 ?_
  refine V.callV (pc := 8) (st := []) C (c_X6_survey l hN 25 (iX25 hN) m) obV ck_X6_survey ml_RX11_262 rfl rfl sX90 (kX90 hN) rfl rfl (Nat.le_of_ble_eq_true rfl) ⟨by decide, by decide⟩ dX11_breaks_8 (fun r_1 m_2 _ => ?_)
  refine V.aload_n (pc := 11) C dX11_breaks_11 0 rfl ?_
  refine V.getr (pc := 12) C fl_RX11_64 sX0 (kX0 hN) rfl rX0_10 dX11_breaks_12 ?_
  refine V.aload_n (pc := 15) C dX11_breaks_15 0 rfl ?_
  refine V.getr (pc := 16) C fl_RX11_38 sX0 (kX0 hN) rfl rX0_6 dX11_breaks_16 ?_
  refine V.getr (pc := 19) C fl_RX11_108 sX25 (kX25 hN) rfl rX25_2 dX11_breaks_19 ?_
  refine V.getr (pc := 22) C fl_RX11_137 sX26 (kX26 hN) rfl rX26_2 dX11_breaks_22 ?_
  refine V.callV (pc := 25) (st := []) C (c_X6_seat l hN 28 sX28 (kX28 hN) m_2) obV ck_X6_seat ml_RX11_289 rfl rfl sX90 (kX90 hN) rfl rfl (Nat.le_of_ble_eq_true rfl) ⟨by decide, by decide⟩ dX11_breaks_25 (fun r_3 m_4 _ => ?_)
  refine V.aload_n (pc := 28) C dX11_breaks_28 0 rfl ?_
  refine V.getr (pc := 29) C fl_RX11_64 sX0 (kX0 hN) rfl rX0_10 dX11_breaks_29 ?_
  refine V.callV (pc := 32) (st := []) C (c_X6_firstBreak l hN m_4) obI ck_X6_firstBreak ml_RX11_293 rfl rfl sX90 (kX90 hN) rfl rfl (Nat.le_of_ble_eq_true rfl) ⟨by decide, by decide⟩ dX11_breaks_32 (fun r_5 m_6 _ => ?_)
  exact V.iret C dX11_breaks_35
theorem c_X11_breaks (l : Launch) {N : Nat} (hN : 109 ≤ N) (m : Mem) : Ct l yX11_breaks cX11_breaks 1 (some .int) 6 SX oI N N RX RX [.ref 0] m (X11_breaks   m) :=
  Ct.of (own := RX11) (nm := "breaks") (by decide) rfl rfl (Nat.le_of_ble_eq_true rfl) (fun _ _ _ _ _ _ _ _ _ _ _ C => v_X11_breaks C hN  m)
theorem dX4_ofTerm_0 : decode cX4_ofTerm 0 = .ok (.iconst (-1), 1) := by decide +kernel
theorem dX4_ofTerm_1 : decode cX4_ofTerm 1 = .ok (.iload_n 0, 1) := by decide +kernel
theorem dX4_ofTerm_2 : decode cX4_ofTerm 2 = .ok (.isub, 1) := by decide +kernel
theorem dX4_ofTerm_3 : decode cX4_ofTerm 3 = .ok (.ireturn, 1) := by decide +kernel
set_option maxRecDepth 100000 in
set_option maxHeartbeats 4000000 in
theorem v_X4_ofTerm {l : Launch} {p : Program} {e : Env} {s : State} {mt : MethodId} {args : Array Value} {below : List Frame} {meth : Method} {c : Code} {A : Nat → Prop} {ad0 : Nat → Nat} {G : Gt} {N : Nat} (C : Cx G p s mt args meth c RX4 cX4_ofTerm 1 (some .int) "ofTerm" A) (hN : 109 ≤ N) (x1 : Int32) (m : Mem) : V G SX oI l p e s mt args below meth c 1 1 A ad0 N N RX N RX 0 [(0, .int x1)] [] m (X4_ofTerm  x1 m) := by
  rw [X4_ofTerm]
  refine V.iconst (pc := 0) C dX4_ofTerm_0 (v := (-1)) (by decide) ?_
  refine V.iload_n (pc := 1) C dX4_ofTerm_1 0 rfl ?_
  refine V.isub (pc := 2) C dX4_ofTerm_2 ?_
  exact V.iret C dX4_ofTerm_3
theorem c_X4_ofTerm (l : Launch) {N : Nat} (hN : 109 ≤ N) (x1 : Int32) (m : Mem) : Ct l yX4_ofTerm cX4_ofTerm 1 (some .int) 1 SX oI N N RX RX [.int x1] m (X4_ofTerm  x1 m) :=
  Ct.of (own := RX4) (nm := "ofTerm") (by decide) rfl rfl (Nat.le_of_ble_eq_true rfl) (fun _ _ _ _ _ _ _ _ _ _ _ C => v_X4_ofTerm C hN x1 m)
theorem dX4_add_0 : decode cX4_add 0 = .ok (.aload_n 0, 1) := by decide +kernel
theorem dX4_add_1 : decode cX4_add 1 = .ok (.getfield 15, 3) := by decide +kernel
theorem dX4_add_4 : decode cX4_add 4 = .ok (.sipush 900, 3) := by decide +kernel
theorem dX4_add_7 : decode cX4_add 7 = .ok (.if_icmp .ge 23, 3) := by decide +kernel
theorem dX4_add_10 : decode cX4_add 10 = .ok (.aload_n 0, 1) := by decide +kernel
theorem dX4_add_11 : decode cX4_add 11 = .ok (.getfield 9, 3) := by decide +kernel
theorem dX4_add_14 : decode cX4_add 14 = .ok (.aload_n 0, 1) := by decide +kernel
theorem dX4_add_15 : decode cX4_add 15 = .ok (.getfield 15, 3) := by decide +kernel
theorem dX4_add_18 : decode cX4_add 18 = .ok (.iload_n 1, 1) := by decide +kernel
theorem dX4_add_19 : decode cX4_add 19 = .ok (.iastore, 1) := by decide +kernel
theorem dX4_add_20 : decode cX4_add 20 = .ok (.aload_n 0, 1) := by decide +kernel
theorem dX4_add_21 : decode cX4_add 21 = .ok (.dup, 1) := by decide +kernel
theorem dX4_add_22 : decode cX4_add 22 = .ok (.getfield 15, 3) := by decide +kernel
theorem dX4_add_25 : decode cX4_add 25 = .ok (.iconst 1, 1) := by decide +kernel
theorem dX4_add_26 : decode cX4_add 26 = .ok (.iadd, 1) := by decide +kernel
theorem dX4_add_27 : decode cX4_add 27 = .ok (.putfield 15, 3) := by decide +kernel
theorem dX4_add_30 : decode cX4_add 30 = .ok (.return_, 1) := by decide +kernel
set_option maxRecDepth 100000 in
set_option maxHeartbeats 4000000 in
theorem v_X4_add {l : Launch} {p : Program} {e : Env} {s : State} {mt : MethodId} {args : Array Value} {below : List Frame} {meth : Method} {c : Code} {A : Nat → Prop} {ad0 : Nat → Nat} {G : Gt} {N : Nat} (C : Cx G p s mt args meth c RX4 cX4_add 2 none "add" A) (hN : 109 ≤ N) (a : Nat) (ha : isLaw N a) (x1 : Int32) (m : Mem) : V G SX oV l p e s mt args below meth c 2 1 A ad0 N N RX N RX 0 [(0, .ref a), (1, .int x1)] [] m (X4_add a x1 m) := by
  rw [X4_add]
  refine V.aload_n (pc := 0) C dX4_add_0 0 rfl ?_
  refine V.geti (pc := 1) C fl_RX4_15 ha.s ha.k rfl dX4_add_1 ?_
  refine V.sipush (pc := 4) C dX4_add_4 (v := 900) (by decide) ?_
  refine V.icmp_ge (pc := 7) C dX4_add_7 30 (by decide) (fun _ => ?_) (fun _ => ?_)
  · exact V.vret C dX4_add_30
  · refine V.aload_n (pc := 10) C dX4_add_10 0 rfl ?_
    refine V.getr (pc := 11) C fl_RX4_9 ha.s ha.k rfl ha.r0 dX4_add_11 ?_
    refine V.aload_n (pc := 14) C dX4_add_14 0 rfl ?_
    refine V.geti (pc := 15) C fl_RX4_15 ha.s ha.k rfl dX4_add_15 ?_
    refine V.iload_n (pc := 18) C dX4_add_18 1 rfl ?_
    refine V.iast (pc := 19) C ha.s1 ha.k1 dX4_add_19 (fun _ => ?_)
    refine V.ltm (fun m_1 => ?_)
    refine V.aload_n (pc := 20) C dX4_add_20 0 rfl ?_
    refine V.dup (pc := 21) C dX4_add_21 rfl ?_
    refine V.geti (pc := 22) C fl_RX4_15 ha.s ha.k rfl dX4_add_22 ?_
    refine V.iconst (pc := 25) C dX4_add_25 (v := 1) (by decide) ?_
    refine V.iadd (pc := 26) C dX4_add_26 ?_
    refine V.puti (pc := 27) C fp_RX4_15 ha.s ha.k rfl dX4_add_27 ?_
    refine V.ltm (fun m_2 => ?_)
    exact V.vret C dX4_add_30
theorem c_X4_add (l : Launch) {N : Nat} (hN : 109 ≤ N) (a : Nat) (ha : isLaw N a) (x1 : Int32) (m : Mem) : Ct l yX4_add cX4_add 2 none 1 SX oV N N RX RX [.ref a, .int x1] m (X4_add a x1 m) :=
  Ct.of (own := RX4) (nm := "add") (by decide) rfl rfl (Nat.le_of_ble_eq_true rfl) (fun _ _ _ _ _ _ _ _ _ _ _ C => v_X4_add C hN a ha x1 m)
theorem dX8_setFirstLaws_0 : decode cX8_setFirstLaws 0 = .ok (.aload_n 0, 1) := by decide +kernel
theorem dX8_setFirstLaws_1 : decode cX8_setFirstLaws 1 = .ok (.getfield 21, 3) := by decide +kernel
theorem dX8_setFirstLaws_4 : decode cX8_setFirstLaws 4 = .ok (.iconst 0, 1) := by decide +kernel
theorem dX8_setFirstLaws_5 : decode cX8_setFirstLaws 5 = .ok (.putfield 47, 3) := by decide +kernel
theorem dX8_setFirstLaws_8 : decode cX8_setFirstLaws 8 = .ok (.aload_n 0, 1) := by decide +kernel
theorem dX8_setFirstLaws_9 : decode cX8_setFirstLaws 9 = .ok (.getfield 21, 3) := by decide +kernel
theorem dX8_setFirstLaws_12 : decode cX8_setFirstLaws 12 = .ok (.iconst 1, 1) := by decide +kernel
theorem dX8_setFirstLaws_13 : decode cX8_setFirstLaws 13 = .ok (.invokestatic 52, 3) := by decide +kernel
theorem dX8_setFirstLaws_16 : decode cX8_setFirstLaws 16 = .ok (.invokevirtual 56, 3) := by decide +kernel
theorem dX8_setFirstLaws_19 : decode cX8_setFirstLaws 19 = .ok (.aload_n 0, 1) := by decide +kernel
theorem dX8_setFirstLaws_20 : decode cX8_setFirstLaws 20 = .ok (.getfield 21, 3) := by decide +kernel
theorem dX8_setFirstLaws_23 : decode cX8_setFirstLaws 23 = .ok (.iconst 2, 1) := by decide +kernel
theorem dX8_setFirstLaws_24 : decode cX8_setFirstLaws 24 = .ok (.invokestatic 52, 3) := by decide +kernel
theorem dX8_setFirstLaws_27 : decode cX8_setFirstLaws 27 = .ok (.invokevirtual 56, 3) := by decide +kernel
theorem dX8_setFirstLaws_30 : decode cX8_setFirstLaws 30 = .ok (.aload_n 0, 1) := by decide +kernel
theorem dX8_setFirstLaws_31 : decode cX8_setFirstLaws 31 = .ok (.getfield 21, 3) := by decide +kernel
theorem dX8_setFirstLaws_34 : decode cX8_setFirstLaws 34 = .ok (.iconst 2, 1) := by decide +kernel
theorem dX8_setFirstLaws_35 : decode cX8_setFirstLaws 35 = .ok (.invokevirtual 56, 3) := by decide +kernel
theorem dX8_setFirstLaws_38 : decode cX8_setFirstLaws 38 = .ok (.aload_n 0, 1) := by decide +kernel
theorem dX8_setFirstLaws_39 : decode cX8_setFirstLaws 39 = .ok (.getfield 21, 3) := by decide +kernel
theorem dX8_setFirstLaws_42 : decode cX8_setFirstLaws 42 = .ok (.bipush (-10), 2) := by decide +kernel
theorem dX8_setFirstLaws_44 : decode cX8_setFirstLaws 44 = .ok (.invokevirtual 56, 3) := by decide +kernel
theorem dX8_setFirstLaws_47 : decode cX8_setFirstLaws 47 = .ok (.aload_n 0, 1) := by decide +kernel
theorem dX8_setFirstLaws_48 : decode cX8_setFirstLaws 48 = .ok (.getfield 21, 3) := by decide +kernel
theorem dX8_setFirstLaws_51 : decode cX8_setFirstLaws 51 = .ok (.bipush (-9), 2) := by decide +kernel
theorem dX8_setFirstLaws_53 : decode cX8_setFirstLaws 53 = .ok (.invokevirtual 56, 3) := by decide +kernel
theorem dX8_setFirstLaws_56 : decode cX8_setFirstLaws 56 = .ok (.aload_n 0, 1) := by decide +kernel
theorem dX8_setFirstLaws_57 : decode cX8_setFirstLaws 57 = .ok (.getfield 25, 3) := by decide +kernel
theorem dX8_setFirstLaws_60 : decode cX8_setFirstLaws 60 = .ok (.iconst 0, 1) := by decide +kernel
theorem dX8_setFirstLaws_61 : decode cX8_setFirstLaws 61 = .ok (.putfield 47, 3) := by decide +kernel
theorem dX8_setFirstLaws_64 : decode cX8_setFirstLaws 64 = .ok (.aload_n 0, 1) := by decide +kernel
theorem dX8_setFirstLaws_65 : decode cX8_setFirstLaws 65 = .ok (.getfield 25, 3) := by decide +kernel
theorem dX8_setFirstLaws_68 : decode cX8_setFirstLaws 68 = .ok (.iconst 1, 1) := by decide +kernel
theorem dX8_setFirstLaws_69 : decode cX8_setFirstLaws 69 = .ok (.invokevirtual 56, 3) := by decide +kernel
theorem dX8_setFirstLaws_72 : decode cX8_setFirstLaws 72 = .ok (.return_, 1) := by decide +kernel
set_option maxRecDepth 100000 in
set_option maxHeartbeats 4000000 in
theorem v_X8_setFirstLaws {l : Launch} {p : Program} {e : Env} {s : State} {mt : MethodId} {args : Array Value} {below : List Frame} {meth : Method} {c : Code} {A : Nat → Prop} {ad0 : Nat → Nat} {G : Gt} {N : Nat} (C : Cx G p s mt args meth c RX8 cX8_setFirstLaws 1 none "setFirstLaws" A) (hN : 109 ≤ N) (a : Nat) (ha : isRules N a) (m : Mem) : V G SX oV l p e s mt args below meth c 1 2 A ad0 N N RX N RX 0 [(0, .ref a)] [] m (X8_setFirstLaws a  m) := by
  rw [X8_setFirstLaws]
  refine V.aload_n (pc := 0) C dX8_setFirstLaws_0 0 rfl ?_
  refine V.getr (pc := 1) C fl_RX8_21 ha.s ha.k rfl ha.r7 dX8_setFirstLaws_1 ?_
  refine V.iconst (pc := 4) C dX8_setFirstLaws_4 (v := 0) (by decide) ?_
  refine V.puti (pc := 5) C fp_RX8_47 ha.l7.s ha.l7.k rfl dX8_setFirstLaws_5 ?_
  refine V.ltm (fun m_1 => ?_)
  refine V.aload_n (pc := 8) C dX8_setFirstLaws_8 0 rfl ?_
  refine V.getr (pc := 9) C fl_RX8_21 ha.s ha.k rfl ha.r7 dX8_setFirstLaws_9 ?_
  refine V.iconst (pc := 12) C dX8_setFirstLaws_12 (v := 1) (by decide) ?_
  refine V.callS (pc := 13) (st := [.ref (a + 3)]) C (c_X4_ofTerm l hN 1 m_1) obI ck_X4_ofTerm ml_RX8_52 rfl rfl (Nat.le_of_ble_eq_true rfl) ⟨by decide, by decide⟩ dX8_setFirstLaws_13 (fun r_2 m_3 _ => ?_)
  refine V.callV (pc := 16) (st := []) C (c_X4_add l hN (a + 3) ha.l7 r_2 m_3) obV ck_X4_add ml_RX8_56 rfl rfl ha.l7.s ha.l7.k rfl rfl (Nat.le_of_ble_eq_true rfl) ⟨by decide, by decide⟩ dX8_setFirstLaws_16 (fun r_4 m_5 _ => ?_)
  refine V.aload_n (pc := 19) C dX8_setFirstLaws_19 0 rfl ?_
  refine V.getr (pc := 20) C fl_RX8_21 ha.s ha.k rfl ha.r7 dX8_setFirstLaws_20 ?_
  refine V.iconst (pc := 23) C dX8_setFirstLaws_23 (v := 2) (by decide) ?_
  refine V.callS (pc := 24) (st := [.ref (a + 3)]) C (c_X4_ofTerm l hN 2 m_5) obI ck_X4_ofTerm ml_RX8_52 rfl rfl (Nat.le_of_ble_eq_true rfl) ⟨by decide, by decide⟩ dX8_setFirstLaws_24 (fun r_6 m_7 _ => ?_)
  refine V.callV (pc := 27) (st := []) C (c_X4_add l hN (a + 3) ha.l7 r_6 m_7) obV ck_X4_add ml_RX8_56 rfl rfl ha.l7.s ha.l7.k rfl rfl (Nat.le_of_ble_eq_true rfl) ⟨by decide, by decide⟩ dX8_setFirstLaws_27 (fun r_8 m_9 _ => ?_)
  refine V.aload_n (pc := 30) C dX8_setFirstLaws_30 0 rfl ?_
  refine V.getr (pc := 31) C fl_RX8_21 ha.s ha.k rfl ha.r7 dX8_setFirstLaws_31 ?_
  refine V.iconst (pc := 34) C dX8_setFirstLaws_34 (v := 2) (by decide) ?_
  refine V.callV (pc := 35) (st := []) C (c_X4_add l hN (a + 3) ha.l7 2 m_9) obV ck_X4_add ml_RX8_56 rfl rfl ha.l7.s ha.l7.k rfl rfl (Nat.le_of_ble_eq_true rfl) ⟨by decide, by decide⟩ dX8_setFirstLaws_35 (fun r_10 m_11 _ => ?_)
  refine V.aload_n (pc := 38) C dX8_setFirstLaws_38 0 rfl ?_
  refine V.getr (pc := 39) C fl_RX8_21 ha.s ha.k rfl ha.r7 dX8_setFirstLaws_39 ?_
  refine V.bipush (pc := 42) C dX8_setFirstLaws_42 (v := (-10)) (by decide) ?_
  refine V.callV (pc := 44) (st := []) C (c_X4_add l hN (a + 3) ha.l7 (-10) m_11) obV ck_X4_add ml_RX8_56 rfl rfl ha.l7.s ha.l7.k rfl rfl (Nat.le_of_ble_eq_true rfl) ⟨by decide, by decide⟩ dX8_setFirstLaws_44 (fun r_12 m_13 _ => ?_)
  refine V.aload_n (pc := 47) C dX8_setFirstLaws_47 0 rfl ?_
  refine V.getr (pc := 48) C fl_RX8_21 ha.s ha.k rfl ha.r7 dX8_setFirstLaws_48 ?_
  refine V.bipush (pc := 51) C dX8_setFirstLaws_51 (v := (-9)) (by decide) ?_
  refine V.callV (pc := 53) (st := []) C (c_X4_add l hN (a + 3) ha.l7 (-9) m_13) obV ck_X4_add ml_RX8_56 rfl rfl ha.l7.s ha.l7.k rfl rfl (Nat.le_of_ble_eq_true rfl) ⟨by decide, by decide⟩ dX8_setFirstLaws_53 (fun r_14 m_15 _ => ?_)
  refine V.aload_n (pc := 56) C dX8_setFirstLaws_56 0 rfl ?_
  refine V.getr (pc := 57) C fl_RX8_25 ha.s ha.k rfl ha.r8 dX8_setFirstLaws_57 ?_
  refine V.iconst (pc := 60) C dX8_setFirstLaws_60 (v := 0) (by decide) ?_
  refine V.puti (pc := 61) C fp_RX8_47 ha.l8.s ha.l8.k rfl dX8_setFirstLaws_61 ?_
  refine V.ltm (fun m_16 => ?_)
  refine V.aload_n (pc := 64) C dX8_setFirstLaws_64 0 rfl ?_
  refine V.getr (pc := 65) C fl_RX8_25 ha.s ha.k rfl ha.r8 dX8_setFirstLaws_65 ?_
  refine V.iconst (pc := 68) C dX8_setFirstLaws_68 (v := 1) (by decide) ?_
  refine V.callV (pc := 69) (st := []) C (c_X4_add l hN (a + 5) ha.l8 1 m_16) obV ck_X4_add ml_RX8_56 rfl rfl ha.l8.s ha.l8.k rfl rfl (Nat.le_of_ble_eq_true rfl) ⟨by decide, by decide⟩ dX8_setFirstLaws_69 (fun r_17 m_18 _ => ?_)
  exact V.vret C dX8_setFirstLaws_72
theorem c_X8_setFirstLaws (l : Launch) {N : Nat} (hN : 109 ≤ N) (a : Nat) (ha : isRules N a) (m : Mem) : Ct l yX8_setFirstLaws cX8_setFirstLaws 1 none 2 SX oV N N RX RX [.ref a] m (X8_setFirstLaws a  m) :=
  Ct.of (own := RX8) (nm := "setFirstLaws") (by decide) rfl rfl (Nat.le_of_ble_eq_true rfl) (fun _ _ _ _ _ _ _ _ _ _ _ C => v_X8_setFirstLaws C hN a ha  m)
theorem dX8_clear_0 : decode cX8_clear 0 = .ok (.aload_n 0, 1) := by decide +kernel
theorem dX8_clear_1 : decode cX8_clear 1 = .ok (.iconst 0, 1) := by decide +kernel
theorem dX8_clear_2 : decode cX8_clear 2 = .ok (.putfield 38, 3) := by decide +kernel
theorem dX8_clear_5 : decode cX8_clear 5 = .ok (.aload_n 0, 1) := by decide +kernel
theorem dX8_clear_6 : decode cX8_clear 6 = .ok (.iconst 0, 1) := by decide +kernel
theorem dX8_clear_7 : decode cX8_clear 7 = .ok (.putfield 41, 3) := by decide +kernel
theorem dX8_clear_10 : decode cX8_clear 10 = .ok (.aload_n 0, 1) := by decide +kernel
theorem dX8_clear_11 : decode cX8_clear 11 = .ok (.iconst 0, 1) := by decide +kernel
theorem dX8_clear_12 : decode cX8_clear 12 = .ok (.putfield 44, 3) := by decide +kernel
theorem dX8_clear_15 : decode cX8_clear 15 = .ok (.aload_n 0, 1) := by decide +kernel
theorem dX8_clear_16 : decode cX8_clear 16 = .ok (.bipush 10, 2) := by decide +kernel
theorem dX8_clear_18 : decode cX8_clear 18 = .ok (.putfield 28, 3) := by decide +kernel
theorem dX8_clear_21 : decode cX8_clear 21 = .ok (.aload_n 0, 1) := by decide +kernel
theorem dX8_clear_22 : decode cX8_clear 22 = .ok (.bipush 14, 2) := by decide +kernel
theorem dX8_clear_24 : decode cX8_clear 24 = .ok (.putfield 32, 3) := by decide +kernel
theorem dX8_clear_27 : decode cX8_clear 27 = .ok (.aload_n 0, 1) := by decide +kernel
theorem dX8_clear_28 : decode cX8_clear 28 = .ok (.invokevirtual 35, 3) := by decide +kernel
theorem dX8_clear_31 : decode cX8_clear 31 = .ok (.return_, 1) := by decide +kernel
set_option maxRecDepth 100000 in
set_option maxHeartbeats 4000000 in
theorem v_X8_clear {l : Launch} {p : Program} {e : Env} {s : State} {mt : MethodId} {args : Array Value} {below : List Frame} {meth : Method} {c : Code} {A : Nat → Prop} {ad0 : Nat → Nat} {G : Gt} {N : Nat} (C : Cx G p s mt args meth c RX8 cX8_clear 1 none "clear" A) (hN : 109 ≤ N) (a : Nat) (ha : isRules N a) (m : Mem) : V G SX oV l p e s mt args below meth c 1 3 A ad0 N N RX N RX 0 [(0, .ref a)] [] m (X8_clear a  m) := by
  rw [X8_clear]
  refine V.aload_n (pc := 0) C dX8_clear_0 0 rfl ?_
  refine V.iconst (pc := 1) C dX8_clear_1 (v := 0) (by decide) ?_
  refine V.puti (pc := 2) C fp_RX8_38 ha.s ha.k rfl dX8_clear_2 ?_
  refine V.ltm (fun m_1 => ?_)
  refine V.aload_n (pc := 5) C dX8_clear_5 0 rfl ?_
  refine V.iconst (pc := 6) C dX8_clear_6 (v := 0) (by decide) ?_
  refine V.puti (pc := 7) C fp_RX8_41 ha.s ha.k rfl dX8_clear_7 ?_
  refine V.ltm (fun m_2 => ?_)
  refine V.aload_n (pc := 10) C dX8_clear_10 0 rfl ?_
  refine V.iconst (pc := 11) C dX8_clear_11 (v := 0) (by decide) ?_
  refine V.puti (pc := 12) C fp_RX8_44 ha.s ha.k rfl dX8_clear_12 ?_
  refine V.ltm (fun m_3 => ?_)
  refine V.aload_n (pc := 15) C dX8_clear_15 0 rfl ?_
  refine V.bipush (pc := 16) C dX8_clear_16 (v := 10) (by decide) ?_
  refine V.puti (pc := 18) C fp_RX8_28 ha.s ha.k rfl dX8_clear_18 ?_
  refine V.ltm (fun m_4 => ?_)
  refine V.aload_n (pc := 21) C dX8_clear_21 0 rfl ?_
  refine V.bipush (pc := 22) C dX8_clear_22 (v := 14) (by decide) ?_
  refine V.puti (pc := 24) C fp_RX8_32 ha.s ha.k rfl dX8_clear_24 ?_
  refine V.ltm (fun m_5 => ?_)
  refine V.aload_n (pc := 27) C dX8_clear_27 0 rfl ?_
  refine V.callV (pc := 28) (st := []) C (c_X8_setFirstLaws l hN a ha m_5) obV ck_X8_setFirstLaws ml_RX8_35 rfl rfl ha.s ha.k rfl rfl (Nat.le_of_ble_eq_true rfl) ⟨by decide, by decide⟩ dX8_clear_28 (fun r_6 m_7 _ => ?_)
  exact V.vret C dX8_clear_31
theorem c_X8_clear (l : Launch) {N : Nat} (hN : 109 ≤ N) (a : Nat) (ha : isRules N a) (m : Mem) : Ct l yX8_clear cX8_clear 1 none 3 SX oV N N RX RX [.ref a] m (X8_clear a  m) :=
  Ct.of (own := RX8) (nm := "clear") (by decide) rfl rfl (Nat.le_of_ble_eq_true rfl) (fun _ _ _ _ _ _ _ _ _ _ _ C => v_X8_clear C hN a ha  m)
theorem dX5_clear_0 : decode cX5_clear 0 = .ok (.aload_n 0, 1) := by decide +kernel
theorem dX5_clear_1 : decode cX5_clear 1 = .ok (.iconst 0, 1) := by decide +kernel
theorem dX5_clear_2 : decode cX5_clear 2 = .ok (.putfield 27, 3) := by decide +kernel
theorem dX5_clear_5 : decode cX5_clear 5 = .ok (.iconst 0, 1) := by decide +kernel
theorem dX5_clear_6 : decode cX5_clear 6 = .ok (.istore_n 1, 1) := by decide +kernel
theorem dX5_clear_7 : decode cX5_clear 7 = .ok (.iload_n 1, 1) := by decide +kernel
theorem dX5_clear_8 : decode cX5_clear 8 = .ok (.bipush 8, 2) := by decide +kernel
theorem dX5_clear_10 : decode cX5_clear 10 = .ok (.if_icmp .ge 30, 3) := by decide +kernel
theorem dX5_clear_13 : decode cX5_clear 13 = .ok (.aload_n 0, 1) := by decide +kernel
theorem dX5_clear_14 : decode cX5_clear 14 = .ok (.getfield 9, 3) := by decide +kernel
theorem dX5_clear_17 : decode cX5_clear 17 = .ok (.iload_n 1, 1) := by decide +kernel
theorem dX5_clear_18 : decode cX5_clear 18 = .ok (.iconst 0, 1) := by decide +kernel
theorem dX5_clear_19 : decode cX5_clear 19 = .ok (.iastore, 1) := by decide +kernel
theorem dX5_clear_20 : decode cX5_clear 20 = .ok (.aload_n 0, 1) := by decide +kernel
theorem dX5_clear_21 : decode cX5_clear 21 = .ok (.getfield 15, 3) := by decide +kernel
theorem dX5_clear_24 : decode cX5_clear 24 = .ok (.iload_n 1, 1) := by decide +kernel
theorem dX5_clear_25 : decode cX5_clear 25 = .ok (.iconst (-1), 1) := by decide +kernel
theorem dX5_clear_26 : decode cX5_clear 26 = .ok (.iastore, 1) := by decide +kernel
theorem dX5_clear_27 : decode cX5_clear 27 = .ok (.aload_n 0, 1) := by decide +kernel
theorem dX5_clear_28 : decode cX5_clear 28 = .ok (.getfield 18, 3) := by decide +kernel
theorem dX5_clear_31 : decode cX5_clear 31 = .ok (.iload_n 1, 1) := by decide +kernel
theorem dX5_clear_32 : decode cX5_clear 32 = .ok (.iconst 0, 1) := by decide +kernel
theorem dX5_clear_33 : decode cX5_clear 33 = .ok (.iastore, 1) := by decide +kernel
theorem dX5_clear_34 : decode cX5_clear 34 = .ok (.iinc 1 1, 3) := by decide +kernel
theorem dX5_clear_37 : decode cX5_clear 37 = .ok (.goto (-30), 3) := by decide +kernel
theorem dX5_clear_40 : decode cX5_clear 40 = .ok (.iconst 0, 1) := by decide +kernel
theorem dX5_clear_41 : decode cX5_clear 41 = .ok (.istore_n 1, 1) := by decide +kernel
theorem dX5_clear_42 : decode cX5_clear 42 = .ok (.iload_n 1, 1) := by decide +kernel
theorem dX5_clear_43 : decode cX5_clear 43 = .ok (.bipush 14, 2) := by decide +kernel
theorem dX5_clear_45 : decode cX5_clear 45 = .ok (.if_icmp .ge 16, 3) := by decide +kernel
theorem dX5_clear_48 : decode cX5_clear 48 = .ok (.aload_n 0, 1) := by decide +kernel
theorem dX5_clear_49 : decode cX5_clear 49 = .ok (.getfield 21, 3) := by decide +kernel
theorem dX5_clear_52 : decode cX5_clear 52 = .ok (.iload_n 1, 1) := by decide +kernel
theorem dX5_clear_53 : decode cX5_clear 53 = .ok (.iconst 0, 1) := by decide +kernel
theorem dX5_clear_54 : decode cX5_clear 54 = .ok (.iastore, 1) := by decide +kernel
theorem dX5_clear_55 : decode cX5_clear 55 = .ok (.iinc 1 1, 3) := by decide +kernel
theorem dX5_clear_58 : decode cX5_clear 58 = .ok (.goto (-16), 3) := by decide +kernel
theorem dX5_clear_61 : decode cX5_clear 61 = .ok (.return_, 1) := by decide +kernel
set_option maxRecDepth 100000 in
set_option maxHeartbeats 4000000 in
theorem v_X5_clear_b42 {l : Launch} {p : Program} {e : Env} {s : State} {mt : MethodId} {args : Array Value} {below : List Frame} {meth : Method} {c : Code} {A : Nat → Prop} {ad0 : Nat → Nat} {G : Gt} {N : Nat} (C : Cx G p s mt args meth c RX5 cX5_clear 2 none "clear" A) (hN : 109 ≤ N) (a : Nat) (ha : isLife N a) : ∀ (n : Nat) (y1 : Int32) (m : Mem), V G SX oV l p e s mt args below meth c 2 1 A ad0 N N RX N RX 42 [(0, .ref a), (1, .int y1)] [] m (X5_clear_b42 a n y1 m) := by
  intro n
  induction n with
  | zero =>
    intro y1 m
    rw [X5_clear_b42]
    exact V.nil
  | succ n ih =>
    intro y1 m
    rw [X5_clear_b42]
    refine V.iload_n (pc := 42) C dX5_clear_42 1 rfl ?_
    refine V.bipush (pc := 43) C dX5_clear_43 (v := 14) (by decide) ?_
    refine V.icmp_ge (pc := 45) C dX5_clear_45 61 (by decide) (fun _ => ?_) (fun _ => ?_)
    · exact V.vret C dX5_clear_61
    · refine V.aload_n (pc := 48) C dX5_clear_48 0 rfl ?_
      refine V.getr (pc := 49) C fl_RX5_21 ha.s ha.k rfl ha.r4 dX5_clear_49 ?_
      refine V.iload_n (pc := 52) C dX5_clear_52 1 rfl ?_
      refine V.iconst (pc := 53) C dX5_clear_53 (v := 0) (by decide) ?_
      refine V.iast (pc := 54) C ha.s4 ha.k4 dX5_clear_54 (fun _ => ?_)
      refine V.ltm (fun m_2 => ?_)
      refine V.iinc (pc := 55) C dX5_clear_55 (v := 1) (L2 := [(1, .int (y1 + 1)), (0, .ref a)]) 1 rfl (by decide) (by decide) rfl ?_
      refine V.goto (pc := 58) C dX5_clear_58 42 (by decide) ?_
      refine V.wk [1, 0] rfl ?_
      exact ih (y1 + 1) m_2
set_option maxRecDepth 100000 in
set_option maxHeartbeats 4000000 in
theorem v_X5_clear_b7 {l : Launch} {p : Program} {e : Env} {s : State} {mt : MethodId} {args : Array Value} {below : List Frame} {meth : Method} {c : Code} {A : Nat → Prop} {ad0 : Nat → Nat} {G : Gt} {N : Nat} (C : Cx G p s mt args meth c RX5 cX5_clear 2 none "clear" A) (hN : 109 ≤ N) (a : Nat) (ha : isLife N a) : ∀ (n : Nat) (y1 : Int32) (m : Mem), V G SX oV l p e s mt args below meth c 2 1 A ad0 N N RX N RX 7 [(0, .ref a), (1, .int y1)] [] m (X5_clear_b7 a n y1 m) := by
  intro n
  induction n with
  | zero =>
    intro y1 m
    rw [X5_clear_b7]
    exact V.nil
  | succ n ih =>
    intro y1 m
    rw [X5_clear_b7]
    refine V.iload_n (pc := 7) C dX5_clear_7 1 rfl ?_
    refine V.bipush (pc := 8) C dX5_clear_8 (v := 8) (by decide) ?_
    refine V.icmp_ge (pc := 10) C dX5_clear_10 40 (by decide) (fun _ => ?_) (fun _ => ?_)
    · refine V.iconst (pc := 40) C dX5_clear_40 (v := 0) (by decide) ?_
      refine V.istore_n (pc := 41) C dX5_clear_41 (L2 := [(1, .int 0), (0, .ref a)]) (by decide) rfl ?_
      refine V.wk [1, 0] rfl ?_
      exact v_X5_clear_b42 C hN a ha FU 0 m
    · refine V.aload_n (pc := 13) C dX5_clear_13 0 rfl ?_
      refine V.getr (pc := 14) C fl_RX5_9 ha.s ha.k rfl ha.r1 dX5_clear_14 ?_
      refine V.iload_n (pc := 17) C dX5_clear_17 1 rfl ?_
      refine V.iconst (pc := 18) C dX5_clear_18 (v := 0) (by decide) ?_
      refine V.iast (pc := 19) C ha.s1 ha.k1 dX5_clear_19 (fun _ => ?_)
      refine V.ltm (fun m_3 => ?_)
      refine V.aload_n (pc := 20) C dX5_clear_20 0 rfl ?_
      refine V.getr (pc := 21) C fl_RX5_15 ha.s ha.k rfl ha.r2 dX5_clear_21 ?_
      refine V.iload_n (pc := 24) C dX5_clear_24 1 rfl ?_
      refine V.iconst (pc := 25) C dX5_clear_25 (v := (-1)) (by decide) ?_
      refine V.iast (pc := 26) C ha.s2 ha.k2 dX5_clear_26 (fun _ => ?_)
      refine V.ltm (fun m_4 => ?_)
      refine V.aload_n (pc := 27) C dX5_clear_27 0 rfl ?_
      refine V.getr (pc := 28) C fl_RX5_18 ha.s ha.k rfl ha.r3 dX5_clear_28 ?_
      refine V.iload_n (pc := 31) C dX5_clear_31 1 rfl ?_
      refine V.iconst (pc := 32) C dX5_clear_32 (v := 0) (by decide) ?_
      refine V.iast (pc := 33) C ha.s3 ha.k3 dX5_clear_33 (fun _ => ?_)
      refine V.ltm (fun m_5 => ?_)
      refine V.iinc (pc := 34) C dX5_clear_34 (v := 1) (L2 := [(1, .int (y1 + 1)), (0, .ref a)]) 1 rfl (by decide) (by decide) rfl ?_
      refine V.goto (pc := 37) C dX5_clear_37 7 (by decide) ?_
      refine V.wk [1, 0] rfl ?_
      exact ih (y1 + 1) m_5
set_option maxRecDepth 100000 in
set_option maxHeartbeats 4000000 in
theorem v_X5_clear {l : Launch} {p : Program} {e : Env} {s : State} {mt : MethodId} {args : Array Value} {below : List Frame} {meth : Method} {c : Code} {A : Nat → Prop} {ad0 : Nat → Nat} {G : Gt} {N : Nat} (C : Cx G p s mt args meth c RX5 cX5_clear 2 none "clear" A) (hN : 109 ≤ N) (a : Nat) (ha : isLife N a) (m : Mem) : V G SX oV l p e s mt args below meth c 2 1 A ad0 N N RX N RX 0 [(0, .ref a)] [] m (X5_clear a  m) := by
  rw [X5_clear]
  refine V.aload_n (pc := 0) C dX5_clear_0 0 rfl ?_
  refine V.iconst (pc := 1) C dX5_clear_1 (v := 0) (by decide) ?_
  refine V.puti (pc := 2) C fp_RX5_27 ha.s ha.k rfl dX5_clear_2 ?_
  refine V.ltm (fun m_1 => ?_)
  refine V.iconst (pc := 5) C dX5_clear_5 (v := 0) (by decide) ?_
  refine V.istore_n (pc := 6) C dX5_clear_6 (L2 := [(1, .int 0), (0, .ref a)]) (by decide) rfl ?_
  refine V.wk [1, 0] rfl ?_
  exact v_X5_clear_b7 C hN a ha FU 0 m_1
theorem c_X5_clear (l : Launch) {N : Nat} (hN : 109 ≤ N) (a : Nat) (ha : isLife N a) (m : Mem) : Ct l yX5_clear cX5_clear 2 none 1 SX oV N N RX RX [.ref a] m (X5_clear a  m) :=
  Ct.of (own := RX5) (nm := "clear") (by decide) rfl rfl (Nat.le_of_ble_eq_true rfl) (fun _ _ _ _ _ _ _ _ _ _ _ C => v_X5_clear C hN a ha  m)
theorem dX7_isLetter_0 : decode cX7_isLetter 0 = .ok (.iload_n 0, 1) := by decide +kernel
theorem dX7_isLetter_1 : decode cX7_isLetter 1 = .ok (.bipush 97, 2) := by decide +kernel
theorem dX7_isLetter_3 : decode cX7_isLetter 3 = .ok (.if_icmp .lt 13, 3) := by decide +kernel
theorem dX7_isLetter_6 : decode cX7_isLetter 6 = .ok (.iload_n 0, 1) := by decide +kernel
theorem dX7_isLetter_7 : decode cX7_isLetter 7 = .ok (.bipush 122, 2) := by decide +kernel
theorem dX7_isLetter_9 : decode cX7_isLetter 9 = .ok (.if_icmp .gt 7, 3) := by decide +kernel
theorem dX7_isLetter_12 : decode cX7_isLetter 12 = .ok (.iconst 1, 1) := by decide +kernel
theorem dX7_isLetter_13 : decode cX7_isLetter 13 = .ok (.goto 4, 3) := by decide +kernel
theorem dX7_isLetter_16 : decode cX7_isLetter 16 = .ok (.iconst 0, 1) := by decide +kernel
theorem dX7_isLetter_17 : decode cX7_isLetter 17 = .ok (.ireturn, 1) := by decide +kernel
set_option maxRecDepth 100000 in
set_option maxHeartbeats 4000000 in
theorem v_X7_isLetter {l : Launch} {p : Program} {e : Env} {s : State} {mt : MethodId} {args : Array Value} {below : List Frame} {meth : Method} {c : Code} {A : Nat → Prop} {ad0 : Nat → Nat} {G : Gt} {N : Nat} (C : Cx G p s mt args meth c RX7 cX7_isLetter 1 (some .boolean) "isLetter" A) (hN : 109 ≤ N) (x1 : Int32) (m : Mem) : V G SX oI l p e s mt args below meth c 1 1 A ad0 N N RX N RX 0 [(0, .int x1)] [] m (X7_isLetter  x1 m) := by
  rw [X7_isLetter]
  refine V.iload_n (pc := 0) C dX7_isLetter_0 0 rfl ?_
  refine V.bipush (pc := 1) C dX7_isLetter_1 (v := 97) (by decide) ?_
  refine V.icmp_lt (pc := 3) C dX7_isLetter_3 16 (by decide) (fun _ => ?_) (fun _ => ?_)
  · refine V.iconst (pc := 16) C dX7_isLetter_16 (v := 0) (by decide) ?_
    exact V.zret rfl C dX7_isLetter_17
  · refine V.iload_n (pc := 6) C dX7_isLetter_6 0 rfl ?_
    refine V.bipush (pc := 7) C dX7_isLetter_7 (v := 122) (by decide) ?_
    refine V.icmp_gt (pc := 9) C dX7_isLetter_9 16 (by decide) (fun _ => ?_) (fun _ => ?_)
    · refine V.iconst (pc := 16) C dX7_isLetter_16 (v := 0) (by decide) ?_
      exact V.zret rfl C dX7_isLetter_17
    · refine V.iconst (pc := 12) C dX7_isLetter_12 (v := 1) (by decide) ?_
      refine V.goto (pc := 13) C dX7_isLetter_13 17 (by decide) ?_
      exact V.zret rfl C dX7_isLetter_17
theorem c_X7_isLetter (l : Launch) {N : Nat} (hN : 109 ≤ N) (x1 : Int32) (m : Mem) : Ct l yX7_isLetter cX7_isLetter 1 (some .boolean) 1 SX oI N N RX RX [.int x1] m (X7_isLetter  x1 m) :=
  Ct.of (own := RX7) (nm := "isLetter") (by decide) rfl rfl (Nat.le_of_ble_eq_true rfl) (fun _ _ _ _ _ _ _ _ _ _ _ C => v_X7_isLetter C hN x1 m)
theorem dX7_isDigit_0 : decode cX7_isDigit 0 = .ok (.iload_n 0, 1) := by decide +kernel
theorem dX7_isDigit_1 : decode cX7_isDigit 1 = .ok (.bipush 48, 2) := by decide +kernel
theorem dX7_isDigit_3 : decode cX7_isDigit 3 = .ok (.if_icmp .lt 13, 3) := by decide +kernel
theorem dX7_isDigit_6 : decode cX7_isDigit 6 = .ok (.iload_n 0, 1) := by decide +kernel
theorem dX7_isDigit_7 : decode cX7_isDigit 7 = .ok (.bipush 57, 2) := by decide +kernel
theorem dX7_isDigit_9 : decode cX7_isDigit 9 = .ok (.if_icmp .gt 7, 3) := by decide +kernel
theorem dX7_isDigit_12 : decode cX7_isDigit 12 = .ok (.iconst 1, 1) := by decide +kernel
theorem dX7_isDigit_13 : decode cX7_isDigit 13 = .ok (.goto 4, 3) := by decide +kernel
theorem dX7_isDigit_16 : decode cX7_isDigit 16 = .ok (.iconst 0, 1) := by decide +kernel
theorem dX7_isDigit_17 : decode cX7_isDigit 17 = .ok (.ireturn, 1) := by decide +kernel
set_option maxRecDepth 100000 in
set_option maxHeartbeats 4000000 in
theorem v_X7_isDigit {l : Launch} {p : Program} {e : Env} {s : State} {mt : MethodId} {args : Array Value} {below : List Frame} {meth : Method} {c : Code} {A : Nat → Prop} {ad0 : Nat → Nat} {G : Gt} {N : Nat} (C : Cx G p s mt args meth c RX7 cX7_isDigit 1 (some .boolean) "isDigit" A) (hN : 109 ≤ N) (x1 : Int32) (m : Mem) : V G SX oI l p e s mt args below meth c 1 1 A ad0 N N RX N RX 0 [(0, .int x1)] [] m (X7_isDigit  x1 m) := by
  rw [X7_isDigit]
  refine V.iload_n (pc := 0) C dX7_isDigit_0 0 rfl ?_
  refine V.bipush (pc := 1) C dX7_isDigit_1 (v := 48) (by decide) ?_
  refine V.icmp_lt (pc := 3) C dX7_isDigit_3 16 (by decide) (fun _ => ?_) (fun _ => ?_)
  · refine V.iconst (pc := 16) C dX7_isDigit_16 (v := 0) (by decide) ?_
    exact V.zret rfl C dX7_isDigit_17
  · refine V.iload_n (pc := 6) C dX7_isDigit_6 0 rfl ?_
    refine V.bipush (pc := 7) C dX7_isDigit_7 (v := 57) (by decide) ?_
    refine V.icmp_gt (pc := 9) C dX7_isDigit_9 16 (by decide) (fun _ => ?_) (fun _ => ?_)
    · refine V.iconst (pc := 16) C dX7_isDigit_16 (v := 0) (by decide) ?_
      exact V.zret rfl C dX7_isDigit_17
    · refine V.iconst (pc := 12) C dX7_isDigit_12 (v := 1) (by decide) ?_
      refine V.goto (pc := 13) C dX7_isDigit_13 17 (by decide) ?_
      exact V.zret rfl C dX7_isDigit_17
theorem c_X7_isDigit (l : Launch) {N : Nat} (hN : 109 ≤ N) (x1 : Int32) (m : Mem) : Ct l yX7_isDigit cX7_isDigit 1 (some .boolean) 1 SX oI N N RX RX [.int x1] m (X7_isDigit  x1 m) :=
  Ct.of (own := RX7) (nm := "isDigit") (by decide) rfl rfl (Nat.le_of_ble_eq_true rfl) (fun _ _ _ _ _ _ _ _ _ _ _ C => v_X7_isDigit C hN x1 m)
theorem dX7_next_0 : decode cX7_next 0 = .ok (.aload_n 0, 1) := by decide +kernel
theorem dX7_next_1 : decode cX7_next 1 = .ok (.aload_n 0, 1) := by decide +kernel
theorem dX7_next_2 : decode cX7_next 2 = .ok (.getfield 54, 3) := by decide +kernel
theorem dX7_next_5 : decode cX7_next 5 = .ok (.putfield 207, 3) := by decide +kernel
theorem dX7_next_8 : decode cX7_next 8 = .ok (.aload_n 0, 1) := by decide +kernel
theorem dX7_next_9 : decode cX7_next 9 = .ok (.getfield 207, 3) := by decide +kernel
theorem dX7_next_12 : decode cX7_next 12 = .ok (.aload_n 0, 1) := by decide +kernel
theorem dX7_next_13 : decode cX7_next 13 = .ok (.getfield 42, 3) := by decide +kernel
theorem dX7_next_16 : decode cX7_next 16 = .ok (.if_icmp .ge 44, 3) := by decide +kernel
theorem dX7_next_19 : decode cX7_next 19 = .ok (.aload_n 0, 1) := by decide +kernel
theorem dX7_next_20 : decode cX7_next 20 = .ok (.getfield 9, 3) := by decide +kernel
theorem dX7_next_23 : decode cX7_next 23 = .ok (.aload_n 0, 1) := by decide +kernel
theorem dX7_next_24 : decode cX7_next 24 = .ok (.getfield 207, 3) := by decide +kernel
theorem dX7_next_27 : decode cX7_next 27 = .ok (.baload, 1) := by decide +kernel
theorem dX7_next_28 : decode cX7_next 28 = .ok (.bipush 32, 2) := by decide +kernel
theorem dX7_next_30 : decode cX7_next 30 = .ok (.if_icmp .eq 17, 3) := by decide +kernel
theorem dX7_next_33 : decode cX7_next 33 = .ok (.aload_n 0, 1) := by decide +kernel
theorem dX7_next_34 : decode cX7_next 34 = .ok (.getfield 9, 3) := by decide +kernel
theorem dX7_next_37 : decode cX7_next 37 = .ok (.aload_n 0, 1) := by decide +kernel
theorem dX7_next_38 : decode cX7_next 38 = .ok (.getfield 207, 3) := by decide +kernel
theorem dX7_next_41 : decode cX7_next 41 = .ok (.baload, 1) := by decide +kernel
theorem dX7_next_42 : decode cX7_next 42 = .ok (.bipush 10, 2) := by decide +kernel
theorem dX7_next_44 : decode cX7_next 44 = .ok (.if_icmp .ne 16, 3) := by decide +kernel
theorem dX7_next_47 : decode cX7_next 47 = .ok (.aload_n 0, 1) := by decide +kernel
theorem dX7_next_48 : decode cX7_next 48 = .ok (.dup, 1) := by decide +kernel
theorem dX7_next_49 : decode cX7_next 49 = .ok (.getfield 207, 3) := by decide +kernel
theorem dX7_next_52 : decode cX7_next 52 = .ok (.iconst 1, 1) := by decide +kernel
theorem dX7_next_53 : decode cX7_next 53 = .ok (.iadd, 1) := by decide +kernel
theorem dX7_next_54 : decode cX7_next 54 = .ok (.putfield 207, 3) := by decide +kernel
theorem dX7_next_57 : decode cX7_next 57 = .ok (.goto (-49), 3) := by decide +kernel
theorem dX7_next_60 : decode cX7_next 60 = .ok (.aload_n 0, 1) := by decide +kernel
theorem dX7_next_61 : decode cX7_next 61 = .ok (.aload_n 0, 1) := by decide +kernel
theorem dX7_next_62 : decode cX7_next 62 = .ok (.getfield 207, 3) := by decide +kernel
theorem dX7_next_65 : decode cX7_next 65 = .ok (.putfield 54, 3) := by decide +kernel
theorem dX7_next_68 : decode cX7_next 68 = .ok (.aload_n 0, 1) := by decide +kernel
theorem dX7_next_69 : decode cX7_next 69 = .ok (.getfield 207, 3) := by decide +kernel
theorem dX7_next_72 : decode cX7_next 72 = .ok (.aload_n 0, 1) := by decide +kernel
theorem dX7_next_73 : decode cX7_next 73 = .ok (.getfield 42, 3) := by decide +kernel
theorem dX7_next_76 : decode cX7_next 76 = .ok (.if_icmp .lt 9, 3) := by decide +kernel
theorem dX7_next_79 : decode cX7_next 79 = .ok (.aload_n 0, 1) := by decide +kernel
theorem dX7_next_80 : decode cX7_next 80 = .ok (.iconst 0, 1) := by decide +kernel
theorem dX7_next_81 : decode cX7_next 81 = .ok (.putfield 60, 3) := by decide +kernel
theorem dX7_next_84 : decode cX7_next 84 = .ok (.return_, 1) := by decide +kernel
theorem dX7_next_85 : decode cX7_next 85 = .ok (.aload_n 0, 1) := by decide +kernel
theorem dX7_next_86 : decode cX7_next 86 = .ok (.getfield 9, 3) := by decide +kernel
theorem dX7_next_89 : decode cX7_next 89 = .ok (.aload_n 0, 1) := by decide +kernel
theorem dX7_next_90 : decode cX7_next 90 = .ok (.getfield 207, 3) := by decide +kernel
theorem dX7_next_93 : decode cX7_next 93 = .ok (.baload, 1) := by decide +kernel
theorem dX7_next_94 : decode cX7_next 94 = .ok (.istore_n 1, 1) := by decide +kernel
theorem dX7_next_95 : decode cX7_next 95 = .ok (.iload_n 1, 1) := by decide +kernel
theorem dX7_next_96 : decode cX7_next 96 = .ok (.invokestatic 218, 3) := by decide +kernel
theorem dX7_next_99 : decode cX7_next 99 = .ok (.ifCond .eq 47, 3) := by decide +kernel
theorem dX7_next_102 : decode cX7_next 102 = .ok (.aload_n 0, 1) := by decide +kernel
theorem dX7_next_103 : decode cX7_next 103 = .ok (.iconst 1, 1) := by decide +kernel
theorem dX7_next_104 : decode cX7_next 104 = .ok (.putfield 60, 3) := by decide +kernel
theorem dX7_next_107 : decode cX7_next 107 = .ok (.aload_n 0, 1) := by decide +kernel
theorem dX7_next_108 : decode cX7_next 108 = .ok (.getfield 54, 3) := by decide +kernel
theorem dX7_next_111 : decode cX7_next 111 = .ok (.aload_n 0, 1) := by decide +kernel
theorem dX7_next_112 : decode cX7_next 112 = .ok (.getfield 42, 3) := by decide +kernel
theorem dX7_next_115 : decode cX7_next 115 = .ok (.if_icmp .ge 135, 3) := by decide +kernel
theorem dX7_next_118 : decode cX7_next 118 = .ok (.aload_n 0, 1) := by decide +kernel
theorem dX7_next_119 : decode cX7_next 119 = .ok (.getfield 9, 3) := by decide +kernel
theorem dX7_next_122 : decode cX7_next 122 = .ok (.aload_n 0, 1) := by decide +kernel
theorem dX7_next_123 : decode cX7_next 123 = .ok (.getfield 54, 3) := by decide +kernel
theorem dX7_next_126 : decode cX7_next 126 = .ok (.baload, 1) := by decide +kernel
theorem dX7_next_127 : decode cX7_next 127 = .ok (.invokestatic 218, 3) := by decide +kernel
theorem dX7_next_130 : decode cX7_next 130 = .ok (.ifCond .eq 120, 3) := by decide +kernel
theorem dX7_next_133 : decode cX7_next 133 = .ok (.aload_n 0, 1) := by decide +kernel
theorem dX7_next_134 : decode cX7_next 134 = .ok (.dup, 1) := by decide +kernel
theorem dX7_next_135 : decode cX7_next 135 = .ok (.getfield 54, 3) := by decide +kernel
theorem dX7_next_138 : decode cX7_next 138 = .ok (.iconst 1, 1) := by decide +kernel
theorem dX7_next_139 : decode cX7_next 139 = .ok (.iadd, 1) := by decide +kernel
theorem dX7_next_140 : decode cX7_next 140 = .ok (.putfield 54, 3) := by decide +kernel
theorem dX7_next_143 : decode cX7_next 143 = .ok (.goto (-36), 3) := by decide +kernel
theorem dX7_next_146 : decode cX7_next 146 = .ok (.iload_n 1, 1) := by decide +kernel
theorem dX7_next_147 : decode cX7_next 147 = .ok (.invokestatic 221, 3) := by decide +kernel
theorem dX7_next_150 : decode cX7_next 150 = .ok (.ifCond .eq 67, 3) := by decide +kernel
theorem dX7_next_153 : decode cX7_next 153 = .ok (.aload_n 0, 1) := by decide +kernel
theorem dX7_next_154 : decode cX7_next 154 = .ok (.getfield 54, 3) := by decide +kernel
theorem dX7_next_157 : decode cX7_next 157 = .ok (.aload_n 0, 1) := by decide +kernel
theorem dX7_next_158 : decode cX7_next 158 = .ok (.getfield 42, 3) := by decide +kernel
theorem dX7_next_161 : decode cX7_next 161 = .ok (.if_icmp .ge 31, 3) := by decide +kernel
theorem dX7_next_164 : decode cX7_next 164 = .ok (.aload_n 0, 1) := by decide +kernel
theorem dX7_next_165 : decode cX7_next 165 = .ok (.getfield 9, 3) := by decide +kernel
theorem dX7_next_168 : decode cX7_next 168 = .ok (.aload_n 0, 1) := by decide +kernel
theorem dX7_next_169 : decode cX7_next 169 = .ok (.getfield 54, 3) := by decide +kernel
theorem dX7_next_172 : decode cX7_next 172 = .ok (.baload, 1) := by decide +kernel
theorem dX7_next_173 : decode cX7_next 173 = .ok (.invokestatic 221, 3) := by decide +kernel
theorem dX7_next_176 : decode cX7_next 176 = .ok (.ifCond .eq 16, 3) := by decide +kernel
theorem dX7_next_179 : decode cX7_next 179 = .ok (.aload_n 0, 1) := by decide +kernel
theorem dX7_next_180 : decode cX7_next 180 = .ok (.dup, 1) := by decide +kernel
theorem dX7_next_181 : decode cX7_next 181 = .ok (.getfield 54, 3) := by decide +kernel
theorem dX7_next_184 : decode cX7_next 184 = .ok (.iconst 1, 1) := by decide +kernel
theorem dX7_next_185 : decode cX7_next 185 = .ok (.iadd, 1) := by decide +kernel
theorem dX7_next_186 : decode cX7_next 186 = .ok (.putfield 54, 3) := by decide +kernel
theorem dX7_next_189 : decode cX7_next 189 = .ok (.goto (-36), 3) := by decide +kernel
theorem dX7_next_192 : decode cX7_next 192 = .ok (.aload_n 0, 1) := by decide +kernel
theorem dX7_next_193 : decode cX7_next 193 = .ok (.aload_n 0, 1) := by decide +kernel
theorem dX7_next_194 : decode cX7_next 194 = .ok (.getfield 54, 3) := by decide +kernel
theorem dX7_next_197 : decode cX7_next 197 = .ok (.aload_n 0, 1) := by decide +kernel
theorem dX7_next_198 : decode cX7_next 198 = .ok (.getfield 207, 3) := by decide +kernel
theorem dX7_next_201 : decode cX7_next 201 = .ok (.isub, 1) := by decide +kernel
theorem dX7_next_202 : decode cX7_next 202 = .ok (.iconst 3, 1) := by decide +kernel
theorem dX7_next_203 : decode cX7_next 203 = .ok (.if_icmp .le 7, 3) := by decide +kernel
theorem dX7_next_206 : decode cX7_next 206 = .ok (.iconst 3, 1) := by decide +kernel
theorem dX7_next_207 : decode cX7_next 207 = .ok (.goto 4, 3) := by decide +kernel
theorem dX7_next_210 : decode cX7_next 210 = .ok (.iconst 2, 1) := by decide +kernel
theorem dX7_next_211 : decode cX7_next 211 = .ok (.putfield 60, 3) := by decide +kernel
theorem dX7_next_214 : decode cX7_next 214 = .ok (.goto 36, 3) := by decide +kernel
theorem dX7_next_217 : decode cX7_next 217 = .ok (.aload_n 0, 1) := by decide +kernel
theorem dX7_next_218 : decode cX7_next 218 = .ok (.iload_n 1, 1) := by decide +kernel
theorem dX7_next_219 : decode cX7_next 219 = .ok (.ifCond .le 17, 3) := by decide +kernel
theorem dX7_next_222 : decode cX7_next 222 = .ok (.ldc 224, 2) := by decide +kernel
theorem dX7_next_224 : decode cX7_next 224 = .ok (.iload_n 1, 1) := by decide +kernel
theorem dX7_next_225 : decode cX7_next 225 = .ok (.i2c, 1) := by decide +kernel
theorem dX7_next_226 : decode cX7_next 226 = .ok (.invokevirtual 226, 3) := by decide +kernel
theorem dX7_next_229 : decode cX7_next 229 = .ok (.ifCond .lt 7, 3) := by decide +kernel
theorem dX7_next_232 : decode cX7_next 232 = .ok (.iload_n 1, 1) := by decide +kernel
theorem dX7_next_233 : decode cX7_next 233 = .ok (.goto 4, 3) := by decide +kernel
theorem dX7_next_236 : decode cX7_next 236 = .ok (.iconst 3, 1) := by decide +kernel
theorem dX7_next_237 : decode cX7_next 237 = .ok (.putfield 60, 3) := by decide +kernel
theorem dX7_next_240 : decode cX7_next 240 = .ok (.aload_n 0, 1) := by decide +kernel
theorem dX7_next_241 : decode cX7_next 241 = .ok (.dup, 1) := by decide +kernel
theorem dX7_next_242 : decode cX7_next 242 = .ok (.getfield 54, 3) := by decide +kernel
theorem dX7_next_245 : decode cX7_next 245 = .ok (.iconst 1, 1) := by decide +kernel
theorem dX7_next_246 : decode cX7_next 246 = .ok (.iadd, 1) := by decide +kernel
theorem dX7_next_247 : decode cX7_next 247 = .ok (.putfield 54, 3) := by decide +kernel
theorem dX7_next_250 : decode cX7_next 250 = .ok (.return_, 1) := by decide +kernel
set_option maxRecDepth 100000 in
set_option maxHeartbeats 4000000 in
theorem v_X7_next_b237 {l : Launch} {p : Program} {e : Env} {s : State} {mt : MethodId} {args : Array Value} {below : List Frame} {meth : Method} {c : Code} {A : Nat → Prop} {ad0 : Nat → Nat} {G : Gt} {N : Nat} (C : Cx G p s mt args meth c RX7 cX7_next 2 none "next" A) (hN : 109 ≤ N) (z0 : Int32) (m : Mem) : V G SX oV l p e s mt args below meth c 2 5 A ad0 N N RX N RX 237 [(0, .ref 39)] [.int z0, .ref 39] m (X7_next_b237  z0 m) := by
  rw [X7_next_b237]
  refine V.puti (pc := 237) C fp_RX7_60 sX39 (kX39 hN) rfl dX7_next_237 ?_
  refine V.ltm (fun m_8 => ?_)
  refine V.aload_n (pc := 240) C dX7_next_240 0 rfl ?_
  refine V.dup (pc := 241) C dX7_next_241 rfl ?_
  refine V.geti (pc := 242) C fl_RX7_54 sX39 (kX39 hN) rfl dX7_next_242 ?_
  refine V.iconst (pc := 245) C dX7_next_245 (v := 1) (by decide) ?_
  refine V.iadd (pc := 246) C dX7_next_246 ?_
  refine V.puti (pc := 247) C fp_RX7_54 sX39 (kX39 hN) rfl dX7_next_247 ?_
  refine V.ltm (fun m_9 => ?_)
  exact V.vret C dX7_next_250
set_option maxRecDepth 100000 in
set_option maxHeartbeats 4000000 in
theorem v_X7_next_b192 {l : Launch} {p : Program} {e : Env} {s : State} {mt : MethodId} {args : Array Value} {below : List Frame} {meth : Method} {c : Code} {A : Nat → Prop} {ad0 : Nat → Nat} {G : Gt} {N : Nat} (C : Cx G p s mt args meth c RX7 cX7_next 2 none "next" A) (hN : 109 ≤ N) (m : Mem) : V G SX oV l p e s mt args below meth c 2 5 A ad0 N N RX N RX 192 [(0, .ref 39)] [] m (X7_next_b192   m) := by
  rw [X7_next_b192]
  refine V.aload_n (pc := 192) C dX7_next_192 0 rfl ?_
  refine V.aload_n (pc := 193) C dX7_next_193 0 rfl ?_
  refine V.geti (pc := 194) C fl_RX7_54 sX39 (kX39 hN) rfl dX7_next_194 ?_
  refine V.aload_n (pc := 197) C dX7_next_197 0 rfl ?_
  refine V.geti (pc := 198) C fl_RX7_207 sX39 (kX39 hN) rfl dX7_next_198 ?_
  refine V.isub (pc := 201) C dX7_next_201 ?_
  refine V.iconst (pc := 202) C dX7_next_202 (v := 3) (by decide) ?_
  refine V.icmp_le (pc := 203) C dX7_next_203 210 (by decide) (fun _ => ?_) (fun _ => ?_)
  · refine V.iconst (pc := 210) C dX7_next_210 (v := 2) (by decide) ?_
    refine V.puti (pc := 211) C fp_RX7_60 sX39 (kX39 hN) rfl dX7_next_211 ?_
    refine V.ltm (fun m_12 => ?_)
    refine V.goto (pc := 214) C dX7_next_214 250 (by decide) ?_
    exact V.vret C dX7_next_250
  · refine V.iconst (pc := 206) C dX7_next_206 (v := 3) (by decide) ?_
    refine V.goto (pc := 207) C dX7_next_207 211 (by decide) ?_
    refine V.puti (pc := 211) C fp_RX7_60 sX39 (kX39 hN) rfl dX7_next_211 ?_
    refine V.ltm (fun m_13 => ?_)
    refine V.goto (pc := 214) C dX7_next_214 250 (by decide) ?_
    exact V.vret C dX7_next_250
set_option maxRecDepth 100000 in
set_option maxHeartbeats 4000000 in
theorem v_X7_next_b153 {l : Launch} {p : Program} {e : Env} {s : State} {mt : MethodId} {args : Array Value} {below : List Frame} {meth : Method} {c : Code} {A : Nat → Prop} {ad0 : Nat → Nat} {G : Gt} {N : Nat} (C : Cx G p s mt args meth c RX7 cX7_next 2 none "next" A) (hN : 109 ≤ N) : ∀ (n : Nat) (m : Mem), V G SX oV l p e s mt args below meth c 2 5 A ad0 N N RX N RX 153 [(0, .ref 39)] [] m (X7_next_b153  n  m) := by
  intro n
  induction n with
  | zero =>
    intro  m
    rw [X7_next_b153]
    exact V.nil
  | succ n ih =>
    intro  m
    rw [X7_next_b153]
    refine V.aload_n (pc := 153) C dX7_next_153 0 rfl ?_
    refine V.geti (pc := 154) C fl_RX7_54 sX39 (kX39 hN) rfl dX7_next_154 ?_
    refine V.aload_n (pc := 157) C dX7_next_157 0 rfl ?_
    refine V.geti (pc := 158) C fl_RX7_42 sX39 (kX39 hN) rfl dX7_next_158 ?_
    refine V.icmp_ge (pc := 161) C dX7_next_161 192 (by decide) (fun _ => ?_) (fun _ => ?_)
    · refine V.wk [0] rfl ?_
      exact v_X7_next_b192 C hN  m
    · refine V.aload_n (pc := 164) C dX7_next_164 0 rfl ?_
      refine V.getr (pc := 165) C fl_RX7_9 sX39 (kX39 hN) rfl rX39_0 dX7_next_165 ?_
      refine V.aload_n (pc := 168) C dX7_next_168 0 rfl ?_
      refine V.geti (pc := 169) C fl_RX7_54 sX39 (kX39 hN) rfl dX7_next_169 ?_
      refine V.bald (pc := 172) C sX1 (kX1 hN) dX7_next_172 (fun _ => ?_)
      refine V.callS (pc := 173) (st := []) C (c_X7_isDigit l hN (gi m 1 (ix (gi m 39 7))) m) obI ck_X7_isDigit ml_RX7_221 rfl rfl (Nat.le_of_ble_eq_true rfl) ⟨by decide, by decide⟩ dX7_next_173 (fun r_14 m_15 _ => ?_)
      refine V.if_eq (pc := 176) C dX7_next_176 192 (by decide) (fun _ => ?_) (fun _ => ?_)
      · refine V.wk [0] rfl ?_
        exact v_X7_next_b192 C hN  m_15
      · refine V.aload_n (pc := 179) C dX7_next_179 0 rfl ?_
        refine V.dup (pc := 180) C dX7_next_180 rfl ?_
        refine V.geti (pc := 181) C fl_RX7_54 sX39 (kX39 hN) rfl dX7_next_181 ?_
        refine V.iconst (pc := 184) C dX7_next_184 (v := 1) (by decide) ?_
        refine V.iadd (pc := 185) C dX7_next_185 ?_
        refine V.puti (pc := 186) C fp_RX7_54 sX39 (kX39 hN) rfl dX7_next_186 ?_
        refine V.ltm (fun m_16 => ?_)
        refine V.goto (pc := 189) C dX7_next_189 153 (by decide) ?_
        refine V.wk [0] rfl ?_
        exact ih  m_16
set_option maxRecDepth 100000 in
set_option maxHeartbeats 4000000 in
theorem v_X7_next_b107 {l : Launch} {p : Program} {e : Env} {s : State} {mt : MethodId} {args : Array Value} {below : List Frame} {meth : Method} {c : Code} {A : Nat → Prop} {ad0 : Nat → Nat} {G : Gt} {N : Nat} (C : Cx G p s mt args meth c RX7 cX7_next 2 none "next" A) (hN : 109 ≤ N) : ∀ (n : Nat) (m : Mem), V G SX oV l p e s mt args below meth c 2 5 A ad0 N N RX N RX 107 [(0, .ref 39)] [] m (X7_next_b107  n  m) := by
  intro n
  induction n with
  | zero =>
    intro  m
    rw [X7_next_b107]
    exact V.nil
  | succ n ih =>
    intro  m
    rw [X7_next_b107]
    refine V.aload_n (pc := 107) C dX7_next_107 0 rfl ?_
    refine V.geti (pc := 108) C fl_RX7_54 sX39 (kX39 hN) rfl dX7_next_108 ?_
    refine V.aload_n (pc := 111) C dX7_next_111 0 rfl ?_
    refine V.geti (pc := 112) C fl_RX7_42 sX39 (kX39 hN) rfl dX7_next_112 ?_
    refine V.icmp_ge (pc := 115) C dX7_next_115 250 (by decide) (fun _ => ?_) (fun _ => ?_)
    · exact V.vret C dX7_next_250
    · refine V.aload_n (pc := 118) C dX7_next_118 0 rfl ?_
      refine V.getr (pc := 119) C fl_RX7_9 sX39 (kX39 hN) rfl rX39_0 dX7_next_119 ?_
      refine V.aload_n (pc := 122) C dX7_next_122 0 rfl ?_
      refine V.geti (pc := 123) C fl_RX7_54 sX39 (kX39 hN) rfl dX7_next_123 ?_
      refine V.bald (pc := 126) C sX1 (kX1 hN) dX7_next_126 (fun _ => ?_)
      refine V.callS (pc := 127) (st := []) C (c_X7_isLetter l hN (gi m 1 (ix (gi m 39 7))) m) obI ck_X7_isLetter ml_RX7_218 rfl rfl (Nat.le_of_ble_eq_true rfl) ⟨by decide, by decide⟩ dX7_next_127 (fun r_18 m_19 _ => ?_)
      refine V.if_eq (pc := 130) C dX7_next_130 250 (by decide) (fun _ => ?_) (fun _ => ?_)
      · exact V.vret C dX7_next_250
      · refine V.aload_n (pc := 133) C dX7_next_133 0 rfl ?_
        refine V.dup (pc := 134) C dX7_next_134 rfl ?_
        refine V.geti (pc := 135) C fl_RX7_54 sX39 (kX39 hN) rfl dX7_next_135 ?_
        refine V.iconst (pc := 138) C dX7_next_138 (v := 1) (by decide) ?_
        refine V.iadd (pc := 139) C dX7_next_139 ?_
        refine V.puti (pc := 140) C fp_RX7_54 sX39 (kX39 hN) rfl dX7_next_140 ?_
        refine V.ltm (fun m_20 => ?_)
        refine V.goto (pc := 143) C dX7_next_143 107 (by decide) ?_
        refine V.wk [0] rfl ?_
        exact ih  m_20
set_option maxRecDepth 100000 in
set_option maxHeartbeats 4000000 in
theorem v_X7_next_b60 {l : Launch} {p : Program} {e : Env} {s : State} {mt : MethodId} {args : Array Value} {below : List Frame} {meth : Method} {c : Code} {A : Nat → Prop} {ad0 : Nat → Nat} {G : Gt} {N : Nat} (C : Cx G p s mt args meth c RX7 cX7_next 2 none "next" A) (hN : 109 ≤ N) (m : Mem) : V G SX oV l p e s mt args below meth c 2 5 A ad0 N N RX N RX 60 [(0, .ref 39)] [] m (X7_next_b60   m) := by
  rw [X7_next_b60]
  refine V.aload_n (pc := 60) C dX7_next_60 0 rfl ?_
  refine V.aload_n (pc := 61) C dX7_next_61 0 rfl ?_
  refine V.geti (pc := 62) C fl_RX7_207 sX39 (kX39 hN) rfl dX7_next_62 ?_
  refine V.puti (pc := 65) C fp_RX7_54 sX39 (kX39 hN) rfl dX7_next_65 ?_
  refine V.ltm (fun m_2 => ?_)
  refine V.aload_n (pc := 68) C dX7_next_68 0 rfl ?_
  refine V.geti (pc := 69) C fl_RX7_207 sX39 (kX39 hN) rfl dX7_next_69 ?_
  refine V.aload_n (pc := 72) C dX7_next_72 0 rfl ?_
  refine V.geti (pc := 73) C fl_RX7_42 sX39 (kX39 hN) rfl dX7_next_73 ?_
  refine V.icmp_lt (pc := 76) C dX7_next_76 85 (by decide) (fun _ => ?_) (fun _ => ?_)
  · refine V.aload_n (pc := 85) C dX7_next_85 0 rfl ?_
    refine V.getr (pc := 86) C fl_RX7_9 sX39 (kX39 hN) rfl rX39_0 dX7_next_86 ?_
    refine V.aload_n (pc := 89) C dX7_next_89 0 rfl ?_
    refine V.geti (pc := 90) C fl_RX7_207 sX39 (kX39 hN) rfl dX7_next_90 ?_
    refine V.bald (pc := 93) C sX1 (kX1 hN) dX7_next_93 (fun _ => ?_)
    refine V.lti (fun x_3 _ => ?_)
    refine V.istore_n (pc := 94) C dX7_next_94 (L2 := [(1, .int x_3), (0, .ref 39)]) (by decide) rfl ?_
    refine V.iload_n (pc := 95) C dX7_next_95 0 rfl ?_
    refine V.callS (pc := 96) (st := []) C (c_X7_isLetter l hN x_3 m_2) obI ck_X7_isLetter ml_RX7_218 rfl rfl (Nat.le_of_ble_eq_true rfl) ⟨by decide, by decide⟩ dX7_next_96 (fun r_4 m_5 _ => ?_)
    refine V.if_eq (pc := 99) C dX7_next_99 146 (by decide) (fun _ => ?_) (fun _ => ?_)
    · refine V.iload_n (pc := 146) C dX7_next_146 0 rfl ?_
      refine V.callS (pc := 147) (st := []) C (c_X7_isDigit l hN x_3 m_5) obI ck_X7_isDigit ml_RX7_221 rfl rfl (Nat.le_of_ble_eq_true rfl) ⟨by decide, by decide⟩ dX7_next_147 (fun r_6 m_7 _ => ?_)
      refine V.if_eq (pc := 150) C dX7_next_150 217 (by decide) (fun _ => ?_) (fun _ => ?_)
      · refine V.aload_n (pc := 217) C dX7_next_217 1 rfl ?_
        refine V.iload_n (pc := 218) C dX7_next_218 0 rfl ?_
        refine V.if_le (pc := 219) C dX7_next_219 236 (by decide) (fun _ => ?_) (fun _ => ?_)
        · refine V.iconst (pc := 236) C dX7_next_236 (v := 3) (by decide) ?_
          refine V.wk [1] rfl ?_
          exact v_X7_next_b237 C hN 3 m_7
        · refine V.ldcs (pc := 222) (k := 0) C (by decide) (by decide) dX7_next_222 ?_
          refine V.iload_n (pc := 224) C dX7_next_224 0 rfl ?_
          refine V.i2c (pc := 225) C dX7_next_225 ?_
          refine V.callT (pc := 226) (st := [.ref 39]) C (c_J0_indexOf_0f7a4 l 0 (by decide) (((x_3 : Int32).toUInt32 % 65536).toInt32) m_7) obI ck_J0_indexOf_0f7a4 ml_RX7_226 rfl (by decide) rfl rfl (Nat.le_of_ble_eq_true rfl) ⟨by decide, by decide⟩ dX7_next_226 (fun r_10 m_11 _ => ?_)
          refine V.if_lt (pc := 229) C dX7_next_229 236 (by decide) (fun _ => ?_) (fun _ => ?_)
          · refine V.iconst (pc := 236) C dX7_next_236 (v := 3) (by decide) ?_
            refine V.wk [1] rfl ?_
            exact v_X7_next_b237 C hN 3 m_11
          · refine V.iload_n (pc := 232) C dX7_next_232 0 rfl ?_
            refine V.goto (pc := 233) C dX7_next_233 237 (by decide) ?_
            refine V.wk [1] rfl ?_
            exact v_X7_next_b237 C hN x_3 m_11
      · refine V.wk [1] rfl ?_
        exact v_X7_next_b153 C hN FU  m_7
    · refine V.aload_n (pc := 102) C dX7_next_102 1 rfl ?_
      refine V.iconst (pc := 103) C dX7_next_103 (v := 1) (by decide) ?_
      refine V.puti (pc := 104) C fp_RX7_60 sX39 (kX39 hN) rfl dX7_next_104 ?_
      refine V.ltm (fun m_17 => ?_)
      refine V.wk [1] rfl ?_
      exact v_X7_next_b107 C hN FU  m_17
  · refine V.aload_n (pc := 79) C dX7_next_79 0 rfl ?_
    refine V.iconst (pc := 80) C dX7_next_80 (v := 0) (by decide) ?_
    refine V.puti (pc := 81) C fp_RX7_60 sX39 (kX39 hN) rfl dX7_next_81 ?_
    refine V.ltm (fun m_21 => ?_)
    exact V.vret C dX7_next_84
set_option maxRecDepth 100000 in
set_option maxHeartbeats 4000000 in
theorem v_X7_next_b47 {l : Launch} {p : Program} {e : Env} {s : State} {mt : MethodId} {args : Array Value} {below : List Frame} {meth : Method} {c : Code} {A : Nat → Prop} {ad0 : Nat → Nat} {G : Gt} {N : Nat} (C : Cx G p s mt args meth c RX7 cX7_next 2 none "next" A) (hN : 109 ≤ N) (k8 : Mem → Option (Unit × Mem)) (h8 : ∀ (m : Mem), V G SX oV l p e s mt args below meth c 2 5 A ad0 N N RX N RX 8 [(0, .ref 39)] [] m (k8  m)) (m : Mem) : V G SX oV l p e s mt args below meth c 2 5 A ad0 N N RX N RX 47 [(0, .ref 39)] [] m (X7_next_b47 k8  m) := by
  rw [X7_next_b47]
  refine V.aload_n (pc := 47) C dX7_next_47 0 rfl ?_
  refine V.dup (pc := 48) C dX7_next_48 rfl ?_
  refine V.geti (pc := 49) C fl_RX7_207 sX39 (kX39 hN) rfl dX7_next_49 ?_
  refine V.iconst (pc := 52) C dX7_next_52 (v := 1) (by decide) ?_
  refine V.iadd (pc := 53) C dX7_next_53 ?_
  refine V.puti (pc := 54) C fp_RX7_207 sX39 (kX39 hN) rfl dX7_next_54 ?_
  refine V.ltm (fun m_22 => ?_)
  refine V.goto (pc := 57) C dX7_next_57 8 (by decide) ?_
  refine V.wk [0] rfl ?_
  exact h8  m_22
set_option maxRecDepth 100000 in
set_option maxHeartbeats 4000000 in
theorem v_X7_next_b8 {l : Launch} {p : Program} {e : Env} {s : State} {mt : MethodId} {args : Array Value} {below : List Frame} {meth : Method} {c : Code} {A : Nat → Prop} {ad0 : Nat → Nat} {G : Gt} {N : Nat} (C : Cx G p s mt args meth c RX7 cX7_next 2 none "next" A) (hN : 109 ≤ N) : ∀ (n : Nat) (m : Mem), V G SX oV l p e s mt args below meth c 2 5 A ad0 N N RX N RX 8 [(0, .ref 39)] [] m (X7_next_b8  n  m) := by
  intro n
  induction n with
  | zero =>
    intro  m
    rw [X7_next_b8]
    exact V.nil
  | succ n ih =>
    intro  m
    rw [X7_next_b8]
    refine V.aload_n (pc := 8) C dX7_next_8 0 rfl ?_
    refine V.geti (pc := 9) C fl_RX7_207 sX39 (kX39 hN) rfl dX7_next_9 ?_
    refine V.aload_n (pc := 12) C dX7_next_12 0 rfl ?_
    refine V.geti (pc := 13) C fl_RX7_42 sX39 (kX39 hN) rfl dX7_next_13 ?_
    refine V.icmp_ge (pc := 16) C dX7_next_16 60 (by decide) (fun _ => ?_) (fun _ => ?_)
    · refine V.wk [0] rfl ?_
      exact v_X7_next_b60 C hN  m
    · refine V.aload_n (pc := 19) C dX7_next_19 0 rfl ?_
      refine V.getr (pc := 20) C fl_RX7_9 sX39 (kX39 hN) rfl rX39_0 dX7_next_20 ?_
      refine V.aload_n (pc := 23) C dX7_next_23 0 rfl ?_
      refine V.geti (pc := 24) C fl_RX7_207 sX39 (kX39 hN) rfl dX7_next_24 ?_
      refine V.bald (pc := 27) C sX1 (kX1 hN) dX7_next_27 (fun _ => ?_)
      refine V.bipush (pc := 28) C dX7_next_28 (v := 32) (by decide) ?_
      refine V.icmp_eq (pc := 30) C dX7_next_30 47 (by decide) (fun _ => ?_) (fun _ => ?_)
      · refine V.wk [0] rfl ?_
        exact v_X7_next_b47 C hN (X7_next_b8 n) ih  m
      · refine V.aload_n (pc := 33) C dX7_next_33 0 rfl ?_
        refine V.getr (pc := 34) C fl_RX7_9 sX39 (kX39 hN) rfl rX39_0 dX7_next_34 ?_
        refine V.aload_n (pc := 37) C dX7_next_37 0 rfl ?_
        refine V.geti (pc := 38) C fl_RX7_207 sX39 (kX39 hN) rfl dX7_next_38 ?_
        refine V.bald (pc := 41) C sX1 (kX1 hN) dX7_next_41 (fun _ => ?_)
        refine V.bipush (pc := 42) C dX7_next_42 (v := 10) (by decide) ?_
        refine V.icmp_ne (pc := 44) C dX7_next_44 60 (by decide) (fun _ => ?_) (fun _ => ?_)
        · refine V.wk [0] rfl ?_
          exact v_X7_next_b60 C hN  m
        · refine V.wk [0] rfl ?_
          exact v_X7_next_b47 C hN (X7_next_b8 n) ih  m
set_option maxRecDepth 100000 in
set_option maxHeartbeats 4000000 in
theorem v_X7_next {l : Launch} {p : Program} {e : Env} {s : State} {mt : MethodId} {args : Array Value} {below : List Frame} {meth : Method} {c : Code} {A : Nat → Prop} {ad0 : Nat → Nat} {G : Gt} {N : Nat} (C : Cx G p s mt args meth c RX7 cX7_next 2 none "next" A) (hN : 109 ≤ N) (m : Mem) : V G SX oV l p e s mt args below meth c 2 5 A ad0 N N RX N RX 0 [(0, .ref 39)] [] m (X7_next   m) := by
  rw [X7_next]
  refine V.aload_n (pc := 0) C dX7_next_0 0 rfl ?_
  refine V.aload_n (pc := 1) C dX7_next_1 0 rfl ?_
  refine V.geti (pc := 2) C fl_RX7_54 sX39 (kX39 hN) rfl dX7_next_2 ?_
  refine V.puti (pc := 5) C fp_RX7_207 sX39 (kX39 hN) rfl dX7_next_5 ?_
  refine V.ltm (fun m_1 => ?_)
  refine V.wk [0] rfl ?_
  exact v_X7_next_b8 C hN FU  m_1
theorem c_X7_next (l : Launch) {N : Nat} (hN : 109 ≤ N) (m : Mem) : Ct l yX7_next cX7_next 2 none 5 SX oV N N RX RX [.ref 39] m (X7_next   m) :=
  Ct.of (own := RX7) (nm := "next") (by decide) rfl rfl (Nat.le_of_ble_eq_true rfl) (fun _ _ _ _ _ _ _ _ _ _ _ C => v_X7_next C hN  m)
theorem dX7_isWord_0 : decode cX7_isWord 0 = .ok (.aload_n 0, 1) := by decide +kernel
theorem dX7_isWord_1 : decode cX7_isWord 1 = .ok (.getfield 60, 3) := by decide +kernel
theorem dX7_isWord_4 : decode cX7_isWord 4 = .ok (.iconst 1, 1) := by decide +kernel
theorem dX7_isWord_5 : decode cX7_isWord 5 = .ok (.if_icmp .ne 19, 3) := by decide +kernel
theorem dX7_isWord_8 : decode cX7_isWord 8 = .ok (.aload_n 0, 1) := by decide +kernel
theorem dX7_isWord_9 : decode cX7_isWord 9 = .ok (.getfield 54, 3) := by decide +kernel
theorem dX7_isWord_12 : decode cX7_isWord 12 = .ok (.aload_n 0, 1) := by decide +kernel
theorem dX7_isWord_13 : decode cX7_isWord 13 = .ok (.getfield 207, 3) := by decide +kernel
theorem dX7_isWord_16 : decode cX7_isWord 16 = .ok (.isub, 1) := by decide +kernel
theorem dX7_isWord_17 : decode cX7_isWord 17 = .ok (.aload_n 1, 1) := by decide +kernel
theorem dX7_isWord_18 : decode cX7_isWord 18 = .ok (.invokevirtual 210, 3) := by decide +kernel
theorem dX7_isWord_21 : decode cX7_isWord 21 = .ok (.if_icmp .eq 5, 3) := by decide +kernel
theorem dX7_isWord_24 : decode cX7_isWord 24 = .ok (.iconst 0, 1) := by decide +kernel
theorem dX7_isWord_25 : decode cX7_isWord 25 = .ok (.ireturn, 1) := by decide +kernel
theorem dX7_isWord_26 : decode cX7_isWord 26 = .ok (.iconst 0, 1) := by decide +kernel
theorem dX7_isWord_27 : decode cX7_isWord 27 = .ok (.istore_n 2, 1) := by decide +kernel
theorem dX7_isWord_28 : decode cX7_isWord 28 = .ok (.iload_n 2, 1) := by decide +kernel
theorem dX7_isWord_29 : decode cX7_isWord 29 = .ok (.aload_n 1, 1) := by decide +kernel
theorem dX7_isWord_30 : decode cX7_isWord 30 = .ok (.invokevirtual 210, 3) := by decide +kernel
theorem dX7_isWord_33 : decode cX7_isWord 33 = .ok (.if_icmp .ge 43, 3) := by decide +kernel
theorem dX7_isWord_36 : decode cX7_isWord 36 = .ok (.aload_n 0, 1) := by decide +kernel
theorem dX7_isWord_37 : decode cX7_isWord 37 = .ok (.getfield 207, 3) := by decide +kernel
theorem dX7_isWord_40 : decode cX7_isWord 40 = .ok (.iload_n 2, 1) := by decide +kernel
theorem dX7_isWord_41 : decode cX7_isWord 41 = .ok (.iadd, 1) := by decide +kernel
theorem dX7_isWord_42 : decode cX7_isWord 42 = .ok (.aload_n 0, 1) := by decide +kernel
theorem dX7_isWord_43 : decode cX7_isWord 43 = .ok (.getfield 42, 3) := by decide +kernel
theorem dX7_isWord_46 : decode cX7_isWord 46 = .ok (.if_icmp .ge 30, 3) := by decide +kernel
theorem dX7_isWord_49 : decode cX7_isWord 49 = .ok (.aload_n 0, 1) := by decide +kernel
theorem dX7_isWord_50 : decode cX7_isWord 50 = .ok (.getfield 9, 3) := by decide +kernel
theorem dX7_isWord_53 : decode cX7_isWord 53 = .ok (.aload_n 0, 1) := by decide +kernel
theorem dX7_isWord_54 : decode cX7_isWord 54 = .ok (.getfield 207, 3) := by decide +kernel
theorem dX7_isWord_57 : decode cX7_isWord 57 = .ok (.iload_n 2, 1) := by decide +kernel
theorem dX7_isWord_58 : decode cX7_isWord 58 = .ok (.iadd, 1) := by decide +kernel
theorem dX7_isWord_59 : decode cX7_isWord 59 = .ok (.baload, 1) := by decide +kernel
theorem dX7_isWord_60 : decode cX7_isWord 60 = .ok (.aload_n 1, 1) := by decide +kernel
theorem dX7_isWord_61 : decode cX7_isWord 61 = .ok (.iload_n 2, 1) := by decide +kernel
theorem dX7_isWord_62 : decode cX7_isWord 62 = .ok (.invokevirtual 214, 3) := by decide +kernel
theorem dX7_isWord_65 : decode cX7_isWord 65 = .ok (.if_icmp .eq 5, 3) := by decide +kernel
theorem dX7_isWord_68 : decode cX7_isWord 68 = .ok (.iconst 0, 1) := by decide +kernel
theorem dX7_isWord_69 : decode cX7_isWord 69 = .ok (.ireturn, 1) := by decide +kernel
theorem dX7_isWord_70 : decode cX7_isWord 70 = .ok (.iinc 2 1, 3) := by decide +kernel
theorem dX7_isWord_73 : decode cX7_isWord 73 = .ok (.goto (-45), 3) := by decide +kernel
theorem dX7_isWord_76 : decode cX7_isWord 76 = .ok (.iconst 1, 1) := by decide +kernel
theorem dX7_isWord_77 : decode cX7_isWord 77 = .ok (.ireturn, 1) := by decide +kernel
set_option maxRecDepth 100000 in
set_option maxHeartbeats 4000000 in
theorem v_X7_isWord_b28 {l : Launch} {p : Program} {e : Env} {s : State} {mt : MethodId} {args : Array Value} {below : List Frame} {meth : Method} {c : Code} {A : Nat → Prop} {ad0 : Nat → Nat} {G : Gt} {N : Nat} (C : Cx G p s mt args meth c RX7 cX7_isWord 3 (some .boolean) "isWord" A) (hN : 109 ≤ N) (k1 : Nat) (hk1 : k1 < 22) : ∀ (n : Nat) (y2 : Int32) (m : Mem), V G SX oI l p e s mt args below meth c 3 5 A ad0 N N RX N RX 28 [(0, .ref 39), (1, .retAddr k1), (2, .int y2)] [] m (X7_isWord_b28 k1 n y2 m) := by
  intro n
  induction n with
  | zero =>
    intro y2 m
    rw [X7_isWord_b28]
    exact V.nil
  | succ n ih =>
    intro y2 m
    rw [X7_isWord_b28]
    refine V.iload_n (pc := 28) C dX7_isWord_28 2 rfl ?_
    refine V.sload_n (pc := 29) C dX7_isWord_29 1 rfl ?_
    refine V.callT (pc := 30) (st := [.int y2]) C (c_J0_length_8abf5 l k1 hk1 m) obI ck_J0_length_8abf5 ml_RX7_210 rfl hk1 rfl rfl (Nat.le_of_ble_eq_true rfl) ⟨by decide, by decide⟩ dX7_isWord_30 (fun r_3 m_4 _ => ?_)
    refine V.icmp_ge (pc := 33) C dX7_isWord_33 76 (by decide) (fun _ => ?_) (fun _ => ?_)
    · refine V.iconst (pc := 76) C dX7_isWord_76 (v := 1) (by decide) ?_
      exact V.zret rfl C dX7_isWord_77
    · refine V.aload_n (pc := 36) C dX7_isWord_36 0 rfl ?_
      refine V.geti (pc := 37) C fl_RX7_207 sX39 (kX39 hN) rfl dX7_isWord_37 ?_
      refine V.iload_n (pc := 40) C dX7_isWord_40 2 rfl ?_
      refine V.iadd (pc := 41) C dX7_isWord_41 ?_
      refine V.aload_n (pc := 42) C dX7_isWord_42 0 rfl ?_
      refine V.geti (pc := 43) C fl_RX7_42 sX39 (kX39 hN) rfl dX7_isWord_43 ?_
      refine V.icmp_ge (pc := 46) C dX7_isWord_46 76 (by decide) (fun _ => ?_) (fun _ => ?_)
      · refine V.iconst (pc := 76) C dX7_isWord_76 (v := 1) (by decide) ?_
        exact V.zret rfl C dX7_isWord_77
      · refine V.aload_n (pc := 49) C dX7_isWord_49 0 rfl ?_
        refine V.getr (pc := 50) C fl_RX7_9 sX39 (kX39 hN) rfl rX39_0 dX7_isWord_50 ?_
        refine V.aload_n (pc := 53) C dX7_isWord_53 0 rfl ?_
        refine V.geti (pc := 54) C fl_RX7_207 sX39 (kX39 hN) rfl dX7_isWord_54 ?_
        refine V.iload_n (pc := 57) C dX7_isWord_57 2 rfl ?_
        refine V.iadd (pc := 58) C dX7_isWord_58 ?_
        refine V.bald (pc := 59) C sX1 (kX1 hN) dX7_isWord_59 (fun _ => ?_)
        refine V.sload_n (pc := 60) C dX7_isWord_60 1 rfl ?_
        refine V.iload_n (pc := 61) C dX7_isWord_61 2 rfl ?_
        refine V.callT (pc := 62) (st := [.int (gi m_4 1 (ix ((gi m_4 39 6) + y2)))]) C (c_J0_charAt_5068e l k1 hk1 y2 m_4) obI ck_J0_charAt_5068e ml_RX7_214 rfl hk1 rfl rfl (Nat.le_of_ble_eq_true rfl) ⟨by decide, by decide⟩ dX7_isWord_62 (fun r_5 m_6 _ => ?_)
        refine V.icmp_eq (pc := 65) C dX7_isWord_65 70 (by decide) (fun _ => ?_) (fun _ => ?_)
        · refine V.iinc (pc := 70) C dX7_isWord_70 (v := 1) (L2 := [(2, .int (y2 + 1)), (0, .ref 39), (1, .retAddr k1)]) 2 rfl (by decide) (by decide) rfl ?_
          refine V.goto (pc := 73) C dX7_isWord_73 28 (by decide) ?_
          refine V.wk [1, 2, 0] rfl ?_
          exact ih (y2 + 1) m_6
        · refine V.iconst (pc := 68) C dX7_isWord_68 (v := 0) (by decide) ?_
          exact V.zret rfl C dX7_isWord_69
set_option maxRecDepth 100000 in
set_option maxHeartbeats 4000000 in
theorem v_X7_isWord {l : Launch} {p : Program} {e : Env} {s : State} {mt : MethodId} {args : Array Value} {below : List Frame} {meth : Method} {c : Code} {A : Nat → Prop} {ad0 : Nat → Nat} {G : Gt} {N : Nat} (C : Cx G p s mt args meth c RX7 cX7_isWord 3 (some .boolean) "isWord" A) (hN : 109 ≤ N) (k1 : Nat) (hk1 : k1 < 22) (m : Mem) : V G SX oI l p e s mt args below meth c 3 5 A ad0 N N RX N RX 0 [(0, .ref 39), (1, .retAddr k1)] [] m (X7_isWord k1  m) := by
  rw [X7_isWord]
  refine V.aload_n (pc := 0) C dX7_isWord_0 0 rfl ?_
  refine V.geti (pc := 1) C fl_RX7_60 sX39 (kX39 hN) rfl dX7_isWord_1 ?_
  refine V.iconst (pc := 4) C dX7_isWord_4 (v := 1) (by decide) ?_
  refine V.icmp_ne (pc := 5) C dX7_isWord_5 24 (by decide) (fun _ => ?_) (fun _ => ?_)
  · refine V.iconst (pc := 24) C dX7_isWord_24 (v := 0) (by decide) ?_
    exact V.zret rfl C dX7_isWord_25
  · refine V.aload_n (pc := 8) C dX7_isWord_8 0 rfl ?_
    refine V.geti (pc := 9) C fl_RX7_54 sX39 (kX39 hN) rfl dX7_isWord_9 ?_
    refine V.aload_n (pc := 12) C dX7_isWord_12 0 rfl ?_
    refine V.geti (pc := 13) C fl_RX7_207 sX39 (kX39 hN) rfl dX7_isWord_13 ?_
    refine V.isub (pc := 16) C dX7_isWord_16 ?_
    refine V.sload_n (pc := 17) C dX7_isWord_17 1 rfl ?_
    refine V.callT (pc := 18) (st := [.int ((gi m 39 7) - (gi m 39 6))]) C (c_J0_length_8abf5 l k1 hk1 m) obI ck_J0_length_8abf5 ml_RX7_210 rfl hk1 rfl rfl (Nat.le_of_ble_eq_true rfl) ⟨by decide, by decide⟩ dX7_isWord_18 (fun r_1 m_2 _ => ?_)
    refine V.icmp_eq (pc := 21) C dX7_isWord_21 26 (by decide) (fun _ => ?_) (fun _ => ?_)
    · refine V.iconst (pc := 26) C dX7_isWord_26 (v := 0) (by decide) ?_
      refine V.istore_n (pc := 27) C dX7_isWord_27 (L2 := [(2, .int 0), (0, .ref 39), (1, .retAddr k1)]) (by decide) rfl ?_
      refine V.wk [1, 2, 0] rfl ?_
      exact v_X7_isWord_b28 C hN k1 hk1 FU 0 m_2
    · refine V.iconst (pc := 24) C dX7_isWord_24 (v := 0) (by decide) ?_
      exact V.zret rfl C dX7_isWord_25
theorem c_X7_isWord (l : Launch) {N : Nat} (hN : 109 ≤ N) (k1 : Nat) (hk1 : k1 < 22) (m : Mem) : Ct l yX7_isWord cX7_isWord 3 (some .boolean) 5 SX oI N N RX RX [.ref 39, .retAddr k1] m (X7_isWord k1  m) :=
  Ct.of (own := RX7) (nm := "isWord") (by decide) rfl rfl (Nat.le_of_ble_eq_true rfl) (fun _ _ _ _ _ _ _ _ _ _ _ C => v_X7_isWord C hN k1 hk1  m)
theorem dX7_blame_0 : decode cX7_blame 0 = .ok (.aload_n 0, 1) := by decide +kernel
theorem dX7_blame_1 : decode cX7_blame 1 = .ok (.getfield 45, 3) := by decide +kernel
theorem dX7_blame_4 : decode cX7_blame 4 = .ok (.ifCond .ne 16, 3) := by decide +kernel
theorem dX7_blame_7 : decode cX7_blame 7 = .ok (.aload_n 0, 1) := by decide +kernel
theorem dX7_blame_8 : decode cX7_blame 8 = .ok (.iload_n 1, 1) := by decide +kernel
theorem dX7_blame_9 : decode cX7_blame 9 = .ok (.putfield 45, 3) := by decide +kernel
theorem dX7_blame_12 : decode cX7_blame 12 = .ok (.aload_n 0, 1) := by decide +kernel
theorem dX7_blame_13 : decode cX7_blame 13 = .ok (.aload_n 0, 1) := by decide +kernel
theorem dX7_blame_14 : decode cX7_blame 14 = .ok (.getfield 207, 3) := by decide +kernel
theorem dX7_blame_17 : decode cX7_blame 17 = .ok (.putfield 32, 3) := by decide +kernel
theorem dX7_blame_20 : decode cX7_blame 20 = .ok (.iconst 0, 1) := by decide +kernel
theorem dX7_blame_21 : decode cX7_blame 21 = .ok (.ireturn, 1) := by decide +kernel
set_option maxRecDepth 100000 in
set_option maxHeartbeats 4000000 in
theorem v_X7_blame {l : Launch} {p : Program} {e : Env} {s : State} {mt : MethodId} {args : Array Value} {below : List Frame} {meth : Method} {c : Code} {A : Nat → Prop} {ad0 : Nat → Nat} {G : Gt} {N : Nat} (C : Cx G p s mt args meth c RX7 cX7_blame 2 (some .boolean) "blame" A) (hN : 109 ≤ N) (x1 : Int32) (m : Mem) : V G SX oI l p e s mt args below meth c 2 1 A ad0 N N RX N RX 0 [(0, .ref 39), (1, .int x1)] [] m (X7_blame  x1 m) := by
  rw [X7_blame]
  refine V.aload_n (pc := 0) C dX7_blame_0 0 rfl ?_
  refine V.geti (pc := 1) C fl_RX7_45 sX39 (kX39 hN) rfl dX7_blame_1 ?_
  refine V.if_ne (pc := 4) C dX7_blame_4 20 (by decide) (fun _ => ?_) (fun _ => ?_)
  · refine V.iconst (pc := 20) C dX7_blame_20 (v := 0) (by decide) ?_
    exact V.zret rfl C dX7_blame_21
  · refine V.aload_n (pc := 7) C dX7_blame_7 0 rfl ?_
    refine V.iload_n (pc := 8) C dX7_blame_8 1 rfl ?_
    refine V.puti (pc := 9) C fp_RX7_45 sX39 (kX39 hN) rfl dX7_blame_9 ?_
    refine V.ltm (fun m_1 => ?_)
    refine V.aload_n (pc := 12) C dX7_blame_12 0 rfl ?_
    refine V.aload_n (pc := 13) C dX7_blame_13 0 rfl ?_
    refine V.geti (pc := 14) C fl_RX7_207 sX39 (kX39 hN) rfl dX7_blame_14 ?_
    refine V.puti (pc := 17) C fp_RX7_32 sX39 (kX39 hN) rfl dX7_blame_17 ?_
    refine V.ltm (fun m_2 => ?_)
    refine V.iconst (pc := 20) C dX7_blame_20 (v := 0) (by decide) ?_
    exact V.zret rfl C dX7_blame_21
theorem c_X7_blame (l : Launch) {N : Nat} (hN : 109 ≤ N) (x1 : Int32) (m : Mem) : Ct l yX7_blame cX7_blame 2 (some .boolean) 1 SX oI N N RX RX [.ref 39, .int x1] m (X7_blame  x1 m) :=
  Ct.of (own := RX7) (nm := "blame") (by decide) rfl rfl (Nat.le_of_ble_eq_true rfl) (fun _ _ _ _ _ _ _ _ _ _ _ C => v_X7_blame C hN x1 m)
theorem dX7_refuse_0 : decode cX7_refuse 0 = .ok (.aload_n 0, 1) := by decide +kernel
theorem dX7_refuse_1 : decode cX7_refuse 1 = .ok (.aload_n 0, 1) := by decide +kernel
theorem dX7_refuse_2 : decode cX7_refuse 2 = .ok (.getfield 60, 3) := by decide +kernel
theorem dX7_refuse_5 : decode cX7_refuse 5 = .ok (.iconst 3, 1) := by decide +kernel
theorem dX7_refuse_6 : decode cX7_refuse 6 = .ok (.if_icmp .ne 7, 3) := by decide +kernel
theorem dX7_refuse_9 : decode cX7_refuse 9 = .ok (.iconst 1, 1) := by decide +kernel
theorem dX7_refuse_10 : decode cX7_refuse 10 = .ok (.goto 4, 3) := by decide +kernel
theorem dX7_refuse_13 : decode cX7_refuse 13 = .ok (.iconst 2, 1) := by decide +kernel
theorem dX7_refuse_14 : decode cX7_refuse 14 = .ok (.invokevirtual 123, 3) := by decide +kernel
theorem dX7_refuse_17 : decode cX7_refuse 17 = .ok (.ireturn, 1) := by decide +kernel
set_option maxRecDepth 100000 in
set_option maxHeartbeats 4000000 in
theorem v_X7_refuse {l : Launch} {p : Program} {e : Env} {s : State} {mt : MethodId} {args : Array Value} {below : List Frame} {meth : Method} {c : Code} {A : Nat → Prop} {ad0 : Nat → Nat} {G : Gt} {N : Nat} (C : Cx G p s mt args meth c RX7 cX7_refuse 1 (some .boolean) "refuse" A) (hN : 109 ≤ N) (m : Mem) : V G SX oI l p e s mt args below meth c 1 2 A ad0 N N RX N RX 0 [(0, .ref 39)] [] m (X7_refuse   m) := by
  rw [X7_refuse]
  refine V.aload_n (pc := 0) C dX7_refuse_0 0 rfl ?_
  refine V.aload_n (pc := 1) C dX7_refuse_1 0 rfl ?_
  refine V.geti (pc := 2) C fl_RX7_60 sX39 (kX39 hN) rfl dX7_refuse_2 ?_
  refine V.iconst (pc := 5) C dX7_refuse_5 (v := 3) (by decide) ?_
  refine V.icmp_ne (pc := 6) C dX7_refuse_6 13 (by decide) (fun _ => ?_) (fun _ => ?_)
  · refine V.iconst (pc := 13) C dX7_refuse_13 (v := 2) (by decide) ?_
    refine V.callV (pc := 14) (st := []) C (c_X7_blame l hN 2 m) obI ck_X7_blame ml_RX7_123 rfl rfl sX39 (kX39 hN) rfl rfl (Nat.le_of_ble_eq_true rfl) ⟨by decide, by decide⟩ dX7_refuse_14 (fun r_1 m_2 _ => ?_)
    exact V.bret C dX7_refuse_17
  · refine V.iconst (pc := 9) C dX7_refuse_9 (v := 1) (by decide) ?_
    refine V.goto (pc := 10) C dX7_refuse_10 14 (by decide) ?_
    refine V.callV (pc := 14) (st := []) C (c_X7_blame l hN 1 m) obI ck_X7_blame ml_RX7_123 rfl rfl sX39 (kX39 hN) rfl rfl (Nat.le_of_ble_eq_true rfl) ⟨by decide, by decide⟩ dX7_refuse_14 (fun r_3 m_4 _ => ?_)
    exact V.bret C dX7_refuse_17
theorem c_X7_refuse (l : Launch) {N : Nat} (hN : 109 ≤ N) (m : Mem) : Ct l yX7_refuse cX7_refuse 1 (some .boolean) 2 SX oI N N RX RX [.ref 39] m (X7_refuse   m) :=
  Ct.of (own := RX7) (nm := "refuse") (by decide) rfl rfl (Nat.le_of_ble_eq_true rfl) (fun _ _ _ _ _ _ _ _ _ _ _ C => v_X7_refuse C hN  m)
theorem dX7_readNumber_0 : decode cX7_readNumber 0 = .ok (.aload_n 0, 1) := by decide +kernel
theorem dX7_readNumber_1 : decode cX7_readNumber 1 = .ok (.getfield 60, 3) := by decide +kernel
theorem dX7_readNumber_4 : decode cX7_readNumber 4 = .ok (.iconst 2, 1) := by decide +kernel
theorem dX7_readNumber_5 : decode cX7_readNumber 5 = .ok (.if_icmp .eq 10, 3) := by decide +kernel
theorem dX7_readNumber_8 : decode cX7_readNumber 8 = .ok (.aload_n 0, 1) := by decide +kernel
theorem dX7_readNumber_9 : decode cX7_readNumber 9 = .ok (.invokevirtual 117, 3) := by decide +kernel
theorem dX7_readNumber_12 : decode cX7_readNumber 12 = .ok (.pop, 1) := by decide +kernel
theorem dX7_readNumber_13 : decode cX7_readNumber 13 = .ok (.iconst (-1), 1) := by decide +kernel
theorem dX7_readNumber_14 : decode cX7_readNumber 14 = .ok (.ireturn, 1) := by decide +kernel
theorem dX7_readNumber_15 : decode cX7_readNumber 15 = .ok (.iconst 0, 1) := by decide +kernel
theorem dX7_readNumber_16 : decode cX7_readNumber 16 = .ok (.istore_n 3, 1) := by decide +kernel
theorem dX7_readNumber_17 : decode cX7_readNumber 17 = .ok (.aload_n 0, 1) := by decide +kernel
theorem dX7_readNumber_18 : decode cX7_readNumber 18 = .ok (.getfield 207, 3) := by decide +kernel
theorem dX7_readNumber_21 : decode cX7_readNumber 21 = .ok (.istore 4, 2) := by decide +kernel
theorem dX7_readNumber_23 : decode cX7_readNumber 23 = .ok (.iload 4, 2) := by decide +kernel
theorem dX7_readNumber_25 : decode cX7_readNumber 25 = .ok (.aload_n 0, 1) := by decide +kernel
theorem dX7_readNumber_26 : decode cX7_readNumber 26 = .ok (.getfield 54, 3) := by decide +kernel
theorem dX7_readNumber_29 : decode cX7_readNumber 29 = .ok (.if_icmp .ge 34, 3) := by decide +kernel
theorem dX7_readNumber_32 : decode cX7_readNumber 32 = .ok (.iload 4, 2) := by decide +kernel
theorem dX7_readNumber_34 : decode cX7_readNumber 34 = .ok (.aload_n 0, 1) := by decide +kernel
theorem dX7_readNumber_35 : decode cX7_readNumber 35 = .ok (.getfield 42, 3) := by decide +kernel
theorem dX7_readNumber_38 : decode cX7_readNumber 38 = .ok (.if_icmp .ge 25, 3) := by decide +kernel
theorem dX7_readNumber_41 : decode cX7_readNumber 41 = .ok (.bipush 10, 2) := by decide +kernel
theorem dX7_readNumber_43 : decode cX7_readNumber 43 = .ok (.iload_n 3, 1) := by decide +kernel
theorem dX7_readNumber_44 : decode cX7_readNumber 44 = .ok (.imul, 1) := by decide +kernel
theorem dX7_readNumber_45 : decode cX7_readNumber 45 = .ok (.aload_n 0, 1) := by decide +kernel
theorem dX7_readNumber_46 : decode cX7_readNumber 46 = .ok (.getfield 9, 3) := by decide +kernel
theorem dX7_readNumber_49 : decode cX7_readNumber 49 = .ok (.iload 4, 2) := by decide +kernel
theorem dX7_readNumber_51 : decode cX7_readNumber 51 = .ok (.baload, 1) := by decide +kernel
theorem dX7_readNumber_52 : decode cX7_readNumber 52 = .ok (.iadd, 1) := by decide +kernel
theorem dX7_readNumber_53 : decode cX7_readNumber 53 = .ok (.bipush 48, 2) := by decide +kernel
theorem dX7_readNumber_55 : decode cX7_readNumber 55 = .ok (.isub, 1) := by decide +kernel
theorem dX7_readNumber_56 : decode cX7_readNumber 56 = .ok (.istore_n 3, 1) := by decide +kernel
theorem dX7_readNumber_57 : decode cX7_readNumber 57 = .ok (.iinc 4 1, 3) := by decide +kernel
theorem dX7_readNumber_60 : decode cX7_readNumber 60 = .ok (.goto (-37), 3) := by decide +kernel
theorem dX7_readNumber_63 : decode cX7_readNumber 63 = .ok (.iload_n 3, 1) := by decide +kernel
theorem dX7_readNumber_64 : decode cX7_readNumber 64 = .ok (.iload_n 1, 1) := by decide +kernel
theorem dX7_readNumber_65 : decode cX7_readNumber 65 = .ok (.if_icmp .lt 8, 3) := by decide +kernel
theorem dX7_readNumber_68 : decode cX7_readNumber 68 = .ok (.iload_n 3, 1) := by decide +kernel
theorem dX7_readNumber_69 : decode cX7_readNumber 69 = .ok (.iload_n 2, 1) := by decide +kernel
theorem dX7_readNumber_70 : decode cX7_readNumber 70 = .ok (.if_icmp .le 11, 3) := by decide +kernel
theorem dX7_readNumber_73 : decode cX7_readNumber 73 = .ok (.aload_n 0, 1) := by decide +kernel
theorem dX7_readNumber_74 : decode cX7_readNumber 74 = .ok (.iconst 3, 1) := by decide +kernel
theorem dX7_readNumber_75 : decode cX7_readNumber 75 = .ok (.invokevirtual 123, 3) := by decide +kernel
theorem dX7_readNumber_78 : decode cX7_readNumber 78 = .ok (.pop, 1) := by decide +kernel
theorem dX7_readNumber_79 : decode cX7_readNumber 79 = .ok (.iconst (-1), 1) := by decide +kernel
theorem dX7_readNumber_80 : decode cX7_readNumber 80 = .ok (.ireturn, 1) := by decide +kernel
theorem dX7_readNumber_81 : decode cX7_readNumber 81 = .ok (.aload_n 0, 1) := by decide +kernel
theorem dX7_readNumber_82 : decode cX7_readNumber 82 = .ok (.invokevirtual 57, 3) := by decide +kernel
theorem dX7_readNumber_85 : decode cX7_readNumber 85 = .ok (.iload_n 3, 1) := by decide +kernel
theorem dX7_readNumber_86 : decode cX7_readNumber 86 = .ok (.ireturn, 1) := by decide +kernel
set_option maxRecDepth 100000 in
set_option maxHeartbeats 4000000 in
theorem v_X7_readNumber_b73 {l : Launch} {p : Program} {e : Env} {s : State} {mt : MethodId} {args : Array Value} {below : List Frame} {meth : Method} {c : Code} {A : Nat → Prop} {ad0 : Nat → Nat} {G : Gt} {N : Nat} (C : Cx G p s mt args meth c RX7 cX7_readNumber 5 (some .int) "readNumber" A) (hN : 109 ≤ N) (m : Mem) : V G SX oI l p e s mt args below meth c 5 6 A ad0 N N RX N RX 73 [(0, .ref 39)] [] m (X7_readNumber_b73   m) := by
  rw [X7_readNumber_b73]
  refine V.aload_n (pc := 73) C dX7_readNumber_73 0 rfl ?_
  refine V.iconst (pc := 74) C dX7_readNumber_74 (v := 3) (by decide) ?_
  refine V.callV (pc := 75) (st := []) C (c_X7_blame l hN 3 m) obI ck_X7_blame ml_RX7_123 rfl rfl sX39 (kX39 hN) rfl rfl (Nat.le_of_ble_eq_true rfl) ⟨by decide, by decide⟩ dX7_readNumber_75 (fun r_2 m_3 _ => ?_)
  refine V.pop (pc := 78) C dX7_readNumber_78 rfl ?_
  refine V.iconst (pc := 79) C dX7_readNumber_79 (v := (-1)) (by decide) ?_
  exact V.iret C dX7_readNumber_80
set_option maxRecDepth 100000 in
set_option maxHeartbeats 4000000 in
theorem v_X7_readNumber_b63 {l : Launch} {p : Program} {e : Env} {s : State} {mt : MethodId} {args : Array Value} {below : List Frame} {meth : Method} {c : Code} {A : Nat → Prop} {ad0 : Nat → Nat} {G : Gt} {N : Nat} (C : Cx G p s mt args meth c RX7 cX7_readNumber 5 (some .int) "readNumber" A) (hN : 109 ≤ N) (y1 : Int32) (y2 : Int32) (y3 : Int32) (m : Mem) : V G SX oI l p e s mt args below meth c 5 6 A ad0 N N RX N RX 63 [(0, .ref 39), (1, .int y1), (2, .int y2), (3, .int y3)] [] m (X7_readNumber_b63  y1 y2 y3 m) := by
  rw [X7_readNumber_b63]
  refine V.iload_n (pc := 63) C dX7_readNumber_63 3 rfl ?_
  refine V.iload_n (pc := 64) C dX7_readNumber_64 1 rfl ?_
  refine V.icmp_lt (pc := 65) C dX7_readNumber_65 73 (by decide) (fun _ => ?_) (fun _ => ?_)
  · refine V.wk [0] rfl ?_
    exact v_X7_readNumber_b73 C hN  m
  · refine V.iload_n (pc := 68) C dX7_readNumber_68 3 rfl ?_
    refine V.iload_n (pc := 69) C dX7_readNumber_69 2 rfl ?_
    refine V.icmp_le (pc := 70) C dX7_readNumber_70 81 (by decide) (fun _ => ?_) (fun _ => ?_)
    · refine V.aload_n (pc := 81) C dX7_readNumber_81 0 rfl ?_
      refine V.callV (pc := 82) (st := []) C (c_X7_next l hN m) obV ck_X7_next ml_RX7_57 rfl rfl sX39 (kX39 hN) rfl rfl (Nat.le_of_ble_eq_true rfl) ⟨by decide, by decide⟩ dX7_readNumber_82 (fun r_4 m_5 _ => ?_)
      refine V.iload_n (pc := 85) C dX7_readNumber_85 3 rfl ?_
      exact V.iret C dX7_readNumber_86
    · refine V.wk [0] rfl ?_
      exact v_X7_readNumber_b73 C hN  m
set_option maxRecDepth 100000 in
set_option maxHeartbeats 4000000 in
theorem v_X7_readNumber_b23 {l : Launch} {p : Program} {e : Env} {s : State} {mt : MethodId} {args : Array Value} {below : List Frame} {meth : Method} {c : Code} {A : Nat → Prop} {ad0 : Nat → Nat} {G : Gt} {N : Nat} (C : Cx G p s mt args meth c RX7 cX7_readNumber 5 (some .int) "readNumber" A) (hN : 109 ≤ N) : ∀ (n : Nat) (y1 : Int32) (y2 : Int32) (y3 : Int32) (y4 : Int32) (m : Mem), V G SX oI l p e s mt args below meth c 5 6 A ad0 N N RX N RX 23 [(0, .ref 39), (1, .int y1), (2, .int y2), (3, .int y3), (4, .int y4)] [] m (X7_readNumber_b23  n y1 y2 y3 y4 m) := by
  intro n
  induction n with
  | zero =>
    intro y1 y2 y3 y4 m
    rw [X7_readNumber_b23]
    exact V.nil
  | succ n ih =>
    intro y1 y2 y3 y4 m
    rw [X7_readNumber_b23]
    refine V.iload (pc := 23) C dX7_readNumber_23 4 rfl ?_
    refine V.aload_n (pc := 25) C dX7_readNumber_25 0 rfl ?_
    refine V.geti (pc := 26) C fl_RX7_54 sX39 (kX39 hN) rfl dX7_readNumber_26 ?_
    refine V.icmp_ge (pc := 29) C dX7_readNumber_29 63 (by decide) (fun _ => ?_) (fun _ => ?_)
    · refine V.wk [0, 1, 2, 3] rfl ?_
      exact v_X7_readNumber_b63 C hN y1 y2 y3 m
    · refine V.iload (pc := 32) C dX7_readNumber_32 4 rfl ?_
      refine V.aload_n (pc := 34) C dX7_readNumber_34 0 rfl ?_
      refine V.geti (pc := 35) C fl_RX7_42 sX39 (kX39 hN) rfl dX7_readNumber_35 ?_
      refine V.icmp_ge (pc := 38) C dX7_readNumber_38 63 (by decide) (fun _ => ?_) (fun _ => ?_)
      · refine V.wk [0, 1, 2, 3] rfl ?_
        exact v_X7_readNumber_b63 C hN y1 y2 y3 m
      · refine V.bipush (pc := 41) C dX7_readNumber_41 (v := 10) (by decide) ?_
        refine V.iload_n (pc := 43) C dX7_readNumber_43 3 rfl ?_
        refine V.imul (pc := 44) C dX7_readNumber_44 ?_
        refine V.aload_n (pc := 45) C dX7_readNumber_45 0 rfl ?_
        refine V.getr (pc := 46) C fl_RX7_9 sX39 (kX39 hN) rfl rX39_0 dX7_readNumber_46 ?_
        refine V.iload (pc := 49) C dX7_readNumber_49 4 rfl ?_
        refine V.bald (pc := 51) C sX1 (kX1 hN) dX7_readNumber_51 (fun _ => ?_)
        refine V.iadd (pc := 52) C dX7_readNumber_52 ?_
        refine V.bipush (pc := 53) C dX7_readNumber_53 (v := 48) (by decide) ?_
        refine V.isub (pc := 55) C dX7_readNumber_55 ?_
        refine V.lti (fun x_6 _ => ?_)
        refine V.istore_n (pc := 56) C dX7_readNumber_56 (L2 := [(3, .int x_6), (0, .ref 39), (1, .int y1), (2, .int y2), (4, .int y4)]) (by decide) rfl ?_
        refine V.iinc (pc := 57) C dX7_readNumber_57 (v := 1) (L2 := [(4, .int (y4 + 1)), (3, .int x_6), (0, .ref 39), (1, .int y1), (2, .int y2)]) 4 rfl (by decide) (by decide) rfl ?_
        refine V.goto (pc := 60) C dX7_readNumber_60 23 (by decide) ?_
        refine V.wk [2, 3, 4, 1, 0] rfl ?_
        exact ih y1 y2 x_6 (y4 + 1) m
set_option maxRecDepth 100000 in
set_option maxHeartbeats 4000000 in
theorem v_X7_readNumber {l : Launch} {p : Program} {e : Env} {s : State} {mt : MethodId} {args : Array Value} {below : List Frame} {meth : Method} {c : Code} {A : Nat → Prop} {ad0 : Nat → Nat} {G : Gt} {N : Nat} (C : Cx G p s mt args meth c RX7 cX7_readNumber 5 (some .int) "readNumber" A) (hN : 109 ≤ N) (x1 : Int32) (x2 : Int32) (m : Mem) : V G SX oI l p e s mt args below meth c 5 6 A ad0 N N RX N RX 0 [(0, .ref 39), (1, .int x1), (2, .int x2)] [] m (X7_readNumber  x1 x2 m) := by
  rw [X7_readNumber]
  refine V.aload_n (pc := 0) C dX7_readNumber_0 0 rfl ?_
  refine V.geti (pc := 1) C fl_RX7_60 sX39 (kX39 hN) rfl dX7_readNumber_1 ?_
  refine V.iconst (pc := 4) C dX7_readNumber_4 (v := 2) (by decide) ?_
  refine V.icmp_eq (pc := 5) C dX7_readNumber_5 15 (by decide) (fun _ => ?_) (fun _ => ?_)
  · refine V.iconst (pc := 15) C dX7_readNumber_15 (v := 0) (by decide) ?_
    refine V.istore_n (pc := 16) C dX7_readNumber_16 (L2 := [(3, .int 0), (0, .ref 39), (1, .int x1), (2, .int x2)]) (by decide) rfl ?_
    refine V.aload_n (pc := 17) C dX7_readNumber_17 1 rfl ?_
    refine V.geti (pc := 18) C fl_RX7_207 sX39 (kX39 hN) rfl dX7_readNumber_18 ?_
    refine V.lti (fun x_1 _ => ?_)
    refine V.istore (pc := 21) C dX7_readNumber_21 (L2 := [(4, .int x_1), (3, .int 0), (0, .ref 39), (1, .int x1), (2, .int x2)]) (by decide) rfl ?_
    refine V.wk [2, 3, 4, 1, 0] rfl ?_
    exact v_X7_readNumber_b23 C hN FU x1 x2 0 x_1 m
  · refine V.aload_n (pc := 8) C dX7_readNumber_8 0 rfl ?_
    refine V.callV (pc := 9) (st := []) C (c_X7_refuse l hN m) obI ck_X7_refuse ml_RX7_117 rfl rfl sX39 (kX39 hN) rfl rfl (Nat.le_of_ble_eq_true rfl) ⟨by decide, by decide⟩ dX7_readNumber_9 (fun r_7 m_8 _ => ?_)
    refine V.pop (pc := 12) C dX7_readNumber_12 rfl ?_
    refine V.iconst (pc := 13) C dX7_readNumber_13 (v := (-1)) (by decide) ?_
    exact V.iret C dX7_readNumber_14
theorem c_X7_readNumber (l : Launch) {N : Nat} (hN : 109 ≤ N) (x1 : Int32) (x2 : Int32) (m : Mem) : Ct l yX7_readNumber cX7_readNumber 5 (some .int) 6 SX oI N N RX RX [.ref 39, .int x1, .int x2] m (X7_readNumber  x1 x2 m) :=
  Ct.of (own := RX7) (nm := "readNumber") (by decide) rfl rfl (Nat.le_of_ble_eq_true rfl) (fun _ _ _ _ _ _ _ _ _ _ _ C => v_X7_readNumber C hN x1 x2 m)
