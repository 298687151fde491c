theorem dX12_tells_0 : decode cX12_tells 0 = .ok (.aload_n 0, 1) := by decide +kernel
theorem dX12_tells_1 : decode cX12_tells 1 = .ok (.iconst 0, 1) := by decide +kernel
theorem dX12_tells_2 : decode cX12_tells 2 = .ok (.putfield 284, 3) := by decide +kernel
theorem dX12_tells_5 : decode cX12_tells 5 = .ok (.iconst 0, 1) := by decide +kernel
theorem dX12_tells_6 : decode cX12_tells 6 = .ok (.istore_n 2, 1) := by decide +kernel
theorem dX12_tells_7 : decode cX12_tells 7 = .ok (.iload_n 2, 1) := by decide +kernel
theorem dX12_tells_8 : decode cX12_tells 8 = .ok (.aload_n 0, 1) := by decide +kernel
theorem dX12_tells_9 : decode cX12_tells 9 = .ok (.getfield 60, 3) := by decide +kernel
theorem dX12_tells_12 : decode cX12_tells 12 = .ok (.iload_n 1, 1) := by decide +kernel
theorem dX12_tells_13 : decode cX12_tells 13 = .ok (.iaload, 1) := by decide +kernel
theorem dX12_tells_14 : decode cX12_tells 14 = .ok (.if_icmp .ge 53, 3) := by decide +kernel
theorem dX12_tells_17 : decode cX12_tells 17 = .ok (.aload_n 0, 1) := by decide +kernel
theorem dX12_tells_18 : decode cX12_tells 18 = .ok (.aload_n 0, 1) := by decide +kernel
theorem dX12_tells_19 : decode cX12_tells 19 = .ok (.aload_n 0, 1) := by decide +kernel
theorem dX12_tells_20 : decode cX12_tells 20 = .ok (.getfield 63, 3) := by decide +kernel
theorem dX12_tells_23 : decode cX12_tells 23 = .ok (.bipush 40, 2) := by decide +kernel
theorem dX12_tells_25 : decode cX12_tells 25 = .ok (.iload_n 1, 1) := by decide +kernel
theorem dX12_tells_26 : decode cX12_tells 26 = .ok (.imul, 1) := by decide +kernel
theorem dX12_tells_27 : decode cX12_tells 27 = .ok (.iload_n 2, 1) := by decide +kernel
theorem dX12_tells_28 : decode cX12_tells 28 = .ok (.iadd, 1) := by decide +kernel
theorem dX12_tells_29 : decode cX12_tells 29 = .ok (.laload, 1) := by decide +kernel
theorem dX12_tells_30 : decode cX12_tells 30 = .ok (.invokevirtual 273, 3) := by decide +kernel
theorem dX12_tells_33 : decode cX12_tells 33 = .ok (.putfield 284, 3) := by decide +kernel
theorem dX12_tells_36 : decode cX12_tells 36 = .ok (.aload_n 0, 1) := by decide +kernel
theorem dX12_tells_37 : decode cX12_tells 37 = .ok (.getfield 284, 3) := by decide +kernel
theorem dX12_tells_40 : decode cX12_tells 40 = .ok (.ifCond .eq 5, 3) := by decide +kernel
theorem dX12_tells_43 : decode cX12_tells 43 = .ok (.iload_n 2, 1) := by decide +kernel
theorem dX12_tells_44 : decode cX12_tells 44 = .ok (.ireturn, 1) := by decide +kernel
theorem dX12_tells_45 : decode cX12_tells 45 = .ok (.aload_n 0, 1) := by decide +kernel
theorem dX12_tells_46 : decode cX12_tells 46 = .ok (.aload_n 0, 1) := by decide +kernel
theorem dX12_tells_47 : decode cX12_tells 47 = .ok (.getfield 63, 3) := by decide +kernel
theorem dX12_tells_50 : decode cX12_tells 50 = .ok (.bipush 40, 2) := by decide +kernel
theorem dX12_tells_52 : decode cX12_tells 52 = .ok (.iload_n 1, 1) := by decide +kernel
theorem dX12_tells_53 : decode cX12_tells 53 = .ok (.imul, 1) := by decide +kernel
theorem dX12_tells_54 : decode cX12_tells 54 = .ok (.iload_n 2, 1) := by decide +kernel
theorem dX12_tells_55 : decode cX12_tells 55 = .ok (.iadd, 1) := by decide +kernel
theorem dX12_tells_56 : decode cX12_tells 56 = .ok (.laload, 1) := by decide +kernel
theorem dX12_tells_57 : decode cX12_tells 57 = .ok (.l2i, 1) := by decide +kernel
theorem dX12_tells_58 : decode cX12_tells 58 = .ok (.invokevirtual 277, 3) := by decide +kernel
theorem dX12_tells_61 : decode cX12_tells 61 = .ok (.iinc 2 1, 3) := by decide +kernel
theorem dX12_tells_64 : decode cX12_tells 64 = .ok (.goto (-57), 3) := by decide +kernel
theorem dX12_tells_67 : decode cX12_tells 67 = .ok (.aload_n 0, 1) := by decide +kernel
theorem dX12_tells_68 : decode cX12_tells 68 = .ok (.getfield 60, 3) := by decide +kernel
theorem dX12_tells_71 : decode cX12_tells 71 = .ok (.iload_n 1, 1) := by decide +kernel
theorem dX12_tells_72 : decode cX12_tells 72 = .ok (.iaload, 1) := by decide +kernel
theorem dX12_tells_73 : decode cX12_tells 73 = .ok (.ireturn, 1) := by decide +kernel
set_option maxRecDepth 100000 in
set_option maxHeartbeats 4000000 in
theorem v_X12_tells_b7 {l : Launch} {p : Program} {e : Env} {s : State} {mt : MethodId} {args : Array Value} {below : List Frame} {meth : Method} {c : Code} {A : Nat → Prop} {ad0 : Nat → Nat} {G : Gt}  (C : Cx G p s mt args meth c RX12 cX12_tells 3 (some .int) "tells" A)  : ∀ (n : Nat) (y1 : Int32) (y2 : Int32) (m : Mem), V G SM oI l p e s mt args below meth c 3 7 A ad0 17 17 RM 17 RM 7 [(0, .ref 0), (1, .int y1), (2, .int y2)] [] m (X12_tells_b7  n y1 y2 m) := by
  intro n
  induction n with
  | zero =>
    intro y1 y2 m
    rw [X12_tells_b7]
    exact V.nil
  | succ n ih =>
    intro y1 y2 m
    rw [X12_tells_b7]
    refine V.iload_n (pc := 7) C dX12_tells_7 2 rfl ?_
    refine V.aload_n (pc := 8) C dX12_tells_8 0 rfl ?_
    refine V.getr (pc := 9) C fl_RX12_60 sM0 kM0 rfl rM0_31 dX12_tells_9 ?_
    refine V.iload_n (pc := 12) C dX12_tells_12 1 rfl ?_
    refine V.iald (pc := 13) C sM15 kM15 dX12_tells_13 (fun _ => ?_)
    refine V.icmp_ge (pc := 14) C dX12_tells_14 67 (by decide) (fun _ => ?_) (fun _ => ?_)
    · refine V.aload_n (pc := 67) C dX12_tells_67 0 rfl ?_
      refine V.getr (pc := 68) C fl_RX12_60 sM0 kM0 rfl rM0_31 dX12_tells_68 ?_
      refine V.iload_n (pc := 71) C dX12_tells_71 1 rfl ?_
      refine V.iald (pc := 72) C sM15 kM15 dX12_tells_72 (fun _ => ?_)
      exact V.iret C dX12_tells_73
    · refine V.aload_n (pc := 17) C dX12_tells_17 0 rfl ?_
      refine V.aload_n (pc := 18) C dX12_tells_18 0 rfl ?_
      refine V.aload_n (pc := 19) C dX12_tells_19 0 rfl ?_
      refine V.getr (pc := 20) C fl_RX12_63 sM0 kM0 rfl rM0_32 dX12_tells_20 ?_
      refine V.bipush (pc := 23) C dX12_tells_23 (v := 40) (by decide) ?_
      refine V.iload_n (pc := 25) C dX12_tells_25 1 rfl ?_
      refine V.imul (pc := 26) C dX12_tells_26 ?_
      refine V.iload_n (pc := 27) C dX12_tells_27 2 rfl ?_
      refine V.iadd (pc := 28) C dX12_tells_28 ?_
      refine V.lald (pc := 29) C sM16 kM16 dX12_tells_29 (fun _ => ?_)
      refine V.callV (pc := 30) (st := [.ref 0]) C (c_X12_whyNot l (gl m 16 (ix ((40 * y1) + y2))) m) obI ck_X12_whyNot ml_RX12_273 rfl rfl sM0 kM0 rfl rfl (Nat.le_of_ble_eq_true rfl) ⟨by decide, by decide⟩ dX12_tells_30 (fun r_2 m_3 _ => ?_)
      refine V.puti (pc := 33) C fp_RX12_284 sM0 kM0 rfl dX12_tells_33 ?_
      refine V.ltm (fun m_4 => ?_)
      refine V.aload_n (pc := 36) C dX12_tells_36 0 rfl ?_
      refine V.geti (pc := 37) C fl_RX12_284 sM0 kM0 rfl dX12_tells_37 ?_
      refine V.if_eq (pc := 40) C dX12_tells_40 45 (by decide) (fun _ => ?_) (fun _ => ?_)
      · refine V.aload_n (pc := 45) C dX12_tells_45 0 rfl ?_
        refine V.aload_n (pc := 46) C dX12_tells_46 0 rfl ?_
        refine V.getr (pc := 47) C fl_RX12_63 sM0 kM0 rfl rM0_32 dX12_tells_47 ?_
        refine V.bipush (pc := 50) C dX12_tells_50 (v := 40) (by decide) ?_
        refine V.iload_n (pc := 52) C dX12_tells_52 1 rfl ?_
        refine V.imul (pc := 53) C dX12_tells_53 ?_
        refine V.iload_n (pc := 54) C dX12_tells_54 2 rfl ?_
        refine V.iadd (pc := 55) C dX12_tells_55 ?_
        refine V.lald (pc := 56) C sM16 kM16 dX12_tells_56 (fun _ => ?_)
        refine V.l2i (pc := 57) C dX12_tells_57 ?_
        refine V.callV (pc := 58) (st := []) C (c_X12_does l (Int64.toInt32 (gl m_4 16 (ix ((40 * y1) + y2)))) m_4) obV ck_X12_does ml_RX12_277 rfl rfl sM0 kM0 rfl rfl (Nat.le_of_ble_eq_true rfl) ⟨by decide, by decide⟩ dX12_tells_58 (fun r_5 m_6 _ => ?_)
        refine V.iinc (pc := 61) C dX12_tells_61 (v := 1) (L2 := [(2, .int (y2 + 1)), (0, .ref 0), (1, .int y1)]) 2 rfl (by decide) (by decide) rfl ?_
        refine V.goto (pc := 64) C dX12_tells_64 7 (by decide) ?_
        refine V.wk [1, 2, 0] rfl ?_
        exact ih y1 (y2 + 1) m_6
      · refine V.iload_n (pc := 43) C dX12_tells_43 2 rfl ?_
        exact V.iret C dX12_tells_44
set_option maxRecDepth 100000 in
set_option maxHeartbeats 4000000 in
theorem v_X12_tells {l : Launch} {p : Program} {e : Env} {s : State} {mt : MethodId} {args : Array Value} {below : List Frame} {meth : Method} {c : Code} {A : Nat → Prop} {ad0 : Nat → Nat} {G : Gt}  (C : Cx G p s mt args meth c RX12 cX12_tells 3 (some .int) "tells" A)  (x1 : Int32) (m : Mem) : V G SM oI l p e s mt args below meth c 3 7 A ad0 17 17 RM 17 RM 0 [(0, .ref 0), (1, .int x1)] [] m (X12_tells  x1 m) := by
  rw [X12_tells]
  refine V.aload_n (pc := 0) C dX12_tells_0 0 rfl ?_
  refine V.iconst (pc := 1) C dX12_tells_1 (v := 0) (by decide) ?_
  refine V.puti (pc := 2) C fp_RX12_284 sM0 kM0 rfl dX12_tells_2 ?_
  refine V.ltm (fun m_1 => ?_)
  refine V.iconst (pc := 5) C dX12_tells_5 (v := 0) (by decide) ?_
  refine V.istore_n (pc := 6) C dX12_tells_6 (L2 := [(2, .int 0), (0, .ref 0), (1, .int x1)]) (by decide) rfl ?_
  refine V.wk [1, 2, 0] rfl ?_
  exact v_X12_tells_b7 C  FU x1 0 m_1
theorem c_X12_tells (l : Launch)   (x1 : Int32) (m : Mem) : Ct l yX12_tells cX12_tells 3 (some .int) 7 SM oI 17 17 RM RM [.ref 0, .int x1] m (X12_tells  x1 m) :=
  Ct.of (own := RX12) (nm := "tells") (by decide) rfl rfl (Nat.le_of_ble_eq_true rfl) (fun _ _ _ _ _ _ _ _ _ _ _ C => v_X12_tells C  x1 m)
theorem dX12_judge_0 : decode cX12_judge 0 = .ok (.aload_n 0, 1) := by decide +kernel
theorem dX12_judge_1 : decode cX12_judge 1 = .ok (.iconst 0, 1) := by decide +kernel
theorem dX12_judge_2 : decode cX12_judge 2 = .ok (.putfield 1, 3) := by decide +kernel
theorem dX12_judge_5 : decode cX12_judge 5 = .ok (.iload_n 2, 1) := by decide +kernel
theorem dX12_judge_6 : decode cX12_judge 6 = .ok (.i2l, 1) := by decide +kernel
theorem dX12_judge_7 : decode cX12_judge 7 = .ok (.lconst 0, 1) := by decide +kernel
theorem dX12_judge_8 : decode cX12_judge 8 = .ok (.ldc2_w 287, 3) := by decide +kernel
theorem dX12_judge_11 : decode cX12_judge 11 = .ok (.invokestatic 133, 3) := by decide +kernel
theorem dX12_judge_14 : decode cX12_judge 14 = .ok (.ifCond .ne 6, 3) := by decide +kernel
theorem dX12_judge_17 : decode cX12_judge 17 = .ok (.bipush (-2), 2) := by decide +kernel
theorem dX12_judge_19 : decode cX12_judge 19 = .ok (.ireturn, 1) := by decide +kernel
theorem dX12_judge_20 : decode cX12_judge 20 = .ok (.aload_n 0, 1) := by decide +kernel
theorem dX12_judge_21 : decode cX12_judge 21 = .ok (.iload_n 1, 1) := by decide +kernel
theorem dX12_judge_22 : decode cX12_judge 22 = .ok (.invokevirtual 289, 3) := by decide +kernel
theorem dX12_judge_25 : decode cX12_judge 25 = .ok (.istore_n 3, 1) := by decide +kernel
theorem dX12_judge_26 : decode cX12_judge 26 = .ok (.iload_n 3, 1) := by decide +kernel
theorem dX12_judge_27 : decode cX12_judge 27 = .ok (.ifCond .eq 5, 3) := by decide +kernel
theorem dX12_judge_30 : decode cX12_judge 30 = .ok (.iload_n 3, 1) := by decide +kernel
theorem dX12_judge_31 : decode cX12_judge 31 = .ok (.ireturn, 1) := by decide +kernel
theorem dX12_judge_32 : decode cX12_judge 32 = .ok (.aload_n 0, 1) := by decide +kernel
theorem dX12_judge_33 : decode cX12_judge 33 = .ok (.invokevirtual 267, 3) := by decide +kernel
theorem dX12_judge_36 : decode cX12_judge 36 = .ok (.aload_n 0, 1) := by decide +kernel
theorem dX12_judge_37 : decode cX12_judge 37 = .ok (.iload_n 1, 1) := by decide +kernel
theorem dX12_judge_38 : decode cX12_judge 38 = .ok (.invokevirtual 292, 3) := by decide +kernel
theorem dX12_judge_41 : decode cX12_judge 41 = .ok (.istore 4, 2) := by decide +kernel
theorem dX12_judge_43 : decode cX12_judge 43 = .ok (.iconst 2, 1) := by decide +kernel
theorem dX12_judge_44 : decode cX12_judge 44 = .ok (.aload_n 0, 1) := by decide +kernel
theorem dX12_judge_45 : decode cX12_judge 45 = .ok (.invokevirtual 295, 3) := by decide +kernel
theorem dX12_judge_48 : decode cX12_judge 48 = .ok (.imul, 1) := by decide +kernel
theorem dX12_judge_49 : decode cX12_judge 49 = .ok (.istore 5, 2) := by decide +kernel
theorem dX12_judge_51 : decode cX12_judge 51 = .ok (.aload_n 0, 1) := by decide +kernel
theorem dX12_judge_52 : decode cX12_judge 52 = .ok (.invokevirtual 298, 3) := by decide +kernel
theorem dX12_judge_55 : decode cX12_judge 55 = .ok (.istore 6, 2) := by decide +kernel
theorem dX12_judge_57 : decode cX12_judge 57 = .ok (.aload_n 0, 1) := by decide +kernel
theorem dX12_judge_58 : decode cX12_judge 58 = .ok (.invokevirtual 301, 3) := by decide +kernel
theorem dX12_judge_61 : decode cX12_judge 61 = .ok (.iload_n 2, 1) := by decide +kernel
theorem dX12_judge_62 : decode cX12_judge 62 = .ok (.ifCond .ne 19, 3) := by decide +kernel
theorem dX12_judge_65 : decode cX12_judge 65 = .ok (.aload_n 0, 1) := by decide +kernel
theorem dX12_judge_66 : decode cX12_judge 66 = .ok (.getfield 284, 3) := by decide +kernel
theorem dX12_judge_69 : decode cX12_judge 69 = .ok (.ifCond .ne 7, 3) := by decide +kernel
theorem dX12_judge_72 : decode cX12_judge 72 = .ok (.iconst (-1), 1) := by decide +kernel
theorem dX12_judge_73 : decode cX12_judge 73 = .ok (.goto 32, 3) := by decide +kernel
theorem dX12_judge_76 : decode cX12_judge 76 = .ok (.iload 4, 2) := by decide +kernel
theorem dX12_judge_78 : decode cX12_judge 78 = .ok (.goto 27, 3) := by decide +kernel
theorem dX12_judge_81 : decode cX12_judge 81 = .ok (.iload_n 2, 1) := by decide +kernel
theorem dX12_judge_82 : decode cX12_judge 82 = .ok (.iconst 1, 1) := by decide +kernel
theorem dX12_judge_83 : decode cX12_judge 83 = .ok (.if_icmp .ne 10, 3) := by decide +kernel
theorem dX12_judge_86 : decode cX12_judge 86 = .ok (.aload_n 0, 1) := by decide +kernel
theorem dX12_judge_87 : decode cX12_judge 87 = .ok (.getfield 284, 3) := by decide +kernel
theorem dX12_judge_90 : decode cX12_judge 90 = .ok (.goto 15, 3) := by decide +kernel
theorem dX12_judge_93 : decode cX12_judge 93 = .ok (.iload_n 2, 1) := by decide +kernel
theorem dX12_judge_94 : decode cX12_judge 94 = .ok (.iconst 2, 1) := by decide +kernel
theorem dX12_judge_95 : decode cX12_judge 95 = .ok (.if_icmp .ne 8, 3) := by decide +kernel
theorem dX12_judge_98 : decode cX12_judge 98 = .ok (.iload 5, 2) := by decide +kernel
theorem dX12_judge_100 : decode cX12_judge 100 = .ok (.goto 5, 3) := by decide +kernel
theorem dX12_judge_103 : decode cX12_judge 103 = .ok (.iload 6, 2) := by decide +kernel
theorem dX12_judge_105 : decode cX12_judge 105 = .ok (.ireturn, 1) := by decide +kernel
set_option maxRecDepth 100000 in
set_option maxHeartbeats 4000000 in
theorem v_X12_judge {l : Launch} {p : Program} {e : Env} {s : State} {mt : MethodId} {args : Array Value} {below : List Frame} {meth : Method} {c : Code} {A : Nat → Prop} {ad0 : Nat → Nat} {G : Gt}  (C : Cx G p s mt args meth c RX12 cX12_judge 7 (some .int) "judge" A)  (x1 : Int32) (x2 : Int32) (m : Mem) : V G SM oI l p e s mt args below meth c 7 8 A ad0 17 17 RM 17 RM 0 [(0, .ref 0), (1, .int x1), (2, .int x2)] [] m (X12_judge  x1 x2 m) := by
  rw [X12_judge]
  refine V.aload_n (pc := 0) C dX12_judge_0 0 rfl ?_
  refine V.iconst (pc := 1) C dX12_judge_1 (v := 0) (by decide) ?_
  refine V.puti (pc := 2) C fp_RX12_1 sM0 kM0 rfl dX12_judge_2 ?_
  refine V.ltm (fun m_1 => ?_)
  refine V.iload_n (pc := 5) C dX12_judge_5 2 rfl ?_
  refine V.i2l (pc := 6) C dX12_judge_6 ?_
  refine V.lconst (pc := 7) C dX12_judge_7 (v := 0) (by decide) ?_
  refine V.ldc2 (pc := 8) C dX12_judge_8 (v := 3) cl_RX12_287 ?_
  refine V.callS (pc := 11) (st := []) C (c_X12_within l (Int32.toInt64 x2) 0 3 m_1) obI ck_X12_within ml_RX12_133 rfl rfl (Nat.le_of_ble_eq_true rfl) ⟨by decide, by decide⟩ dX12_judge_11 (fun r_2 m_3 _ => ?_)
  refine V.if_ne (pc := 14) C dX12_judge_14 20 (by decide) (fun _ => ?_) (fun _ => ?_)
  · refine V.aload_n (pc := 20) C dX12_judge_20 0 rfl ?_
    refine V.iload_n (pc := 21) C dX12_judge_21 1 rfl ?_
    refine V.callV (pc := 22) (st := []) C (c_X12_noTray l x1 m_3) obI ck_X12_noTray ml_RX12_289 rfl rfl sM0 kM0 rfl rfl (Nat.le_of_ble_eq_true rfl) ⟨by decide, by decide⟩ dX12_judge_22 (fun r_4 m_5 _ => ?_)
    refine V.istore_n (pc := 25) C dX12_judge_25 (L2 := [(3, .int r_4), (0, .ref 0), (1, .int x1), (2, .int x2)]) (by decide) rfl ?_
    refine V.iload_n (pc := 26) C dX12_judge_26 0 rfl ?_
    refine V.if_eq (pc := 27) C dX12_judge_27 32 (by decide) (fun _ => ?_) (fun _ => ?_)
    · refine V.aload_n (pc := 32) C dX12_judge_32 1 rfl ?_
      refine V.callV (pc := 33) (st := []) C (c_X12_keeps l  m_5) obV ck_X12_keeps ml_RX12_267 rfl rfl sM0 kM0 rfl rfl (Nat.le_of_ble_eq_true rfl) ⟨by decide, by decide⟩ dX12_judge_33 (fun r_6 m_7 _ => ?_)
      refine V.aload_n (pc := 36) C dX12_judge_36 1 rfl ?_
      refine V.iload_n (pc := 37) C dX12_judge_37 2 rfl ?_
      refine V.callV (pc := 38) (st := []) C (c_X12_tells l x1 m_7) obI ck_X12_tells ml_RX12_292 rfl rfl sM0 kM0 rfl rfl (Nat.le_of_ble_eq_true rfl) ⟨by decide, by decide⟩ dX12_judge_38 (fun r_8 m_9 _ => ?_)
      refine V.istore (pc := 41) C dX12_judge_41 (L2 := [(4, .int r_8), (3, .int r_4), (0, .ref 0), (1, .int x1), (2, .int x2)]) (by decide) rfl ?_
      refine V.iconst (pc := 43) C dX12_judge_43 (v := 2) (by decide) ?_
      refine V.aload_n (pc := 44) C dX12_judge_44 2 rfl ?_
      refine V.callV (pc := 45) (st := [.int 2]) C (c_X12_wedMany l  m_9) obI ck_X12_wedMany ml_RX12_295 rfl rfl sM0 kM0 rfl rfl (Nat.le_of_ble_eq_true rfl) ⟨by decide, by decide⟩ dX12_judge_45 (fun r_10 m_11 _ => ?_)
      refine V.imul (pc := 48) C dX12_judge_48 ?_
      refine V.lti (fun x_12 _ => ?_)
      refine V.istore (pc := 49) C dX12_judge_49 (L2 := [(5, .int x_12), (4, .int r_8), (3, .int r_4), (0, .ref 0), (1, .int x1), (2, .int x2)]) (by decide) rfl ?_
      refine V.aload_n (pc := 51) C dX12_judge_51 3 rfl ?_
      refine V.callV (pc := 52) (st := []) C (c_X12_goodOfWed l  m_11) obI ck_X12_goodOfWed ml_RX12_298 rfl rfl sM0 kM0 rfl rfl (Nat.le_of_ble_eq_true rfl) ⟨by decide, by decide⟩ dX12_judge_52 (fun r_13 m_14 _ => ?_)
      refine V.istore (pc := 55) C dX12_judge_55 (L2 := [(6, .int r_13), (5, .int x_12), (4, .int r_8), (3, .int r_4), (0, .ref 0), (1, .int x1), (2, .int x2)]) (by decide) rfl ?_
      refine V.aload_n (pc := 57) C dX12_judge_57 4 rfl ?_
      refine V.callV (pc := 58) (st := []) C (c_X12_isAgain l  m_14) obV ck_X12_isAgain ml_RX12_301 rfl rfl sM0 kM0 rfl rfl (Nat.le_of_ble_eq_true rfl) ⟨by decide, by decide⟩ dX12_judge_58 (fun r_15 m_16 _ => ?_)
      refine V.iload_n (pc := 61) C dX12_judge_61 6 rfl ?_
      refine V.if_ne (pc := 62) C dX12_judge_62 81 (by decide) (fun _ => ?_) (fun _ => ?_)
      · refine V.iload_n (pc := 81) C dX12_judge_81 6 rfl ?_
        refine V.iconst (pc := 82) C dX12_judge_82 (v := 1) (by decide) ?_
        refine V.icmp_ne (pc := 83) C dX12_judge_83 93 (by decide) (fun _ => ?_) (fun _ => ?_)
        · refine V.iload_n (pc := 93) C dX12_judge_93 6 rfl ?_
          refine V.iconst (pc := 94) C dX12_judge_94 (v := 2) (by decide) ?_
          refine V.icmp_ne (pc := 95) C dX12_judge_95 103 (by decide) (fun _ => ?_) (fun _ => ?_)
          · refine V.iload (pc := 103) C dX12_judge_103 0 rfl ?_
            exact V.iret C dX12_judge_105
          · refine V.iload (pc := 98) C dX12_judge_98 1 rfl ?_
            refine V.goto (pc := 100) C dX12_judge_100 105 (by decide) ?_
            exact V.iret C dX12_judge_105
        · refine V.aload_n (pc := 86) C dX12_judge_86 4 rfl ?_
          refine V.geti (pc := 87) C fl_RX12_284 sM0 kM0 rfl dX12_judge_87 ?_
          refine V.goto (pc := 90) C dX12_judge_90 105 (by decide) ?_
          exact V.iret C dX12_judge_105
      · refine V.aload_n (pc := 65) C dX12_judge_65 4 rfl ?_
        refine V.geti (pc := 66) C fl_RX12_284 sM0 kM0 rfl dX12_judge_66 ?_
        refine V.if_ne (pc := 69) C dX12_judge_69 76 (by decide) (fun _ => ?_) (fun _ => ?_)
        · refine V.iload (pc := 76) C dX12_judge_76 2 rfl ?_
          refine V.goto (pc := 78) C dX12_judge_78 105 (by decide) ?_
          exact V.iret C dX12_judge_105
        · refine V.iconst (pc := 72) C dX12_judge_72 (v := (-1)) (by decide) ?_
          refine V.goto (pc := 73) C dX12_judge_73 105 (by decide) ?_
          exact V.iret C dX12_judge_105
    · refine V.iload_n (pc := 30) C dX12_judge_30 0 rfl ?_
      exact V.iret C dX12_judge_31
  · refine V.bipush (pc := 17) C dX12_judge_17 (v := (-2)) (by decide) ?_
    exact V.iret C dX12_judge_19
theorem c_X12_judge (l : Launch)   (x1 : Int32) (x2 : Int32) (m : Mem) : Ct l yX12_judge cX12_judge 7 (some .int) 8 SM oI 17 17 RM RM [.ref 0, .int x1, .int x2] m (X12_judge  x1 x2 m) :=
  Ct.of (own := RX12) (nm := "judge") (by decide) rfl rfl (Nat.le_of_ble_eq_true rfl) (fun _ _ _ _ _ _ _ _ _ _ _ C => v_X12_judge C  x1 x2 m)
theorem dX12_lasting_0 : decode cX12_lasting 0 = .ok (.aload_n 0, 1) := by decide +kernel
theorem dX12_lasting_1 : decode cX12_lasting 1 = .ok (.iconst 0, 1) := by decide +kernel
theorem dX12_lasting_2 : decode cX12_lasting 2 = .ok (.putfield 1, 3) := by decide +kernel
theorem dX12_lasting_5 : decode cX12_lasting 5 = .ok (.aload_n 0, 1) := by decide +kernel
theorem dX12_lasting_6 : decode cX12_lasting 6 = .ok (.iload_n 2, 1) := by decide +kernel
theorem dX12_lasting_7 : decode cX12_lasting 7 = .ok (.invokevirtual 355, 3) := by decide +kernel
theorem dX12_lasting_10 : decode cX12_lasting 10 = .ok (.ifCond .ne 6, 3) := by decide +kernel
theorem dX12_lasting_13 : decode cX12_lasting 13 = .ok (.bipush (-2), 2) := by decide +kernel
theorem dX12_lasting_15 : decode cX12_lasting 15 = .ok (.ireturn, 1) := by decide +kernel
theorem dX12_lasting_16 : decode cX12_lasting 16 = .ok (.iload_n 1, 1) := by decide +kernel
theorem dX12_lasting_17 : decode cX12_lasting 17 = .ok (.i2l, 1) := by decide +kernel
theorem dX12_lasting_18 : decode cX12_lasting 18 = .ok (.lconst 0, 1) := by decide +kernel
theorem dX12_lasting_19 : decode cX12_lasting 19 = .ok (.ldc2_w 311, 3) := by decide +kernel
theorem dX12_lasting_22 : decode cX12_lasting 22 = .ok (.invokestatic 133, 3) := by decide +kernel
theorem dX12_lasting_25 : decode cX12_lasting 25 = .ok (.ifCond .ne 6, 3) := by decide +kernel
theorem dX12_lasting_28 : decode cX12_lasting 28 = .ok (.bipush (-3), 2) := by decide +kernel
theorem dX12_lasting_30 : decode cX12_lasting 30 = .ok (.ireturn, 1) := by decide +kernel
theorem dX12_lasting_31 : decode cX12_lasting 31 = .ok (.aload_n 0, 1) := by decide +kernel
theorem dX12_lasting_32 : decode cX12_lasting 32 = .ok (.iconst 0, 1) := by decide +kernel
theorem dX12_lasting_33 : decode cX12_lasting 33 = .ok (.iload_n 1, 1) := by decide +kernel
theorem dX12_lasting_34 : decode cX12_lasting 34 = .ok (.invokevirtual 348, 3) := by decide +kernel
theorem dX12_lasting_37 : decode cX12_lasting 37 = .ok (.aload_n 0, 1) := by decide +kernel
theorem dX12_lasting_38 : decode cX12_lasting 38 = .ok (.iconst 0, 1) := by decide +kernel
theorem dX12_lasting_39 : decode cX12_lasting 39 = .ok (.iconst 0, 1) := by decide +kernel
theorem dX12_lasting_40 : decode cX12_lasting 40 = .ok (.invokevirtual 351, 3) := by decide +kernel
theorem dX12_lasting_43 : decode cX12_lasting 43 = .ok (.aload_n 0, 1) := by decide +kernel
theorem dX12_lasting_44 : decode cX12_lasting 44 = .ok (.iload_n 2, 1) := by decide +kernel
theorem dX12_lasting_45 : decode cX12_lasting 45 = .ok (.invokevirtual 358, 3) := by decide +kernel
theorem dX12_lasting_48 : decode cX12_lasting 48 = .ok (.ireturn, 1) := by decide +kernel
set_option maxRecDepth 100000 in
set_option maxHeartbeats 4000000 in
theorem v_X12_lasting {l : Launch} {p : Program} {e : Env} {s : State} {mt : MethodId} {args : Array Value} {below : List Frame} {meth : Method} {c : Code} {A : Nat → Prop} {ad0 : Nat → Nat} {G : Gt}  (C : Cx G p s mt args meth c RX12 cX12_lasting 3 (some .int) "lasting" A)  (x1 : Int32) (x2 : Int32) (m : Mem) : V G SM oI l p e s mt args below meth c 3 69 A ad0 17 17 RM 17 RM 0 [(0, .ref 0), (1, .int x1), (2, .int x2)] [] m (X12_lasting  x1 x2 m) := by
  rw [X12_lasting]
  refine V.aload_n (pc := 0) C dX12_lasting_0 0 rfl ?_
  refine V.iconst (pc := 1) C dX12_lasting_1 (v := 0) (by decide) ?_
  refine V.puti (pc := 2) C fp_RX12_1 sM0 kM0 rfl dX12_lasting_2 ?_
  refine V.ltm (fun m_1 => ?_)
  refine V.aload_n (pc := 5) C dX12_lasting_5 0 rfl ?_
  refine V.iload_n (pc := 6) C dX12_lasting_6 2 rfl ?_
  refine V.callV (pc := 7) (st := []) C (c_X12_asksPerson l x2 m_1) obI ck_X12_asksPerson ml_RX12_355 rfl rfl sM0 kM0 rfl rfl (Nat.le_of_ble_eq_true rfl) ⟨by decide, by decide⟩ dX12_lasting_7 (fun r_2 m_3 _ => ?_)
  refine V.if_ne (pc := 10) C dX12_lasting_10 16 (by decide) (fun _ => ?_) (fun _ => ?_)
  · refine V.iload_n (pc := 16) C dX12_lasting_16 1 rfl ?_
    refine V.i2l (pc := 17) C dX12_lasting_17 ?_
    refine V.lconst (pc := 18) C dX12_lasting_18 (v := 0) (by decide) ?_
    refine V.ldc2 (pc := 19) C dX12_lasting_19 (v := 40) cl_RX12_311 ?_
    refine V.callS (pc := 22) (st := []) C (c_X12_within l (Int32.toInt64 x1) 0 40 m_3) obI ck_X12_within ml_RX12_133 rfl rfl (Nat.le_of_ble_eq_true rfl) ⟨by decide, by decide⟩ dX12_lasting_22 (fun r_4 m_5 _ => ?_)
    refine V.if_ne (pc := 25) C dX12_lasting_25 31 (by decide) (fun _ => ?_) (fun _ => ?_)
    · refine V.aload_n (pc := 31) C dX12_lasting_31 0 rfl ?_
      refine V.iconst (pc := 32) C dX12_lasting_32 (v := 0) (by decide) ?_
      refine V.iload_n (pc := 33) C dX12_lasting_33 1 rfl ?_
      refine V.callV (pc := 34) (st := []) C (c_X12_laysPairs l 0 x1 m_5) obV ck_X12_laysPairs ml_RX12_348 rfl rfl sM0 kM0 rfl rfl (Nat.le_of_ble_eq_true rfl) ⟨by decide, by decide⟩ dX12_lasting_34 (fun r_6 m_7 _ => ?_)
      refine V.aload_n (pc := 37) C dX12_lasting_37 0 rfl ?_
      refine V.iconst (pc := 38) C dX12_lasting_38 (v := 0) (by decide) ?_
      refine V.iconst (pc := 39) C dX12_lasting_39 (v := 0) (by decide) ?_
      refine V.callV (pc := 40) (st := []) C (c_X12_begins l 0 0 m_7) obV ck_X12_begins ml_RX12_351 rfl rfl sM0 kM0 rfl rfl (Nat.le_of_ble_eq_true rfl) ⟨by decide, by decide⟩ dX12_lasting_40 (fun r_8 m_9 _ => ?_)
      refine V.aload_n (pc := 43) C dX12_lasting_43 0 rfl ?_
      refine V.iload_n (pc := 44) C dX12_lasting_44 2 rfl ?_
      refine V.callV (pc := 45) (st := []) C (c_X12_found l x2 m_9) obI ck_X12_found ml_RX12_358 rfl rfl sM0 kM0 rfl rfl (Nat.le_of_ble_eq_true rfl) ⟨by decide, by decide⟩ dX12_lasting_45 (fun r_10 m_11 _ => ?_)
      exact V.iret C dX12_lasting_48
    · refine V.bipush (pc := 28) C dX12_lasting_28 (v := (-3)) (by decide) ?_
      exact V.iret C dX12_lasting_30
  · refine V.bipush (pc := 13) C dX12_lasting_13 (v := (-2)) (by decide) ?_
    exact V.iret C dX12_lasting_15
theorem c_X12_lasting (l : Launch)   (x1 : Int32) (x2 : Int32) (m : Mem) : Ct l yX12_lasting cX12_lasting 3 (some .int) 69 SM oI 17 17 RM RM [.ref 0, .int x1, .int x2] m (X12_lasting  x1 x2 m) :=
  Ct.of (own := RX12) (nm := "lasting") (by decide) rfl rfl (Nat.le_of_ble_eq_true rfl) (fun _ _ _ _ _ _ _ _ _ _ _ C => v_X12_lasting C  x1 x2 m)
theorem dX12_later_0 : decode cX12_later 0 = .ok (.aload_n 0, 1) := by decide +kernel
theorem dX12_later_1 : decode cX12_later 1 = .ok (.iconst 0, 1) := by decide +kernel
theorem dX12_later_2 : decode cX12_later 2 = .ok (.putfield 1, 3) := by decide +kernel
theorem dX12_later_5 : decode cX12_later 5 = .ok (.aload_n 0, 1) := by decide +kernel
theorem dX12_later_6 : decode cX12_later 6 = .ok (.iload_n 1, 1) := by decide +kernel
theorem dX12_later_7 : decode cX12_later 7 = .ok (.i2l, 1) := by decide +kernel
theorem dX12_later_8 : decode cX12_later 8 = .ok (.invokevirtual 194, 3) := by decide +kernel
theorem dX12_later_11 : decode cX12_later 11 = .ok (.ifCond .ne 6, 3) := by decide +kernel
theorem dX12_later_14 : decode cX12_later 14 = .ok (.bipush (-2), 2) := by decide +kernel
theorem dX12_later_16 : decode cX12_later 16 = .ok (.ireturn, 1) := by decide +kernel
theorem dX12_later_17 : decode cX12_later 17 = .ok (.iload_n 2, 1) := by decide +kernel
theorem dX12_later_18 : decode cX12_later 18 = .ok (.i2l, 1) := by decide +kernel
theorem dX12_later_19 : decode cX12_later 19 = .ok (.lconst 0, 1) := by decide +kernel
theorem dX12_later_20 : decode cX12_later 20 = .ok (.ldc2_w 280, 3) := by decide +kernel
theorem dX12_later_23 : decode cX12_later 23 = .ok (.invokestatic 133, 3) := by decide +kernel
theorem dX12_later_26 : decode cX12_later 26 = .ok (.ifCond .ne 6, 3) := by decide +kernel
theorem dX12_later_29 : decode cX12_later 29 = .ok (.bipush (-3), 2) := by decide +kernel
theorem dX12_later_31 : decode cX12_later 31 = .ok (.ireturn, 1) := by decide +kernel
theorem dX12_later_32 : decode cX12_later 32 = .ok (.aload_n 0, 1) := by decide +kernel
theorem dX12_later_33 : decode cX12_later 33 = .ok (.invokevirtual 361, 3) := by decide +kernel
theorem dX12_later_36 : decode cX12_later 36 = .ok (.iconst 0, 1) := by decide +kernel
theorem dX12_later_37 : decode cX12_later 37 = .ok (.istore_n 3, 1) := by decide +kernel
theorem dX12_later_38 : decode cX12_later 38 = .ok (.iload_n 3, 1) := by decide +kernel
theorem dX12_later_39 : decode cX12_later 39 = .ok (.iload_n 2, 1) := by decide +kernel
theorem dX12_later_40 : decode cX12_later 40 = .ok (.if_icmp .ge 16, 3) := by decide +kernel
theorem dX12_later_43 : decode cX12_later 43 = .ok (.aload_n 0, 1) := by decide +kernel
theorem dX12_later_44 : decode cX12_later 44 = .ok (.iconst (-1), 1) := by decide +kernel
theorem dX12_later_45 : decode cX12_later 45 = .ok (.iconst (-1), 1) := by decide +kernel
theorem dX12_later_46 : decode cX12_later 46 = .ok (.invokevirtual 255, 3) := by decide +kernel
theorem dX12_later_49 : decode cX12_later 49 = .ok (.pop, 1) := by decide +kernel
theorem dX12_later_50 : decode cX12_later 50 = .ok (.iinc 3 1, 3) := by decide +kernel
theorem dX12_later_53 : decode cX12_later 53 = .ok (.goto (-15), 3) := by decide +kernel
theorem dX12_later_56 : decode cX12_later 56 = .ok (.aload_n 0, 1) := by decide +kernel
theorem dX12_later_57 : decode cX12_later 57 = .ok (.iload_n 1, 1) := by decide +kernel
theorem dX12_later_58 : decode cX12_later 58 = .ok (.invokevirtual 207, 3) := by decide +kernel
theorem dX12_later_61 : decode cX12_later 61 = .ok (.istore_n 3, 1) := by decide +kernel
theorem dX12_later_62 : decode cX12_later 62 = .ok (.aload_n 0, 1) := by decide +kernel
theorem dX12_later_63 : decode cX12_later 63 = .ok (.invokevirtual 364, 3) := by decide +kernel
theorem dX12_later_66 : decode cX12_later 66 = .ok (.iload_n 3, 1) := by decide +kernel
theorem dX12_later_67 : decode cX12_later 67 = .ok (.ireturn, 1) := by decide +kernel
set_option maxRecDepth 100000 in
set_option maxHeartbeats 4000000 in
theorem v_X12_later_b38 {l : Launch} {p : Program} {e : Env} {s : State} {mt : MethodId} {args : Array Value} {below : List Frame} {meth : Method} {c : Code} {A : Nat → Prop} {ad0 : Nat → Nat} {G : Gt}  (C : Cx G p s mt args meth c RX12 cX12_later 4 (some .int) "later" A)  : ∀ (n : Nat) (y1 : Int32) (y2 : Int32) (y3 : Int32) (m : Mem), V G SM oI l p e s mt args below meth c 4 4 A ad0 17 17 RM 17 RM 38 [(0, .ref 0), (1, .int y1), (2, .int y2), (3, .int y3)] [] m (X12_later_b38  n y1 y2 y3 m) := by
  intro n
  induction n with
  | zero =>
    intro y1 y2 y3 m
    rw [X12_later_b38]
    exact V.nil
  | succ n ih =>
    intro y1 y2 y3 m
    rw [X12_later_b38]
    refine V.iload_n (pc := 38) C dX12_later_38 3 rfl ?_
    refine V.iload_n (pc := 39) C dX12_later_39 2 rfl ?_
    refine V.icmp_ge (pc := 40) C dX12_later_40 56 (by decide) (fun _ => ?_) (fun _ => ?_)
    · refine V.aload_n (pc := 56) C dX12_later_56 0 rfl ?_
      refine V.iload_n (pc := 57) C dX12_later_57 1 rfl ?_
      refine V.callV (pc := 58) (st := []) C (c_X12_listOf l y1 m) obI ck_X12_listOf ml_RX12_207 rfl rfl sM0 kM0 rfl rfl (Nat.le_of_ble_eq_true rfl) ⟨by decide, by decide⟩ dX12_later_58 (fun r_8 m_9 _ => ?_)
      refine V.istore_n (pc := 61) C dX12_later_61 (L2 := [(3, .int r_8), (0, .ref 0), (1, .int y1), (2, .int y2)]) (by decide) rfl ?_
      refine V.aload_n (pc := 62) C dX12_later_62 1 rfl ?_
      refine V.callV (pc := 63) (st := []) C (c_X12_isAhead l  m_9) obV ck_X12_isAhead ml_RX12_364 rfl rfl sM0 kM0 rfl rfl (Nat.le_of_ble_eq_true rfl) ⟨by decide, by decide⟩ dX12_later_63 (fun r_10 m_11 _ => ?_)
      refine V.iload_n (pc := 66) C dX12_later_66 0 rfl ?_
      exact V.iret C dX12_later_67
    · refine V.aload_n (pc := 43) C dX12_later_43 0 rfl ?_
      refine V.iconst (pc := 44) C dX12_later_44 (v := (-1)) (by decide) ?_
      refine V.iconst (pc := 45) C dX12_later_45 (v := (-1)) (by decide) ?_
      refine V.callV (pc := 46) (st := []) C (c_X12_year l (-1) (-1) m) obI ck_X12_year ml_RX12_255 rfl rfl sM0 kM0 rfl rfl (Nat.le_of_ble_eq_true rfl) ⟨by decide, by decide⟩ dX12_later_46 (fun r_12 m_13 _ => ?_)
      refine V.pop (pc := 49) C dX12_later_49 rfl ?_
      refine V.iinc (pc := 50) C dX12_later_50 (v := 1) (L2 := [(3, .int (y3 + 1)), (0, .ref 0), (1, .int y1), (2, .int y2)]) 3 rfl (by decide) (by decide) rfl ?_
      refine V.goto (pc := 53) C dX12_later_53 38 (by decide) ?_
      refine V.wk [1, 2, 3, 0] rfl ?_
      exact ih y1 y2 (y3 + 1) m_13
set_option maxRecDepth 100000 in
set_option maxHeartbeats 4000000 in
theorem v_X12_later {l : Launch} {p : Program} {e : Env} {s : State} {mt : MethodId} {args : Array Value} {below : List Frame} {meth : Method} {c : Code} {A : Nat → Prop} {ad0 : Nat → Nat} {G : Gt}  (C : Cx G p s mt args meth c RX12 cX12_later 4 (some .int) "later" A)  (x1 : Int32) (x2 : Int32) (m : Mem) : V G SM oI l p e s mt args below meth c 4 4 A ad0 17 17 RM 17 RM 0 [(0, .ref 0), (1, .int x1), (2, .int x2)] [] m (X12_later  x1 x2 m) := by
  rw [X12_later]
  refine V.aload_n (pc := 0) C dX12_later_0 0 rfl ?_
  refine V.iconst (pc := 1) C dX12_later_1 (v := 0) (by decide) ?_
  refine V.puti (pc := 2) C fp_RX12_1 sM0 kM0 rfl dX12_later_2 ?_
  refine V.ltm (fun m_1 => ?_)
  refine V.aload_n (pc := 5) C dX12_later_5 0 rfl ?_
  refine V.iload_n (pc := 6) C dX12_later_6 1 rfl ?_
  refine V.i2l (pc := 7) C dX12_later_7 ?_
  refine V.callV (pc := 8) (st := []) C (c_X12_isPerson l (Int32.toInt64 x1) m_1) obI ck_X12_isPerson ml_RX12_194 rfl rfl sM0 kM0 rfl rfl (Nat.le_of_ble_eq_true rfl) ⟨by decide, by decide⟩ dX12_later_8 (fun r_2 m_3 _ => ?_)
  refine V.if_ne (pc := 11) C dX12_later_11 17 (by decide) (fun _ => ?_) (fun _ => ?_)
  · refine V.iload_n (pc := 17) C dX12_later_17 2 rfl ?_
    refine V.i2l (pc := 18) C dX12_later_18 ?_
    refine V.lconst (pc := 19) C dX12_later_19 (v := 0) (by decide) ?_
    refine V.ldc2 (pc := 20) C dX12_later_20 (v := 60) cl_RX12_280 ?_
    refine V.callS (pc := 23) (st := []) C (c_X12_within l (Int32.toInt64 x2) 0 60 m_3) obI ck_X12_within ml_RX12_133 rfl rfl (Nat.le_of_ble_eq_true rfl) ⟨by decide, by decide⟩ dX12_later_23 (fun r_4 m_5 _ => ?_)
    refine V.if_ne (pc := 26) C dX12_later_26 32 (by decide) (fun _ => ?_) (fun _ => ?_)
    · refine V.aload_n (pc := 32) C dX12_later_32 0 rfl ?_
      refine V.callV (pc := 33) (st := []) C (c_X12_keepsAhead l  m_5) obV ck_X12_keepsAhead ml_RX12_361 rfl rfl sM0 kM0 rfl rfl (Nat.le_of_ble_eq_true rfl) ⟨by decide, by decide⟩ dX12_later_33 (fun r_6 m_7 _ => ?_)
      refine V.iconst (pc := 36) C dX12_later_36 (v := 0) (by decide) ?_
      refine V.istore_n (pc := 37) C dX12_later_37 (L2 := [(3, .int 0), (0, .ref 0), (1, .int x1), (2, .int x2)]) (by decide) rfl ?_
      refine V.wk [1, 2, 3, 0] rfl ?_
      exact v_X12_later_b38 C  FU x1 x2 0 m_7
    · refine V.bipush (pc := 29) C dX12_later_29 (v := (-3)) (by decide) ?_
      exact V.iret C dX12_later_31
  · refine V.bipush (pc := 14) C dX12_later_14 (v := (-2)) (by decide) ?_
    exact V.iret C dX12_later_16
theorem c_X12_later (l : Launch)   (x1 : Int32) (x2 : Int32) (m : Mem) : Ct l yX12_later cX12_later 4 (some .int) 4 SM oI 17 17 RM RM [.ref 0, .int x1, .int x2] m (X12_later  x1 x2 m) :=
  Ct.of (own := RX12) (nm := "later") (by decide) rfl rfl (Nat.le_of_ble_eq_true rfl) (fun _ _ _ _ _ _ _ _ _ _ _ C => v_X12_later C  x1 x2 m)
theorem dX12_leftFor_0 : decode cX12_leftFor 0 = .ok (.aload_n 0, 1) := by decide +kernel
theorem dX12_leftFor_1 : decode cX12_leftFor 1 = .ok (.iconst 0, 1) := by decide +kernel
theorem dX12_leftFor_2 : decode cX12_leftFor 2 = .ok (.putfield 1, 3) := by decide +kernel
theorem dX12_leftFor_5 : decode cX12_leftFor 5 = .ok (.aload_n 0, 1) := by decide +kernel
theorem dX12_leftFor_6 : decode cX12_leftFor 6 = .ok (.iload_n 1, 1) := by decide +kernel
theorem dX12_leftFor_7 : decode cX12_leftFor 7 = .ok (.i2l, 1) := by decide +kernel
theorem dX12_leftFor_8 : decode cX12_leftFor 8 = .ok (.iload_n 2, 1) := by decide +kernel
theorem dX12_leftFor_9 : decode cX12_leftFor 9 = .ok (.i2l, 1) := by decide +kernel
theorem dX12_leftFor_10 : decode cX12_leftFor 10 = .ok (.invokevirtual 234, 3) := by decide +kernel
theorem dX12_leftFor_13 : decode cX12_leftFor 13 = .ok (.ifCond .eq 13, 3) := by decide +kernel
theorem dX12_leftFor_16 : decode cX12_leftFor 16 = .ok (.iload_n 3, 1) := by decide +kernel
theorem dX12_leftFor_17 : decode cX12_leftFor 17 = .ok (.i2l, 1) := by decide +kernel
theorem dX12_leftFor_18 : decode cX12_leftFor 18 = .ok (.lconst 0, 1) := by decide +kernel
theorem dX12_leftFor_19 : decode cX12_leftFor 19 = .ok (.lconst 1, 1) := by decide +kernel
theorem dX12_leftFor_20 : decode cX12_leftFor 20 = .ok (.invokestatic 133, 3) := by decide +kernel
theorem dX12_leftFor_23 : decode cX12_leftFor 23 = .ok (.ifCond .ne 6, 3) := by decide +kernel
theorem dX12_leftFor_26 : decode cX12_leftFor 26 = .ok (.bipush (-2), 2) := by decide +kernel
theorem dX12_leftFor_28 : decode cX12_leftFor 28 = .ok (.ireturn, 1) := by decide +kernel
theorem dX12_leftFor_29 : decode cX12_leftFor 29 = .ok (.iconst (-1), 1) := by decide +kernel
theorem dX12_leftFor_30 : decode cX12_leftFor 30 = .ok (.istore 4, 2) := by decide +kernel
theorem dX12_leftFor_32 : decode cX12_leftFor 32 = .ok (.iconst 0, 1) := by decide +kernel
theorem dX12_leftFor_33 : decode cX12_leftFor 33 = .ok (.istore 5, 2) := by decide +kernel
theorem dX12_leftFor_35 : decode cX12_leftFor 35 = .ok (.iload 5, 2) := by decide +kernel
theorem dX12_leftFor_37 : decode cX12_leftFor 37 = .ok (.iconst 1, 1) := by decide +kernel
theorem dX12_leftFor_38 : decode cX12_leftFor 38 = .ok (.aload_n 0, 1) := by decide +kernel
theorem dX12_leftFor_39 : decode cX12_leftFor 39 = .ok (.getfield 13, 3) := by decide +kernel
theorem dX12_leftFor_42 : decode cX12_leftFor 42 = .ok (.iconst 2, 1) := by decide +kernel
theorem dX12_leftFor_43 : decode cX12_leftFor 43 = .ok (.iaload, 1) := by decide +kernel
theorem dX12_leftFor_44 : decode cX12_leftFor 44 = .ok (.ishl, 1) := by decide +kernel
theorem dX12_leftFor_45 : decode cX12_leftFor 45 = .ok (.if_icmp .ge 78, 3) := by decide +kernel
theorem dX12_leftFor_48 : decode cX12_leftFor 48 = .ok (.iload 5, 2) := by decide +kernel
theorem dX12_leftFor_50 : decode cX12_leftFor 50 = .ok (.i2l, 1) := by decide +kernel
theorem dX12_leftFor_51 : decode cX12_leftFor 51 = .ok (.iload_n 1, 1) := by decide +kernel
theorem dX12_leftFor_52 : decode cX12_leftFor 52 = .ok (.invokestatic 175, 3) := by decide +kernel
theorem dX12_leftFor_55 : decode cX12_leftFor 55 = .ok (.ifCond .ne 62, 3) := by decide +kernel
theorem dX12_leftFor_58 : decode cX12_leftFor 58 = .ok (.iload 5, 2) := by decide +kernel
theorem dX12_leftFor_60 : decode cX12_leftFor 60 = .ok (.i2l, 1) := by decide +kernel
theorem dX12_leftFor_61 : decode cX12_leftFor 61 = .ok (.iload_n 2, 1) := by decide +kernel
theorem dX12_leftFor_62 : decode cX12_leftFor 62 = .ok (.invokestatic 175, 3) := by decide +kernel
theorem dX12_leftFor_65 : decode cX12_leftFor 65 = .ok (.ifCond .ne 52, 3) := by decide +kernel
theorem dX12_leftFor_68 : decode cX12_leftFor 68 = .ok (.iload 4, 2) := by decide +kernel
theorem dX12_leftFor_70 : decode cX12_leftFor 70 = .ok (.iconst (-1), 1) := by decide +kernel
theorem dX12_leftFor_71 : decode cX12_leftFor 71 = .ok (.if_icmp .eq 19, 3) := by decide +kernel
theorem dX12_leftFor_74 : decode cX12_leftFor 74 = .ok (.iload 5, 2) := by decide +kernel
theorem dX12_leftFor_76 : decode cX12_leftFor 76 = .ok (.invokestatic 201, 3) := by decide +kernel
theorem dX12_leftFor_79 : decode cX12_leftFor 79 = .ok (.iload 4, 2) := by decide +kernel
theorem dX12_leftFor_81 : decode cX12_leftFor 81 = .ok (.invokestatic 201, 3) := by decide +kernel
theorem dX12_leftFor_84 : decode cX12_leftFor 84 = .ok (.if_icmp .lt 6, 3) := by decide +kernel
theorem dX12_leftFor_87 : decode cX12_leftFor 87 = .ok (.goto 30, 3) := by decide +kernel
theorem dX12_leftFor_90 : decode cX12_leftFor 90 = .ok (.aload_n 0, 1) := by decide +kernel
theorem dX12_leftFor_91 : decode cX12_leftFor 91 = .ok (.iload 5, 2) := by decide +kernel
theorem dX12_leftFor_93 : decode cX12_leftFor 93 = .ok (.iconst 0, 1) := by decide +kernel
theorem dX12_leftFor_94 : decode cX12_leftFor 94 = .ok (.invokevirtual 348, 3) := by decide +kernel
theorem dX12_leftFor_97 : decode cX12_leftFor 97 = .ok (.aload_n 0, 1) := by decide +kernel
theorem dX12_leftFor_98 : decode cX12_leftFor 98 = .ok (.iconst 0, 1) := by decide +kernel
theorem dX12_leftFor_99 : decode cX12_leftFor 99 = .ok (.iconst 0, 1) := by decide +kernel
theorem dX12_leftFor_100 : decode cX12_leftFor 100 = .ok (.invokevirtual 351, 3) := by decide +kernel
theorem dX12_leftFor_103 : decode cX12_leftFor 103 = .ok (.aload_n 0, 1) := by decide +kernel
theorem dX12_leftFor_104 : decode cX12_leftFor 104 = .ok (.getfield 48, 3) := by decide +kernel
theorem dX12_leftFor_107 : decode cX12_leftFor 107 = .ok (.iload_n 1, 1) := by decide +kernel
theorem dX12_leftFor_108 : decode cX12_leftFor 108 = .ok (.iaload, 1) := by decide +kernel
theorem dX12_leftFor_109 : decode cX12_leftFor 109 = .ok (.iload_n 2, 1) := by decide +kernel
theorem dX12_leftFor_110 : decode cX12_leftFor 110 = .ok (.if_icmp .ne 7, 3) := by decide +kernel
theorem dX12_leftFor_113 : decode cX12_leftFor 113 = .ok (.iload 5, 2) := by decide +kernel
theorem dX12_leftFor_115 : decode cX12_leftFor 115 = .ok (.istore 4, 2) := by decide +kernel
theorem dX12_leftFor_117 : decode cX12_leftFor 117 = .ok (.iinc 5 1, 3) := by decide +kernel
theorem dX12_leftFor_120 : decode cX12_leftFor 120 = .ok (.goto (-85), 3) := by decide +kernel
theorem dX12_leftFor_123 : decode cX12_leftFor 123 = .ok (.iload 4, 2) := by decide +kernel
theorem dX12_leftFor_125 : decode cX12_leftFor 125 = .ok (.iconst (-1), 1) := by decide +kernel
theorem dX12_leftFor_126 : decode cX12_leftFor 126 = .ok (.if_icmp .eq 8, 3) := by decide +kernel
theorem dX12_leftFor_129 : decode cX12_leftFor 129 = .ok (.iload_n 3, 1) := by decide +kernel
theorem dX12_leftFor_130 : decode cX12_leftFor 130 = .ok (.iconst 1, 1) := by decide +kernel
theorem dX12_leftFor_131 : decode cX12_leftFor 131 = .ok (.if_icmp .ne 8, 3) := by decide +kernel
theorem dX12_leftFor_134 : decode cX12_leftFor 134 = .ok (.iload 4, 2) := by decide +kernel
theorem dX12_leftFor_136 : decode cX12_leftFor 136 = .ok (.goto 8, 3) := by decide +kernel
theorem dX12_leftFor_139 : decode cX12_leftFor 139 = .ok (.iload 4, 2) := by decide +kernel
theorem dX12_leftFor_141 : decode cX12_leftFor 141 = .ok (.invokestatic 201, 3) := by decide +kernel
theorem dX12_leftFor_144 : decode cX12_leftFor 144 = .ok (.ireturn, 1) := by decide +kernel
set_option maxRecDepth 100000 in
set_option maxHeartbeats 4000000 in
theorem v_X12_leftFor_b90 {l : Launch} {p : Program} {e : Env} {s : State} {mt : MethodId} {args : Array Value} {below : List Frame} {meth : Method} {c : Code} {A : Nat → Prop} {ad0 : Nat → Nat} {G : Gt}  (C : Cx G p s mt args meth c RX12 cX12_leftFor 6 (some .int) "leftFor" A) (k35 : Int32 → Int32 → Int32 → Int32 → Int32 → Mem → Option (Int32 × Mem)) (h35 : ∀ (y1 : Int32) (y2 : Int32) (y3 : Int32) (y4 : Int32) (y5 : Int32) (m : Mem), V G SM oI l p e s mt args below meth c 6 69 A ad0 17 17 RM 17 RM 35 [(0, .ref 0), (1, .int y1), (2, .int y2), (3, .int y3), (4, .int y4), (5, .int y5)] [] m (k35 y1 y2 y3 y4 y5 m)) (y1 : Int32) (y2 : Int32) (y3 : Int32) (y4 : Int32) (y5 : Int32) (m : Mem) : V G SM oI l p e s mt args below meth c 6 69 A ad0 17 17 RM 17 RM 90 [(0, .ref 0), (1, .int y1), (2, .int y2), (3, .int y3), (4, .int y4), (5, .int y5)] [] m (X12_leftFor_b90 k35 y1 y2 y3 y4 y5 m) := by
  rw [X12_leftFor_b90]
  refine V.aload_n (pc := 90) C dX12_leftFor_90 0 rfl ?_
  refine V.iload (pc := 91) C dX12_leftFor_91 5 rfl ?_
  refine V.iconst (pc := 93) C dX12_leftFor_93 (v := 0) (by decide) ?_
  refine V.callV (pc := 94) (st := []) C (c_X12_laysPairs l y5 0 m) obV ck_X12_laysPairs ml_RX12_348 rfl rfl sM0 kM0 rfl rfl (Nat.le_of_ble_eq_true rfl) ⟨by decide, by decide⟩ dX12_leftFor_94 (fun r_12 m_13 _ => ?_)
  refine V.aload_n (pc := 97) C dX12_leftFor_97 0 rfl ?_
  refine V.iconst (pc := 98) C dX12_leftFor_98 (v := 0) (by decide) ?_
  refine V.iconst (pc := 99) C dX12_leftFor_99 (v := 0) (by decide) ?_
  refine V.callV (pc := 100) (st := []) C (c_X12_begins l 0 0 m_13) obV ck_X12_begins ml_RX12_351 rfl rfl sM0 kM0 rfl rfl (Nat.le_of_ble_eq_true rfl) ⟨by decide, by decide⟩ dX12_leftFor_100 (fun r_14 m_15 _ => ?_)
  refine V.aload_n (pc := 103) C dX12_leftFor_103 0 rfl ?_
  refine V.getr (pc := 104) C fl_RX12_48 sM0 kM0 rfl rM0_23 dX12_leftFor_104 ?_
  refine V.iload_n (pc := 107) C dX12_leftFor_107 1 rfl ?_
  refine V.iald (pc := 108) C sM11 kM11 dX12_leftFor_108 (fun _ => ?_)
  refine V.iload_n (pc := 109) C dX12_leftFor_109 2 rfl ?_
  refine V.icmp_ne (pc := 110) C dX12_leftFor_110 117 (by decide) (fun _ => ?_) (fun _ => ?_)
  · refine V.iinc (pc := 117) C dX12_leftFor_117 (v := 1) (L2 := [(5, .int (y5 + 1)), (0, .ref 0), (1, .int y1), (2, .int y2), (3, .int y3), (4, .int y4)]) 5 rfl (by decide) (by decide) rfl ?_
    refine V.goto (pc := 120) C dX12_leftFor_120 35 (by decide) ?_
    refine V.wk [1, 2, 3, 4, 5, 0] rfl ?_
    exact h35 y1 y2 y3 y4 (y5 + 1) m_15
  · refine V.iload (pc := 113) C dX12_leftFor_113 5 rfl ?_
    refine V.istore (pc := 115) C dX12_leftFor_115 (L2 := [(4, .int y5), (0, .ref 0), (1, .int y1), (2, .int y2), (3, .int y3), (5, .int y5)]) (by decide) rfl ?_
    refine V.iinc (pc := 117) C dX12_leftFor_117 (v := 1) (L2 := [(5, .int (y5 + 1)), (4, .int y5), (0, .ref 0), (1, .int y1), (2, .int y2), (3, .int y3)]) 5 rfl (by decide) (by decide) rfl ?_
    refine V.goto (pc := 120) C dX12_leftFor_120 35 (by decide) ?_
    refine V.wk [2, 3, 4, 5, 1, 0] rfl ?_
    exact h35 y1 y2 y3 y5 (y5 + 1) m_15
set_option maxRecDepth 100000 in
set_option maxHeartbeats 4000000 in
theorem v_X12_leftFor_b35 {l : Launch} {p : Program} {e : Env} {s : State} {mt : MethodId} {args : Array Value} {below : List Frame} {meth : Method} {c : Code} {A : Nat → Prop} {ad0 : Nat → Nat} {G : Gt}  (C : Cx G p s mt args meth c RX12 cX12_leftFor 6 (some .int) "leftFor" A)  : ∀ (n : Nat) (y1 : Int32) (y2 : Int32) (y3 : Int32) (y4 : Int32) (y5 : Int32) (m : Mem), V G SM oI l p e s mt args below meth c 6 69 A ad0 17 17 RM 17 RM 35 [(0, .ref 0), (1, .int y1), (2, .int y2), (3, .int y3), (4, .int y4), (5, .int y5)] [] m (X12_leftFor_b35  n y1 y2 y3 y4 y5 m) := by
  intro n
  induction n with
  | zero =>
    intro y1 y2 y3 y4 y5 m
    rw [X12_leftFor_b35]
    exact V.nil
  | succ n ih =>
    intro y1 y2 y3 y4 y5 m
    rw [X12_leftFor_b35]
    refine V.iload (pc := 35) C dX12_leftFor_35 5 rfl ?_
    refine V.iconst (pc := 37) C dX12_leftFor_37 (v := 1) (by decide) ?_
    refine V.aload_n (pc := 38) C dX12_leftFor_38 0 rfl ?_
    refine V.getr (pc := 39) C fl_RX12_13 sM0 kM0 rfl rM0_1 dX12_leftFor_39 ?_
    refine V.iconst (pc := 42) C dX12_leftFor_42 (v := 2) (by decide) ?_
    refine V.iald (pc := 43) C sM1 kM1 dX12_leftFor_43 (fun _ => ?_)
    refine V.ishl (pc := 44) C dX12_leftFor_44 ?_
    refine V.icmp_ge (pc := 45) C dX12_leftFor_45 123 (by decide) (fun _ => ?_) (fun _ => ?_)
    · refine V.iload (pc := 123) C dX12_leftFor_123 4 rfl ?_
      refine V.iconst (pc := 125) C dX12_leftFor_125 (v := (-1)) (by decide) ?_
      refine V.icmp_eq (pc := 126) C dX12_leftFor_126 134 (by decide) (fun _ => ?_) (fun _ => ?_)
      · refine V.iload (pc := 134) C dX12_leftFor_134 4 rfl ?_
        refine V.goto (pc := 136) C dX12_leftFor_136 144 (by decide) ?_
        exact V.iret C dX12_leftFor_144
      · refine V.iload_n (pc := 129) C dX12_leftFor_129 3 rfl ?_
        refine V.iconst (pc := 130) C dX12_leftFor_130 (v := 1) (by decide) ?_
        refine V.icmp_ne (pc := 131) C dX12_leftFor_131 139 (by decide) (fun _ => ?_) (fun _ => ?_)
        · refine V.iload (pc := 139) C dX12_leftFor_139 4 rfl ?_
          refine V.callS (pc := 141) (st := []) C (c_X12_bitsOf l y4 m) obI ck_X12_bitsOf ml_RX12_201 rfl rfl (Nat.le_of_ble_eq_true rfl) ⟨by decide, by decide⟩ dX12_leftFor_141 (fun r_6 m_7 _ => ?_)
          exact V.iret C dX12_leftFor_144
        · refine V.iload (pc := 134) C dX12_leftFor_134 4 rfl ?_
          refine V.goto (pc := 136) C dX12_leftFor_136 144 (by decide) ?_
          exact V.iret C dX12_leftFor_144
    · refine V.iload (pc := 48) C dX12_leftFor_48 5 rfl ?_
      refine V.i2l (pc := 50) C dX12_leftFor_50 ?_
      refine V.iload_n (pc := 51) C dX12_leftFor_51 1 rfl ?_
      refine V.callS (pc := 52) (st := []) C (c_X12_isIn l (Int32.toInt64 y5) y1 m) obI ck_X12_isIn ml_RX12_175 rfl rfl (Nat.le_of_ble_eq_true rfl) ⟨by decide, by decide⟩ dX12_leftFor_52 (fun r_8 m_9 _ => ?_)
      refine V.if_ne (pc := 55) C dX12_leftFor_55 117 (by decide) (fun _ => ?_) (fun _ => ?_)
      · refine V.iinc (pc := 117) C dX12_leftFor_117 (v := 1) (L2 := [(5, .int (y5 + 1)), (0, .ref 0), (1, .int y1), (2, .int y2), (3, .int y3), (4, .int y4)]) 5 rfl (by decide) (by decide) rfl ?_
        refine V.goto (pc := 120) C dX12_leftFor_120 35 (by decide) ?_
        refine V.wk [1, 2, 3, 4, 5, 0] rfl ?_
        exact ih y1 y2 y3 y4 (y5 + 1) m_9
      · refine V.iload (pc := 58) C dX12_leftFor_58 5 rfl ?_
        refine V.i2l (pc := 60) C dX12_leftFor_60 ?_
        refine V.iload_n (pc := 61) C dX12_leftFor_61 2 rfl ?_
        refine V.callS (pc := 62) (st := []) C (c_X12_isIn l (Int32.toInt64 y5) y2 m_9) obI ck_X12_isIn ml_RX12_175 rfl rfl (Nat.le_of_ble_eq_true rfl) ⟨by decide, by decide⟩ dX12_leftFor_62 (fun r_10 m_11 _ => ?_)
        refine V.if_ne (pc := 65) C dX12_leftFor_65 117 (by decide) (fun _ => ?_) (fun _ => ?_)
        · refine V.iinc (pc := 117) C dX12_leftFor_117 (v := 1) (L2 := [(5, .int (y5 + 1)), (0, .ref 0), (1, .int y1), (2, .int y2), (3, .int y3), (4, .int y4)]) 5 rfl (by decide) (by decide) rfl ?_
          refine V.goto (pc := 120) C dX12_leftFor_120 35 (by decide) ?_
          refine V.wk [1, 2, 3, 4, 5, 0] rfl ?_
          exact ih y1 y2 y3 y4 (y5 + 1) m_11
        · refine V.iload (pc := 68) C dX12_leftFor_68 4 rfl ?_
          refine V.iconst (pc := 70) C dX12_leftFor_70 (v := (-1)) (by decide) ?_
          refine V.icmp_eq (pc := 71) C dX12_leftFor_71 90 (by decide) (fun _ => ?_) (fun _ => ?_)
          · refine V.wk [0, 1, 2, 3, 4, 5] rfl ?_
            exact v_X12_leftFor_b90 C (X12_leftFor_b35 n) ih y1 y2 y3 y4 y5 m_11
          · refine V.iload (pc := 74) C dX12_leftFor_74 5 rfl ?_
            refine V.callS (pc := 76) (st := []) C (c_X12_bitsOf l y5 m_11) obI ck_X12_bitsOf ml_RX12_201 rfl rfl (Nat.le_of_ble_eq_true rfl) ⟨by decide, by decide⟩ dX12_leftFor_76 (fun r_16 m_17 _ => ?_)
            refine V.iload (pc := 79) C dX12_leftFor_79 4 rfl ?_
            refine V.callS (pc := 81) (st := [.int r_16]) C (c_X12_bitsOf l y4 m_17) obI ck_X12_bitsOf ml_RX12_201 rfl rfl (Nat.le_of_ble_eq_true rfl) ⟨by decide, by decide⟩ dX12_leftFor_81 (fun r_18 m_19 _ => ?_)
            refine V.icmp_lt (pc := 84) C dX12_leftFor_84 90 (by decide) (fun _ => ?_) (fun _ => ?_)
            · refine V.wk [0, 1, 2, 3, 4, 5] rfl ?_
              exact v_X12_leftFor_b90 C (X12_leftFor_b35 n) ih y1 y2 y3 y4 y5 m_19
            · refine V.goto (pc := 87) C dX12_leftFor_87 117 (by decide) ?_
              refine V.iinc (pc := 117) C dX12_leftFor_117 (v := 1) (L2 := [(5, .int (y5 + 1)), (0, .ref 0), (1, .int y1), (2, .int y2), (3, .int y3), (4, .int y4)]) 5 rfl (by decide) (by decide) rfl ?_
              refine V.goto (pc := 120) C dX12_leftFor_120 35 (by decide) ?_
              refine V.wk [1, 2, 3, 4, 5, 0] rfl ?_
              exact ih y1 y2 y3 y4 (y5 + 1) m_19
set_option maxRecDepth 100000 in
set_option maxHeartbeats 4000000 in
theorem v_X12_leftFor {l : Launch} {p : Program} {e : Env} {s : State} {mt : MethodId} {args : Array Value} {below : List Frame} {meth : Method} {c : Code} {A : Nat → Prop} {ad0 : Nat → Nat} {G : Gt}  (C : Cx G p s mt args meth c RX12 cX12_leftFor 6 (some .int) "leftFor" A)  (x1 : Int32) (x2 : Int32) (x3 : Int32) (m : Mem) : V G SM oI l p e s mt args below meth c 6 69 A ad0 17 17 RM 17 RM 0 [(0, .ref 0), (1, .int x1), (2, .int x2), (3, .int x3)] [] m (X12_leftFor  x1 x2 x3 m) := by
  rw [X12_leftFor]
  refine V.aload_n (pc := 0) C dX12_leftFor_0 0 rfl ?_
  refine V.iconst (pc := 1) C dX12_leftFor_1 (v := 0) (by decide) ?_
  refine V.puti (pc := 2) C fp_RX12_1 sM0 kM0 rfl dX12_leftFor_2 ?_
  refine V.ltm (fun m_1 => ?_)
  refine V.aload_n (pc := 5) C dX12_leftFor_5 0 rfl ?_
  refine V.iload_n (pc := 6) C dX12_leftFor_6 1 rfl ?_
  refine V.i2l (pc := 7) C dX12_leftFor_7 ?_
  refine V.iload_n (pc := 8) C dX12_leftFor_8 2 rfl ?_
  refine V.i2l (pc := 9) C dX12_leftFor_9 ?_
  refine V.callV (pc := 10) (st := []) C (c_X12_areTwo l (Int32.toInt64 x1) (Int32.toInt64 x2) m_1) obI ck_X12_areTwo ml_RX12_234 rfl rfl sM0 kM0 rfl rfl (Nat.le_of_ble_eq_true rfl) ⟨by decide, by decide⟩ dX12_leftFor_10 (fun r_2 m_3 _ => ?_)
  refine V.if_eq (pc := 13) C dX12_leftFor_13 26 (by decide) (fun _ => ?_) (fun _ => ?_)
  · refine V.bipush (pc := 26) C dX12_leftFor_26 (v := (-2)) (by decide) ?_
    exact V.iret C dX12_leftFor_28
  · refine V.iload_n (pc := 16) C dX12_leftFor_16 3 rfl ?_
    refine V.i2l (pc := 17) C dX12_leftFor_17 ?_
    refine V.lconst (pc := 18) C dX12_leftFor_18 (v := 0) (by decide) ?_
    refine V.lconst (pc := 19) C dX12_leftFor_19 (v := 1) (by decide) ?_
    refine V.callS (pc := 20) (st := []) C (c_X12_within l (Int32.toInt64 x3) 0 1 m_3) obI ck_X12_within ml_RX12_133 rfl rfl (Nat.le_of_ble_eq_true rfl) ⟨by decide, by decide⟩ dX12_leftFor_20 (fun r_4 m_5 _ => ?_)
    refine V.if_ne (pc := 23) C dX12_leftFor_23 29 (by decide) (fun _ => ?_) (fun _ => ?_)
    · refine V.iconst (pc := 29) C dX12_leftFor_29 (v := (-1)) (by decide) ?_
      refine V.istore (pc := 30) C dX12_leftFor_30 (L2 := [(4, .int (-1)), (0, .ref 0), (1, .int x1), (2, .int x2), (3, .int x3)]) (by decide) rfl ?_
      refine V.iconst (pc := 32) C dX12_leftFor_32 (v := 0) (by decide) ?_
      refine V.istore (pc := 33) C dX12_leftFor_33 (L2 := [(5, .int 0), (4, .int (-1)), (0, .ref 0), (1, .int x1), (2, .int x2), (3, .int x3)]) (by decide) rfl ?_
      refine V.wk [2, 3, 4, 5, 1, 0] rfl ?_
      exact v_X12_leftFor_b35 C  FU x1 x2 x3 (-1) 0 m_5
    · refine V.bipush (pc := 26) C dX12_leftFor_26 (v := (-2)) (by decide) ?_
      exact V.iret C dX12_leftFor_28
theorem c_X12_leftFor (l : Launch)   (x1 : Int32) (x2 : Int32) (x3 : Int32) (m : Mem) : Ct l yX12_leftFor cX12_leftFor 6 (some .int) 69 SM oI 17 17 RM RM [.ref 0, .int x1, .int x2, .int x3] m (X12_leftFor  x1 x2 x3 m) :=
  Ct.of (own := RX12) (nm := "leftFor") (by decide) rfl rfl (Nat.le_of_ble_eq_true rfl) (fun _ _ _ _ _ _ _ _ _ _ _ C => v_X12_leftFor C  x1 x2 x3 m)
theorem dX12_lists_0 : decode cX12_lists 0 = .ok (.aload_n 0, 1) := by decide +kernel
theorem dX12_lists_1 : decode cX12_lists 1 = .ok (.iconst 0, 1) := by decide +kernel
theorem dX12_lists_2 : decode cX12_lists 2 = .ok (.putfield 1, 3) := by decide +kernel
theorem dX12_lists_5 : decode cX12_lists 5 = .ok (.aload_n 0, 1) := by decide +kernel
theorem dX12_lists_6 : decode cX12_lists 6 = .ok (.iload_n 1, 1) := by decide +kernel
theorem dX12_lists_7 : decode cX12_lists 7 = .ok (.invokevirtual 289, 3) := by decide +kernel
theorem dX12_lists_10 : decode cX12_lists 10 = .ok (.istore_n 2, 1) := by decide +kernel
theorem dX12_lists_11 : decode cX12_lists 11 = .ok (.iload_n 2, 1) := by decide +kernel
theorem dX12_lists_12 : decode cX12_lists 12 = .ok (.ifCond .eq 5, 3) := by decide +kernel
theorem dX12_lists_15 : decode cX12_lists 15 = .ok (.iload_n 2, 1) := by decide +kernel
theorem dX12_lists_16 : decode cX12_lists 16 = .ok (.ireturn, 1) := by decide +kernel
theorem dX12_lists_17 : decode cX12_lists 17 = .ok (.aload_n 0, 1) := by decide +kernel
theorem dX12_lists_18 : decode cX12_lists 18 = .ok (.getfield 13, 3) := by decide +kernel
theorem dX12_lists_21 : decode cX12_lists 21 = .ok (.iconst 2, 1) := by decide +kernel
theorem dX12_lists_22 : decode cX12_lists 22 = .ok (.iaload, 1) := by decide +kernel
theorem dX12_lists_23 : decode cX12_lists 23 = .ok (.aload_n 0, 1) := by decide +kernel
theorem dX12_lists_24 : decode cX12_lists 24 = .ok (.getfield 60, 3) := by decide +kernel
theorem dX12_lists_27 : decode cX12_lists 27 = .ok (.iload_n 1, 1) := by decide +kernel
theorem dX12_lists_28 : decode cX12_lists 28 = .ok (.iaload, 1) := by decide +kernel
theorem dX12_lists_29 : decode cX12_lists 29 = .ok (.if_icmp .ge 12, 3) := by decide +kernel
theorem dX12_lists_32 : decode cX12_lists 32 = .ok (.aload_n 0, 1) := by decide +kernel
theorem dX12_lists_33 : decode cX12_lists 33 = .ok (.getfield 13, 3) := by decide +kernel
theorem dX12_lists_36 : decode cX12_lists 36 = .ok (.iconst 2, 1) := by decide +kernel
theorem dX12_lists_37 : decode cX12_lists 37 = .ok (.iaload, 1) := by decide +kernel
theorem dX12_lists_38 : decode cX12_lists 38 = .ok (.goto 9, 3) := by decide +kernel
theorem dX12_lists_41 : decode cX12_lists 41 = .ok (.aload_n 0, 1) := by decide +kernel
theorem dX12_lists_42 : decode cX12_lists 42 = .ok (.getfield 60, 3) := by decide +kernel
theorem dX12_lists_45 : decode cX12_lists 45 = .ok (.iload_n 1, 1) := by decide +kernel
theorem dX12_lists_46 : decode cX12_lists 46 = .ok (.iaload, 1) := by decide +kernel
theorem dX12_lists_47 : decode cX12_lists 47 = .ok (.istore_n 3, 1) := by decide +kernel
theorem dX12_lists_48 : decode cX12_lists 48 = .ok (.iconst 0, 1) := by decide +kernel
theorem dX12_lists_49 : decode cX12_lists 49 = .ok (.istore 4, 2) := by decide +kernel
theorem dX12_lists_51 : decode cX12_lists 51 = .ok (.iload 4, 2) := by decide +kernel
theorem dX12_lists_53 : decode cX12_lists 53 = .ok (.iload_n 3, 1) := by decide +kernel
theorem dX12_lists_54 : decode cX12_lists 54 = .ok (.if_icmp .ge 37, 3) := by decide +kernel
theorem dX12_lists_57 : decode cX12_lists 57 = .ok (.aload_n 0, 1) := by decide +kernel
theorem dX12_lists_58 : decode cX12_lists 58 = .ok (.getfield 63, 3) := by decide +kernel
theorem dX12_lists_61 : decode cX12_lists 61 = .ok (.bipush 40, 2) := by decide +kernel
theorem dX12_lists_63 : decode cX12_lists 63 = .ok (.iload_n 1, 1) := by decide +kernel
theorem dX12_lists_64 : decode cX12_lists 64 = .ok (.imul, 1) := by decide +kernel
theorem dX12_lists_65 : decode cX12_lists 65 = .ok (.iload 4, 2) := by decide +kernel
theorem dX12_lists_67 : decode cX12_lists 67 = .ok (.iadd, 1) := by decide +kernel
theorem dX12_lists_68 : decode cX12_lists 68 = .ok (.aload_n 0, 1) := by decide +kernel
theorem dX12_lists_69 : decode cX12_lists 69 = .ok (.iload 4, 2) := by decide +kernel
theorem dX12_lists_71 : decode cX12_lists 71 = .ok (.invokevirtual 207, 3) := by decide +kernel
theorem dX12_lists_74 : decode cX12_lists 74 = .ok (.i2l, 1) := by decide +kernel
theorem dX12_lists_75 : decode cX12_lists 75 = .ok (.aload_n 0, 1) := by decide +kernel
theorem dX12_lists_76 : decode cX12_lists 76 = .ok (.getfield 57, 3) := by decide +kernel
theorem dX12_lists_79 : decode cX12_lists 79 = .ok (.iload_n 1, 1) := by decide +kernel
theorem dX12_lists_80 : decode cX12_lists 80 = .ok (.iaload, 1) := by decide +kernel
theorem dX12_lists_81 : decode cX12_lists 81 = .ok (.invokestatic 377, 3) := by decide +kernel
theorem dX12_lists_84 : decode cX12_lists 84 = .ok (.lastore, 1) := by decide +kernel
theorem dX12_lists_85 : decode cX12_lists 85 = .ok (.iinc 4 1, 3) := by decide +kernel
theorem dX12_lists_88 : decode cX12_lists 88 = .ok (.goto (-37), 3) := by decide +kernel
theorem dX12_lists_91 : decode cX12_lists 91 = .ok (.iload_n 3, 1) := by decide +kernel
theorem dX12_lists_92 : decode cX12_lists 92 = .ok (.ireturn, 1) := by decide +kernel
set_option maxRecDepth 100000 in
set_option maxHeartbeats 4000000 in
theorem v_X12_lists_b51 {l : Launch} {p : Program} {e : Env} {s : State} {mt : MethodId} {args : Array Value} {below : List Frame} {meth : Method} {c : Code} {A : Nat → Prop} {ad0 : Nat → Nat} {G : Gt}  (C : Cx G p s mt args meth c RX12 cX12_lists 5 (some .int) "lists" A)  : ∀ (n : Nat) (y1 : Int32) (y3 : Int32) (y4 : Int32) (m : Mem), V G SM oI l p e s mt args below meth c 5 3 A ad0 17 17 RM 17 RM 51 [(0, .ref 0), (1, .int y1), (3, .int y3), (4, .int y4)] [] m (X12_lists_b51  n y1 y3 y4 m) := by
  intro n
  induction n with
  | zero =>
    intro y1 y3 y4 m
    rw [X12_lists_b51]
    exact V.nil
  | succ n ih =>
    intro y1 y3 y4 m
    rw [X12_lists_b51]
    refine V.iload (pc := 51) C dX12_lists_51 3 rfl ?_
    refine V.iload_n (pc := 53) C dX12_lists_53 2 rfl ?_
    refine V.icmp_ge (pc := 54) C dX12_lists_54 91 (by decide) (fun _ => ?_) (fun _ => ?_)
    · refine V.iload_n (pc := 91) C dX12_lists_91 2 rfl ?_
      exact V.iret C dX12_lists_92
    · refine V.aload_n (pc := 57) C dX12_lists_57 0 rfl ?_
      refine V.getr (pc := 58) C fl_RX12_63 sM0 kM0 rfl rM0_32 dX12_lists_58 ?_
      refine V.bipush (pc := 61) C dX12_lists_61 (v := 40) (by decide) ?_
      refine V.iload_n (pc := 63) C dX12_lists_63 1 rfl ?_
      refine V.imul (pc := 64) C dX12_lists_64 ?_
      refine V.iload (pc := 65) C dX12_lists_65 3 rfl ?_
      refine V.iadd (pc := 67) C dX12_lists_67 ?_
      refine V.aload_n (pc := 68) C dX12_lists_68 0 rfl ?_
      refine V.iload (pc := 69) C dX12_lists_69 3 rfl ?_
      refine V.callV (pc := 71) (st := [.int ((40 * y1) + y4), .ref 16]) C (c_X12_listOf l y4 m) obI ck_X12_listOf ml_RX12_207 rfl rfl sM0 kM0 rfl rfl (Nat.le_of_ble_eq_true rfl) ⟨by decide, by decide⟩ dX12_lists_71 (fun r_5 m_6 _ => ?_)
      refine V.i2l (pc := 74) C dX12_lists_74 ?_
      refine V.aload_n (pc := 75) C dX12_lists_75 0 rfl ?_
      refine V.getr (pc := 76) C fl_RX12_57 sM0 kM0 rfl rM0_30 dX12_lists_76 ?_
      refine V.iload_n (pc := 79) C dX12_lists_79 1 rfl ?_
      refine V.iald (pc := 80) C sM14 kM14 dX12_lists_80 (fun _ => ?_)
      refine V.callS (pc := 81) (st := [.int ((40 * y1) + y4), .ref 16]) C (c_X12_cut l (Int32.toInt64 r_5) (gi m_6 14 (ix y1)) m_6) obL ck_X12_cut ml_RX12_377 rfl rfl (Nat.le_of_ble_eq_true rfl) ⟨by decide, by decide⟩ dX12_lists_81 (fun r_7 m_8 _ => ?_)
      refine V.last (pc := 84) C sM16 kM16 dX12_lists_84 (fun _ => ?_)
      refine V.ltm (fun m_9 => ?_)
      refine V.iinc (pc := 85) C dX12_lists_85 (v := 1) (L2 := [(4, .int (y4 + 1)), (0, .ref 0), (1, .int y1), (3, .int y3)]) 3 rfl (by decide) (by decide) rfl ?_
      refine V.goto (pc := 88) C dX12_lists_88 51 (by decide) ?_
      refine V.wk [1, 2, 3, 0] rfl ?_
      exact ih y1 y3 (y4 + 1) m_9
set_option maxRecDepth 100000 in
set_option maxHeartbeats 4000000 in
theorem v_X12_lists {l : Launch} {p : Program} {e : Env} {s : State} {mt : MethodId} {args : Array Value} {below : List Frame} {meth : Method} {c : Code} {A : Nat → Prop} {ad0 : Nat → Nat} {G : Gt}  (C : Cx G p s mt args meth c RX12 cX12_lists 5 (some .int) "lists" A)  (x1 : Int32) (m : Mem) : V G SM oI l p e s mt args below meth c 5 3 A ad0 17 17 RM 17 RM 0 [(0, .ref 0), (1, .int x1)] [] m (X12_lists  x1 m) := by
  rw [X12_lists]
  refine V.aload_n (pc := 0) C dX12_lists_0 0 rfl ?_
  refine V.iconst (pc := 1) C dX12_lists_1 (v := 0) (by decide) ?_
  refine V.puti (pc := 2) C fp_RX12_1 sM0 kM0 rfl dX12_lists_2 ?_
  refine V.ltm (fun m_1 => ?_)
  refine V.aload_n (pc := 5) C dX12_lists_5 0 rfl ?_
  refine V.iload_n (pc := 6) C dX12_lists_6 1 rfl ?_
  refine V.callV (pc := 7) (st := []) C (c_X12_noTray l x1 m_1) obI ck_X12_noTray ml_RX12_289 rfl rfl sM0 kM0 rfl rfl (Nat.le_of_ble_eq_true rfl) ⟨by decide, by decide⟩ dX12_lists_7 (fun r_2 m_3 _ => ?_)
  refine V.istore_n (pc := 10) C dX12_lists_10 (L2 := [(2, .int r_2), (0, .ref 0), (1, .int x1)]) (by decide) rfl ?_
  refine V.iload_n (pc := 11) C dX12_lists_11 0 rfl ?_
  refine V.if_eq (pc := 12) C dX12_lists_12 17 (by decide) (fun _ => ?_) (fun _ => ?_)
  · refine V.aload_n (pc := 17) C dX12_lists_17 1 rfl ?_
    refine V.getr (pc := 18) C fl_RX12_13 sM0 kM0 rfl rM0_1 dX12_lists_18 ?_
    refine V.iconst (pc := 21) C dX12_lists_21 (v := 2) (by decide) ?_
    refine V.iald (pc := 22) C sM1 kM1 dX12_lists_22 (fun _ => ?_)
    refine V.aload_n (pc := 23) C dX12_lists_23 1 rfl ?_
    refine V.getr (pc := 24) C fl_RX12_60 sM0 kM0 rfl rM0_31 dX12_lists_24 ?_
    refine V.iload_n (pc := 27) C dX12_lists_27 2 rfl ?_
    refine V.iald (pc := 28) C sM15 kM15 dX12_lists_28 (fun _ => ?_)
    refine V.icmp_ge (pc := 29) C dX12_lists_29 41 (by decide) (fun _ => ?_) (fun _ => ?_)
    · refine V.aload_n (pc := 41) C dX12_lists_41 1 rfl ?_
      refine V.getr (pc := 42) C fl_RX12_60 sM0 kM0 rfl rM0_31 dX12_lists_42 ?_
      refine V.iload_n (pc := 45) C dX12_lists_45 2 rfl ?_
      refine V.iald (pc := 46) C sM15 kM15 dX12_lists_46 (fun _ => ?_)
      refine V.lti (fun x_4 _ => ?_)
      refine V.istore_n (pc := 47) C dX12_lists_47 (L2 := [(3, .int x_4), (2, .int r_2), (0, .ref 0), (1, .int x1)]) (by decide) rfl ?_
      refine V.iconst (pc := 48) C dX12_lists_48 (v := 0) (by decide) ?_
      refine V.istore (pc := 49) C dX12_lists_49 (L2 := [(4, .int 0), (3, .int x_4), (2, .int r_2), (0, .ref 0), (1, .int x1)]) (by decide) rfl ?_
      refine V.wk [3, 4, 1, 0] rfl ?_
      exact v_X12_lists_b51 C  FU x1 x_4 0 m_3
    · refine V.aload_n (pc := 32) C dX12_lists_32 1 rfl ?_
      refine V.getr (pc := 33) C fl_RX12_13 sM0 kM0 rfl rM0_1 dX12_lists_33 ?_
      refine V.iconst (pc := 36) C dX12_lists_36 (v := 2) (by decide) ?_
      refine V.iald (pc := 37) C sM1 kM1 dX12_lists_37 (fun _ => ?_)
      refine V.goto (pc := 38) C dX12_lists_38 47 (by decide) ?_
      refine V.lti (fun x_10 _ => ?_)
      refine V.istore_n (pc := 47) C dX12_lists_47 (L2 := [(3, .int x_10), (2, .int r_2), (0, .ref 0), (1, .int x1)]) (by decide) rfl ?_
      refine V.iconst (pc := 48) C dX12_lists_48 (v := 0) (by decide) ?_
      refine V.istore (pc := 49) C dX12_lists_49 (L2 := [(4, .int 0), (3, .int x_10), (2, .int r_2), (0, .ref 0), (1, .int x1)]) (by decide) rfl ?_
      refine V.wk [3, 4, 1, 0] rfl ?_
      exact v_X12_lists_b51 C  FU x1 x_10 0 m_3
  · refine V.iload_n (pc := 15) C dX12_lists_15 0 rfl ?_
    exact V.iret C dX12_lists_16
theorem c_X12_lists (l : Launch)   (x1 : Int32) (m : Mem) : Ct l yX12_lists cX12_lists 5 (some .int) 3 SM oI 17 17 RM RM [.ref 0, .int x1] m (X12_lists  x1 m) :=
  Ct.of (own := RX12) (nm := "lists") (by decide) rfl rfl (Nat.le_of_ble_eq_true rfl) (fun _ _ _ _ _ _ _ _ _ _ _ C => v_X12_lists C  x1 m)
theorem dX12_matchAll_0 : decode cX12_matchAll 0 = .ok (.aload_n 0, 1) := by decide +kernel
theorem dX12_matchAll_1 : decode cX12_matchAll 1 = .ok (.iconst 0, 1) := by decide +kernel
theorem dX12_matchAll_2 : decode cX12_matchAll 2 = .ok (.putfield 1, 3) := by decide +kernel
theorem dX12_matchAll_5 : decode cX12_matchAll 5 = .ok (.aload_n 0, 1) := by decide +kernel
theorem dX12_matchAll_6 : decode cX12_matchAll 6 = .ok (.iconst 0, 1) := by decide +kernel
theorem dX12_matchAll_7 : decode cX12_matchAll 7 = .ok (.iconst 0, 1) := by decide +kernel
theorem dX12_matchAll_8 : decode cX12_matchAll 8 = .ok (.invokevirtual 348, 3) := by decide +kernel
theorem dX12_matchAll_11 : decode cX12_matchAll 11 = .ok (.aload_n 0, 1) := by decide +kernel
theorem dX12_matchAll_12 : decode cX12_matchAll 12 = .ok (.iconst 0, 1) := by decide +kernel
theorem dX12_matchAll_13 : decode cX12_matchAll 13 = .ok (.iconst 0, 1) := by decide +kernel
theorem dX12_matchAll_14 : decode cX12_matchAll 14 = .ok (.invokevirtual 351, 3) := by decide +kernel
theorem dX12_matchAll_17 : decode cX12_matchAll 17 = .ok (.aload_n 0, 1) := by decide +kernel
theorem dX12_matchAll_18 : decode cX12_matchAll 18 = .ok (.invokevirtual 267, 3) := by decide +kernel
theorem dX12_matchAll_21 : decode cX12_matchAll 21 = .ok (.iconst 0, 1) := by decide +kernel
theorem dX12_matchAll_22 : decode cX12_matchAll 22 = .ok (.istore_n 1, 1) := by decide +kernel
theorem dX12_matchAll_23 : decode cX12_matchAll 23 = .ok (.iload_n 1, 1) := by decide +kernel
theorem dX12_matchAll_24 : decode cX12_matchAll 24 = .ok (.aload_n 0, 1) := by decide +kernel
theorem dX12_matchAll_25 : decode cX12_matchAll 25 = .ok (.getfield 13, 3) := by decide +kernel
theorem dX12_matchAll_28 : decode cX12_matchAll 28 = .ok (.iconst 2, 1) := by decide +kernel
theorem dX12_matchAll_29 : decode cX12_matchAll 29 = .ok (.iaload, 1) := by decide +kernel
theorem dX12_matchAll_30 : decode cX12_matchAll 30 = .ok (.if_icmp .ge 25, 3) := by decide +kernel
theorem dX12_matchAll_33 : decode cX12_matchAll 33 = .ok (.aload_n 0, 1) := by decide +kernel
theorem dX12_matchAll_34 : decode cX12_matchAll 34 = .ok (.getfield 13, 3) := by decide +kernel
theorem dX12_matchAll_37 : decode cX12_matchAll 37 = .ok (.sipush 153, 3) := by decide +kernel
theorem dX12_matchAll_40 : decode cX12_matchAll 40 = .ok (.iload_n 1, 1) := by decide +kernel
theorem dX12_matchAll_41 : decode cX12_matchAll 41 = .ok (.iadd, 1) := by decide +kernel
theorem dX12_matchAll_42 : decode cX12_matchAll 42 = .ok (.aload_n 0, 1) := by decide +kernel
theorem dX12_matchAll_43 : decode cX12_matchAll 43 = .ok (.getfield 48, 3) := by decide +kernel
theorem dX12_matchAll_46 : decode cX12_matchAll 46 = .ok (.iload_n 1, 1) := by decide +kernel
theorem dX12_matchAll_47 : decode cX12_matchAll 47 = .ok (.iaload, 1) := by decide +kernel
theorem dX12_matchAll_48 : decode cX12_matchAll 48 = .ok (.iastore, 1) := by decide +kernel
theorem dX12_matchAll_49 : decode cX12_matchAll 49 = .ok (.iinc 1 1, 3) := by decide +kernel
theorem dX12_matchAll_52 : decode cX12_matchAll 52 = .ok (.goto (-29), 3) := by decide +kernel
theorem dX12_matchAll_55 : decode cX12_matchAll 55 = .ok (.aload_n 0, 1) := by decide +kernel
theorem dX12_matchAll_56 : decode cX12_matchAll 56 = .ok (.invokevirtual 270, 3) := by decide +kernel
theorem dX12_matchAll_59 : decode cX12_matchAll 59 = .ok (.aload_n 0, 1) := by decide +kernel
theorem dX12_matchAll_60 : decode cX12_matchAll 60 = .ok (.getfield 327, 3) := by decide +kernel
theorem dX12_matchAll_63 : decode cX12_matchAll 63 = .ok (.ireturn, 1) := by decide +kernel
set_option maxRecDepth 100000 in
set_option maxHeartbeats 4000000 in
theorem v_X12_matchAll_b23 {l : Launch} {p : Program} {e : Env} {s : State} {mt : MethodId} {args : Array Value} {below : List Frame} {meth : Method} {c : Code} {A : Nat → Prop} {ad0 : Nat → Nat} {G : Gt}  (C : Cx G p s mt args meth c RX12 cX12_matchAll 2 (some .int) "matchAll" A)  : ∀ (n : Nat) (y1 : Int32) (m : Mem), V G SM oI l p e s mt args below meth c 2 69 A ad0 17 17 RM 17 RM 23 [(0, .ref 0), (1, .int y1)] [] m (X12_matchAll_b23  n y1 m) := by
  intro n
  induction n with
  | zero =>
    intro y1 m
    rw [X12_matchAll_b23]
    exact V.nil
  | succ n ih =>
    intro y1 m
    rw [X12_matchAll_b23]
    refine V.iload_n (pc := 23) C dX12_matchAll_23 1 rfl ?_
    refine V.aload_n (pc := 24) C dX12_matchAll_24 0 rfl ?_
    refine V.getr (pc := 25) C fl_RX12_13 sM0 kM0 rfl rM0_1 dX12_matchAll_25 ?_
    refine V.iconst (pc := 28) C dX12_matchAll_28 (v := 2) (by decide) ?_
    refine V.iald (pc := 29) C sM1 kM1 dX12_matchAll_29 (fun _ => ?_)
    refine V.icmp_ge (pc := 30) C dX12_matchAll_30 55 (by decide) (fun _ => ?_) (fun _ => ?_)
    · refine V.aload_n (pc := 55) C dX12_matchAll_55 0 rfl ?_
      refine V.callV (pc := 56) (st := []) C (c_X12_notes l  m) obV ck_X12_notes ml_RX12_270 rfl rfl sM0 kM0 rfl rfl (Nat.le_of_ble_eq_true rfl) ⟨by decide, by decide⟩ dX12_matchAll_56 (fun r_8 m_9 _ => ?_)
      refine V.aload_n (pc := 59) C dX12_matchAll_59 0 rfl ?_
      refine V.geti (pc := 60) C fl_RX12_327 sM0 kM0 rfl dX12_matchAll_60 ?_
      exact V.iret C dX12_matchAll_63
    · refine V.aload_n (pc := 33) C dX12_matchAll_33 0 rfl ?_
      refine V.getr (pc := 34) C fl_RX12_13 sM0 kM0 rfl rM0_1 dX12_matchAll_34 ?_
      refine V.sipush (pc := 37) C dX12_matchAll_37 (v := 153) (by decide) ?_
      refine V.iload_n (pc := 40) C dX12_matchAll_40 1 rfl ?_
      refine V.iadd (pc := 41) C dX12_matchAll_41 ?_
      refine V.aload_n (pc := 42) C dX12_matchAll_42 0 rfl ?_
      refine V.getr (pc := 43) C fl_RX12_48 sM0 kM0 rfl rM0_23 dX12_matchAll_43 ?_
      refine V.iload_n (pc := 46) C dX12_matchAll_46 1 rfl ?_
      refine V.iald (pc := 47) C sM11 kM11 dX12_matchAll_47 (fun _ => ?_)
      refine V.iast (pc := 48) C sM1 kM1 dX12_matchAll_48 (fun _ => ?_)
      refine V.ltm (fun m_10 => ?_)
      refine V.iinc (pc := 49) C dX12_matchAll_49 (v := 1) (L2 := [(1, .int (y1 + 1)), (0, .ref 0)]) 1 rfl (by decide) (by decide) rfl ?_
      refine V.goto (pc := 52) C dX12_matchAll_52 23 (by decide) ?_
      refine V.wk [1, 0] rfl ?_
      exact ih (y1 + 1) m_10
set_option maxRecDepth 100000 in
set_option maxHeartbeats 4000000 in
theorem v_X12_matchAll {l : Launch} {p : Program} {e : Env} {s : State} {mt : MethodId} {args : Array Value} {below : List Frame} {meth : Method} {c : Code} {A : Nat → Prop} {ad0 : Nat → Nat} {G : Gt}  (C : Cx G p s mt args meth c RX12 cX12_matchAll 2 (some .int) "matchAll" A)  (m : Mem) : V G SM oI l p e s mt args below meth c 2 69 A ad0 17 17 RM 17 RM 0 [(0, .ref 0)] [] m (X12_matchAll   m) := by
  rw [X12_matchAll]
  refine V.aload_n (pc := 0) C dX12_matchAll_0 0 rfl ?_
  refine V.iconst (pc := 1) C dX12_matchAll_1 (v := 0) (by decide) ?_
  refine V.puti (pc := 2) C fp_RX12_1 sM0 kM0 rfl dX12_matchAll_2 ?_
  refine V.ltm (fun m_1 => ?_)
  refine V.aload_n (pc := 5) C dX12_matchAll_5 0 rfl ?_
  refine V.iconst (pc := 6) C dX12_matchAll_6 (v := 0) (by decide) ?_
  refine V.iconst (pc := 7) C dX12_matchAll_7 (v := 0) (by decide) ?_
  refine V.callV (pc := 8) (st := []) C (c_X12_laysPairs l 0 0 m_1) obV ck_X12_laysPairs ml_RX12_348 rfl rfl sM0 kM0 rfl rfl (Nat.le_of_ble_eq_true rfl) ⟨by decide, by decide⟩ dX12_matchAll_8 (fun r_2 m_3 _ => ?_)
  refine V.aload_n (pc := 11) C dX12_matchAll_11 0 rfl ?_
  refine V.iconst (pc := 12) C dX12_matchAll_12 (v := 0) (by decide) ?_
  refine V.iconst (pc := 13) C dX12_matchAll_13 (v := 0) (by decide) ?_
  refine V.callV (pc := 14) (st := []) C (c_X12_begins l 0 0 m_3) obV ck_X12_begins ml_RX12_351 rfl rfl sM0 kM0 rfl rfl (Nat.le_of_ble_eq_true rfl) ⟨by decide, by decide⟩ dX12_matchAll_14 (fun r_4 m_5 _ => ?_)
  refine V.aload_n (pc := 17) C dX12_matchAll_17 0 rfl ?_
  refine V.callV (pc := 18) (st := []) C (c_X12_keeps l  m_5) obV ck_X12_keeps ml_RX12_267 rfl rfl sM0 kM0 rfl rfl (Nat.le_of_ble_eq_true rfl) ⟨by decide, by decide⟩ dX12_matchAll_18 (fun r_6 m_7 _ => ?_)
  refine V.iconst (pc := 21) C dX12_matchAll_21 (v := 0) (by decide) ?_
  refine V.istore_n (pc := 22) C dX12_matchAll_22 (L2 := [(1, .int 0), (0, .ref 0)]) (by decide) rfl ?_
  refine V.wk [1, 0] rfl ?_
  exact v_X12_matchAll_b23 C  FU 0 m_7
theorem c_X12_matchAll (l : Launch)   (m : Mem) : Ct l yX12_matchAll cX12_matchAll 2 (some .int) 69 SM oI 17 17 RM RM [.ref 0] m (X12_matchAll   m) :=
  Ct.of (own := RX12) (nm := "matchAll") (by decide) rfl rfl (Nat.le_of_ble_eq_true rfl) (fun _ _ _ _ _ _ _ _ _ _ _ C => v_X12_matchAll C   m)
theorem dX12_matchings_0 : decode cX12_matchings 0 = .ok (.aload_n 0, 1) := by decide +kernel
theorem dX12_matchings_1 : decode cX12_matchings 1 = .ok (.iconst 0, 1) := by decide +kernel
theorem dX12_matchings_2 : decode cX12_matchings 2 = .ok (.putfield 1, 3) := by decide +kernel
theorem dX12_matchings_5 : decode cX12_matchings 5 = .ok (.iload_n 1, 1) := by decide +kernel
theorem dX12_matchings_6 : decode cX12_matchings 6 = .ok (.i2l, 1) := by decide +kernel
theorem dX12_matchings_7 : decode cX12_matchings 7 = .ok (.lconst 0, 1) := by decide +kernel
theorem dX12_matchings_8 : decode cX12_matchings 8 = .ok (.ldc2_w 346, 3) := by decide +kernel
theorem dX12_matchings_11 : decode cX12_matchings 11 = .ok (.invokestatic 133, 3) := by decide +kernel
theorem dX12_matchings_14 : decode cX12_matchings 14 = .ok (.ifCond .ne 6, 3) := by decide +kernel
theorem dX12_matchings_17 : decode cX12_matchings 17 = .ok (.bipush (-3), 2) := by decide +kernel
theorem dX12_matchings_19 : decode cX12_matchings 19 = .ok (.ireturn, 1) := by decide +kernel
theorem dX12_matchings_20 : decode cX12_matchings 20 = .ok (.aload_n 0, 1) := by decide +kernel
theorem dX12_matchings_21 : decode cX12_matchings 21 = .ok (.iconst 0, 1) := by decide +kernel
theorem dX12_matchings_22 : decode cX12_matchings 22 = .ok (.iconst 0, 1) := by decide +kernel
theorem dX12_matchings_23 : decode cX12_matchings 23 = .ok (.invokevirtual 348, 3) := by decide +kernel
theorem dX12_matchings_26 : decode cX12_matchings 26 = .ok (.aload_n 0, 1) := by decide +kernel
theorem dX12_matchings_27 : decode cX12_matchings 27 = .ok (.iconst 0, 1) := by decide +kernel
theorem dX12_matchings_28 : decode cX12_matchings 28 = .ok (.iload_n 1, 1) := by decide +kernel
theorem dX12_matchings_29 : decode cX12_matchings 29 = .ok (.invokevirtual 351, 3) := by decide +kernel
theorem dX12_matchings_32 : decode cX12_matchings 32 = .ok (.aload_n 0, 1) := by decide +kernel
theorem dX12_matchings_33 : decode cX12_matchings 33 = .ok (.getfield 330, 3) := by decide +kernel
theorem dX12_matchings_36 : decode cX12_matchings 36 = .ok (.ireturn, 1) := by decide +kernel
set_option maxRecDepth 100000 in
set_option maxHeartbeats 4000000 in
theorem v_X12_matchings {l : Launch} {p : Program} {e : Env} {s : State} {mt : MethodId} {args : Array Value} {below : List Frame} {meth : Method} {c : Code} {A : Nat → Prop} {ad0 : Nat → Nat} {G : Gt}  (C : Cx G p s mt args meth c RX12 cX12_matchings 2 (some .int) "matchings" A)  (x1 : Int32) (m : Mem) : V G SM oI l p e s mt args below meth c 2 69 A ad0 17 17 RM 17 RM 0 [(0, .ref 0), (1, .int x1)] [] m (X12_matchings  x1 m) := by
  rw [X12_matchings]
  refine V.aload_n (pc := 0) C dX12_matchings_0 0 rfl ?_
  refine V.iconst (pc := 1) C dX12_matchings_1 (v := 0) (by decide) ?_
  refine V.puti (pc := 2) C fp_RX12_1 sM0 kM0 rfl dX12_matchings_2 ?_
  refine V.ltm (fun m_1 => ?_)
  refine V.iload_n (pc := 5) C dX12_matchings_5 1 rfl ?_
  refine V.i2l (pc := 6) C dX12_matchings_6 ?_
  refine V.lconst (pc := 7) C dX12_matchings_7 (v := 0) (by decide) ?_
  refine V.ldc2 (pc := 8) C dX12_matchings_8 (v := 4) cl_RX12_346 ?_
  refine V.callS (pc := 11) (st := []) C (c_X12_within l (Int32.toInt64 x1) 0 4 m_1) obI ck_X12_within ml_RX12_133 rfl rfl (Nat.le_of_ble_eq_true rfl) ⟨by decide, by decide⟩ dX12_matchings_11 (fun r_2 m_3 _ => ?_)
  refine V.if_ne (pc := 14) C dX12_matchings_14 20 (by decide) (fun _ => ?_) (fun _ => ?_)
  · refine V.aload_n (pc := 20) C dX12_matchings_20 0 rfl ?_
    refine V.iconst (pc := 21) C dX12_matchings_21 (v := 0) (by decide) ?_
    refine V.iconst (pc := 22) C dX12_matchings_22 (v := 0) (by decide) ?_
    refine V.callV (pc := 23) (st := []) C (c_X12_laysPairs l 0 0 m_3) obV ck_X12_laysPairs ml_RX12_348 rfl rfl sM0 kM0 rfl rfl (Nat.le_of_ble_eq_true rfl) ⟨by decide, by decide⟩ dX12_matchings_23 (fun r_4 m_5 _ => ?_)
    refine V.aload_n (pc := 26) C dX12_matchings_26 0 rfl ?_
    refine V.iconst (pc := 27) C dX12_matchings_27 (v := 0) (by decide) ?_
    refine V.iload_n (pc := 28) C dX12_matchings_28 1 rfl ?_
    refine V.callV (pc := 29) (st := []) C (c_X12_begins l 0 x1 m_5) obV ck_X12_begins ml_RX12_351 rfl rfl sM0 kM0 rfl rfl (Nat.le_of_ble_eq_true rfl) ⟨by decide, by decide⟩ dX12_matchings_29 (fun r_6 m_7 _ => ?_)
    refine V.aload_n (pc := 32) C dX12_matchings_32 0 rfl ?_
    refine V.geti (pc := 33) C fl_RX12_330 sM0 kM0 rfl dX12_matchings_33 ?_
    exact V.iret C dX12_matchings_36
  · refine V.bipush (pc := 17) C dX12_matchings_17 (v := (-3)) (by decide) ?_
    exact V.iret C dX12_matchings_19
theorem c_X12_matchings (l : Launch)   (x1 : Int32) (m : Mem) : Ct l yX12_matchings cX12_matchings 2 (some .int) 69 SM oI 17 17 RM RM [.ref 0, .int x1] m (X12_matchings  x1 m) :=
  Ct.of (own := RX12) (nm := "matchings") (by decide) rfl rfl (Nat.le_of_ble_eq_true rfl) (fun _ _ _ _ _ _ _ _ _ _ _ C => v_X12_matchings C  x1 m)
theorem dX12_may_0 : decode cX12_may 0 = .ok (.aload_n 0, 1) := by decide +kernel
theorem dX12_may_1 : decode cX12_may 1 = .ok (.iconst 0, 1) := by decide +kernel
theorem dX12_may_2 : decode cX12_may 2 = .ok (.putfield 1, 3) := by decide +kernel
theorem dX12_may_5 : decode cX12_may 5 = .ok (.aload_n 0, 1) := by decide +kernel
theorem dX12_may_6 : decode cX12_may 6 = .ok (.iload_n 1, 1) := by decide +kernel
theorem dX12_may_7 : decode cX12_may 7 = .ok (.i2l, 1) := by decide +kernel
theorem dX12_may_8 : decode cX12_may 8 = .ok (.iload_n 2, 1) := by decide +kernel
theorem dX12_may_9 : decode cX12_may 9 = .ok (.i2l, 1) := by decide +kernel
theorem dX12_may_10 : decode cX12_may 10 = .ok (.invokevirtual 234, 3) := by decide +kernel
theorem dX12_may_13 : decode cX12_may 13 = .ok (.ifCond .ne 8, 3) := by decide +kernel
theorem dX12_may_16 : decode cX12_may 16 = .ok (.bipush (-2), 2) := by decide +kernel
theorem dX12_may_18 : decode cX12_may 18 = .ok (.goto 17, 3) := by decide +kernel
theorem dX12_may_21 : decode cX12_may 21 = .ok (.aload_n 0, 1) := by decide +kernel
theorem dX12_may_22 : decode cX12_may 22 = .ok (.iload_n 1, 1) := by decide +kernel
theorem dX12_may_23 : decode cX12_may 23 = .ok (.iload_n 2, 1) := by decide +kernel
theorem dX12_may_24 : decode cX12_may 24 = .ok (.invokevirtual 244, 3) := by decide +kernel
theorem dX12_may_27 : decode cX12_may 27 = .ok (.ifCond .eq 7, 3) := by decide +kernel
theorem dX12_may_30 : decode cX12_may 30 = .ok (.iconst 1, 1) := by decide +kernel
theorem dX12_may_31 : decode cX12_may 31 = .ok (.goto 4, 3) := by decide +kernel
theorem dX12_may_34 : decode cX12_may 34 = .ok (.iconst 0, 1) := by decide +kernel
theorem dX12_may_35 : decode cX12_may 35 = .ok (.ireturn, 1) := by decide +kernel
set_option maxRecDepth 100000 in
set_option maxHeartbeats 4000000 in
theorem v_X12_may {l : Launch} {p : Program} {e : Env} {s : State} {mt : MethodId} {args : Array Value} {below : List Frame} {meth : Method} {c : Code} {A : Nat → Prop} {ad0 : Nat → Nat} {G : Gt}  (C : Cx G p s mt args meth c RX12 cX12_may 3 (some .int) "may" A)  (x1 : Int32) (x2 : Int32) (m : Mem) : V G SM oI l p e s mt args below meth c 3 6 A ad0 17 17 RM 17 RM 0 [(0, .ref 0), (1, .int x1), (2, .int x2)] [] m (X12_may  x1 x2 m) := by
  rw [X12_may]
  refine V.aload_n (pc := 0) C dX12_may_0 0 rfl ?_
  refine V.iconst (pc := 1) C dX12_may_1 (v := 0) (by decide) ?_
  refine V.puti (pc := 2) C fp_RX12_1 sM0 kM0 rfl dX12_may_2 ?_
  refine V.ltm (fun m_1 => ?_)
  refine V.aload_n (pc := 5) C dX12_may_5 0 rfl ?_
  refine V.iload_n (pc := 6) C dX12_may_6 1 rfl ?_
  refine V.i2l (pc := 7) C dX12_may_7 ?_
  refine V.iload_n (pc := 8) C dX12_may_8 2 rfl ?_
  refine V.i2l (pc := 9) C dX12_may_9 ?_
  refine V.callV (pc := 10) (st := []) C (c_X12_areTwo l (Int32.toInt64 x1) (Int32.toInt64 x2) m_1) obI ck_X12_areTwo ml_RX12_234 rfl rfl sM0 kM0 rfl rfl (Nat.le_of_ble_eq_true rfl) ⟨by decide, by decide⟩ dX12_may_10 (fun r_2 m_3 _ => ?_)
  refine V.if_ne (pc := 13) C dX12_may_13 21 (by decide) (fun _ => ?_) (fun _ => ?_)
  · refine V.aload_n (pc := 21) C dX12_may_21 0 rfl ?_
    refine V.iload_n (pc := 22) C dX12_may_22 1 rfl ?_
    refine V.iload_n (pc := 23) C dX12_may_23 2 rfl ?_
    refine V.callV (pc := 24) (st := []) C (c_X12_mayWed l x1 x2 m_3) obI ck_X12_mayWed ml_RX12_244 rfl rfl sM0 kM0 rfl rfl (Nat.le_of_ble_eq_true rfl) ⟨by decide, by decide⟩ dX12_may_24 (fun r_4 m_5 _ => ?_)
    refine V.if_eq (pc := 27) C dX12_may_27 34 (by decide) (fun _ => ?_) (fun _ => ?_)
    · refine V.iconst (pc := 34) C dX12_may_34 (v := 0) (by decide) ?_
      exact V.iret C dX12_may_35
    · refine V.iconst (pc := 30) C dX12_may_30 (v := 1) (by decide) ?_
      refine V.goto (pc := 31) C dX12_may_31 35 (by decide) ?_
      exact V.iret C dX12_may_35
  · refine V.bipush (pc := 16) C dX12_may_16 (v := (-2)) (by decide) ?_
    refine V.goto (pc := 18) C dX12_may_18 35 (by decide) ?_
    exact V.iret C dX12_may_35
theorem c_X12_may (l : Launch)   (x1 : Int32) (x2 : Int32) (m : Mem) : Ct l yX12_may cX12_may 3 (some .int) 6 SM oI 17 17 RM RM [.ref 0, .int x1, .int x2] m (X12_may  x1 x2 m) :=
  Ct.of (own := RX12) (nm := "may") (by decide) rfl rfl (Nat.le_of_ble_eq_true rfl) (fun _ _ _ _ _ _ _ _ _ _ _ C => v_X12_may C  x1 x2 m)
theorem dX12_most_0 : decode cX12_most 0 = .ok (.aload_n 0, 1) := by decide +kernel
theorem dX12_most_1 : decode cX12_most 1 = .ok (.iconst 0, 1) := by decide +kernel
theorem dX12_most_2 : decode cX12_most 2 = .ok (.putfield 1, 3) := by decide +kernel
theorem dX12_most_5 : decode cX12_most 5 = .ok (.aload_n 0, 1) := by decide +kernel
theorem dX12_most_6 : decode cX12_most 6 = .ok (.iload_n 1, 1) := by decide +kernel
theorem dX12_most_7 : decode cX12_most 7 = .ok (.invokevirtual 355, 3) := by decide +kernel
theorem dX12_most_10 : decode cX12_most 10 = .ok (.ifCond .ne 6, 3) := by decide +kernel
theorem dX12_most_13 : decode cX12_most 13 = .ok (.bipush (-2), 2) := by decide +kernel
theorem dX12_most_15 : decode cX12_most 15 = .ok (.ireturn, 1) := by decide +kernel
theorem dX12_most_16 : decode cX12_most 16 = .ok (.aload_n 0, 1) := by decide +kernel
theorem dX12_most_17 : decode cX12_most 17 = .ok (.iconst 0, 1) := by decide +kernel
theorem dX12_most_18 : decode cX12_most 18 = .ok (.iconst 0, 1) := by decide +kernel
theorem dX12_most_19 : decode cX12_most 19 = .ok (.invokevirtual 348, 3) := by decide +kernel
theorem dX12_most_22 : decode cX12_most 22 = .ok (.aload_n 0, 1) := by decide +kernel
theorem dX12_most_23 : decode cX12_most 23 = .ok (.iconst 0, 1) := by decide +kernel
theorem dX12_most_24 : decode cX12_most 24 = .ok (.iconst 0, 1) := by decide +kernel
theorem dX12_most_25 : decode cX12_most 25 = .ok (.invokevirtual 351, 3) := by decide +kernel
theorem dX12_most_28 : decode cX12_most 28 = .ok (.aload_n 0, 1) := by decide +kernel
theorem dX12_most_29 : decode cX12_most 29 = .ok (.iload_n 1, 1) := by decide +kernel
theorem dX12_most_30 : decode cX12_most 30 = .ok (.invokevirtual 358, 3) := by decide +kernel
theorem dX12_most_33 : decode cX12_most 33 = .ok (.ireturn, 1) := by decide +kernel
set_option maxRecDepth 100000 in
set_option maxHeartbeats 4000000 in
theorem v_X12_most {l : Launch} {p : Program} {e : Env} {s : State} {mt : MethodId} {args : Array Value} {below : List Frame} {meth : Method} {c : Code} {A : Nat → Prop} {ad0 : Nat → Nat} {G : Gt}  (C : Cx G p s mt args meth c RX12 cX12_most 2 (some .int) "most" A)  (x1 : Int32) (m : Mem) : V G SM oI l p e s mt args below meth c 2 69 A ad0 17 17 RM 17 RM 0 [(0, .ref 0), (1, .int x1)] [] m (X12_most  x1 m) := by
  rw [X12_most]
  refine V.aload_n (pc := 0) C dX12_most_0 0 rfl ?_
  refine V.iconst (pc := 1) C dX12_most_1 (v := 0) (by decide) ?_
  refine V.puti (pc := 2) C fp_RX12_1 sM0 kM0 rfl dX12_most_2 ?_
  refine V.ltm (fun m_1 => ?_)
  refine V.aload_n (pc := 5) C dX12_most_5 0 rfl ?_
  refine V.iload_n (pc := 6) C dX12_most_6 1 rfl ?_
  refine V.callV (pc := 7) (st := []) C (c_X12_asksPerson l x1 m_1) obI ck_X12_asksPerson ml_RX12_355 rfl rfl sM0 kM0 rfl rfl (Nat.le_of_ble_eq_true rfl) ⟨by decide, by decide⟩ dX12_most_7 (fun r_2 m_3 _ => ?_)
  refine V.if_ne (pc := 10) C dX12_most_10 16 (by decide) (fun _ => ?_) (fun _ => ?_)
  · refine V.aload_n (pc := 16) C dX12_most_16 0 rfl ?_
    refine V.iconst (pc := 17) C dX12_most_17 (v := 0) (by decide) ?_
    refine V.iconst (pc := 18) C dX12_most_18 (v := 0) (by decide) ?_
    refine V.callV (pc := 19) (st := []) C (c_X12_laysPairs l 0 0 m_3) obV ck_X12_laysPairs ml_RX12_348 rfl rfl sM0 kM0 rfl rfl (Nat.le_of_ble_eq_true rfl) ⟨by decide, by decide⟩ dX12_most_19 (fun r_4 m_5 _ => ?_)
    refine V.aload_n (pc := 22) C dX12_most_22 0 rfl ?_
    refine V.iconst (pc := 23) C dX12_most_23 (v := 0) (by decide) ?_
    refine V.iconst (pc := 24) C dX12_most_24 (v := 0) (by decide) ?_
    refine V.callV (pc := 25) (st := []) C (c_X12_begins l 0 0 m_5) obV ck_X12_begins ml_RX12_351 rfl rfl sM0 kM0 rfl rfl (Nat.le_of_ble_eq_true rfl) ⟨by decide, by decide⟩ dX12_most_25 (fun r_6 m_7 _ => ?_)
    refine V.aload_n (pc := 28) C dX12_most_28 0 rfl ?_
    refine V.iload_n (pc := 29) C dX12_most_29 1 rfl ?_
    refine V.callV (pc := 30) (st := []) C (c_X12_found l x1 m_7) obI ck_X12_found ml_RX12_358 rfl rfl sM0 kM0 rfl rfl (Nat.le_of_ble_eq_true rfl) ⟨by decide, by decide⟩ dX12_most_30 (fun r_8 m_9 _ => ?_)
    exact V.iret C dX12_most_33
  · refine V.bipush (pc := 13) C dX12_most_13 (v := (-2)) (by decide) ?_
    exact V.iret C dX12_most_15
theorem c_X12_most (l : Launch)   (x1 : Int32) (m : Mem) : Ct l yX12_most cX12_most 2 (some .int) 69 SM oI 17 17 RM RM [.ref 0, .int x1] m (X12_most  x1 m) :=
  Ct.of (own := RX12) (nm := "most") (by decide) rfl rfl (Nat.le_of_ble_eq_true rfl) (fun _ _ _ _ _ _ _ _ _ _ _ C => v_X12_most C  x1 m)
theorem dX12_numbers_0 : decode cX12_numbers 0 = .ok (.aload_n 0, 1) := by decide +kernel
theorem dX12_numbers_1 : decode cX12_numbers 1 = .ok (.iconst 0, 1) := by decide +kernel
theorem dX12_numbers_2 : decode cX12_numbers 2 = .ok (.putfield 1, 3) := by decide +kernel
theorem dX12_numbers_5 : decode cX12_numbers 5 = .ok (.iload_n 1, 1) := by decide +kernel
theorem dX12_numbers_6 : decode cX12_numbers 6 = .ok (.i2l, 1) := by decide +kernel
theorem dX12_numbers_7 : decode cX12_numbers 7 = .ok (.lconst 0, 1) := by decide +kernel
theorem dX12_numbers_8 : decode cX12_numbers 8 = .ok (.ldc2_w 287, 3) := by decide +kernel
theorem dX12_numbers_11 : decode cX12_numbers 11 = .ok (.invokestatic 133, 3) := by decide +kernel
theorem dX12_numbers_14 : decode cX12_numbers 14 = .ok (.ifCond .eq 15, 3) := by decide +kernel
theorem dX12_numbers_17 : decode cX12_numbers 17 = .ok (.iload_n 2, 1) := by decide +kernel
theorem dX12_numbers_18 : decode cX12_numbers 18 = .ok (.i2l, 1) := by decide +kernel
theorem dX12_numbers_19 : decode cX12_numbers 19 = .ok (.lconst 0, 1) := by decide +kernel
theorem dX12_numbers_20 : decode cX12_numbers 20 = .ok (.ldc2_w 287, 3) := by decide +kernel
theorem dX12_numbers_23 : decode cX12_numbers 23 = .ok (.invokestatic 133, 3) := by decide +kernel
theorem dX12_numbers_26 : decode cX12_numbers 26 = .ok (.ifCond .ne 6, 3) := by decide +kernel
theorem dX12_numbers_29 : decode cX12_numbers 29 = .ok (.bipush (-2), 2) := by decide +kernel
theorem dX12_numbers_31 : decode cX12_numbers 31 = .ok (.ireturn, 1) := by decide +kernel
theorem dX12_numbers_32 : decode cX12_numbers 32 = .ok (.iload_n 3, 1) := by decide +kernel
theorem dX12_numbers_33 : decode cX12_numbers 33 = .ok (.i2l, 1) := by decide +kernel
theorem dX12_numbers_34 : decode cX12_numbers 34 = .ok (.lconst 0, 1) := by decide +kernel
theorem dX12_numbers_35 : decode cX12_numbers 35 = .ok (.ldc2_w 311, 3) := by decide +kernel
theorem dX12_numbers_38 : decode cX12_numbers 38 = .ok (.invokestatic 133, 3) := by decide +kernel
theorem dX12_numbers_41 : decode cX12_numbers 41 = .ok (.ifCond .ne 6, 3) := by decide +kernel
theorem dX12_numbers_44 : decode cX12_numbers 44 = .ok (.bipush (-3), 2) := by decide +kernel
theorem dX12_numbers_46 : decode cX12_numbers 46 = .ok (.ireturn, 1) := by decide +kernel
theorem dX12_numbers_47 : decode cX12_numbers 47 = .ok (.aload_n 0, 1) := by decide +kernel
theorem dX12_numbers_48 : decode cX12_numbers 48 = .ok (.getfield 57, 3) := by decide +kernel
theorem dX12_numbers_51 : decode cX12_numbers 51 = .ok (.iload_n 1, 1) := by decide +kernel
theorem dX12_numbers_52 : decode cX12_numbers 52 = .ok (.iload_n 2, 1) := by decide +kernel
theorem dX12_numbers_53 : decode cX12_numbers 53 = .ok (.iastore, 1) := by decide +kernel
theorem dX12_numbers_54 : decode cX12_numbers 54 = .ok (.aload_n 0, 1) := by decide +kernel
theorem dX12_numbers_55 : decode cX12_numbers 55 = .ok (.getfield 60, 3) := by decide +kernel
theorem dX12_numbers_58 : decode cX12_numbers 58 = .ok (.iload_n 1, 1) := by decide +kernel
theorem dX12_numbers_59 : decode cX12_numbers 59 = .ok (.iload_n 3, 1) := by decide +kernel
theorem dX12_numbers_60 : decode cX12_numbers 60 = .ok (.iastore, 1) := by decide +kernel
theorem dX12_numbers_61 : decode cX12_numbers 61 = .ok (.iconst 0, 1) := by decide +kernel
theorem dX12_numbers_62 : decode cX12_numbers 62 = .ok (.istore 4, 2) := by decide +kernel
theorem dX12_numbers_64 : decode cX12_numbers 64 = .ok (.iload 4, 2) := by decide +kernel
theorem dX12_numbers_66 : decode cX12_numbers 66 = .ok (.iload_n 3, 1) := by decide +kernel
theorem dX12_numbers_67 : decode cX12_numbers 67 = .ok (.if_icmp .ge 22, 3) := by decide +kernel
theorem dX12_numbers_70 : decode cX12_numbers 70 = .ok (.aload_n 0, 1) := by decide +kernel
theorem dX12_numbers_71 : decode cX12_numbers 71 = .ok (.getfield 63, 3) := by decide +kernel
theorem dX12_numbers_74 : decode cX12_numbers 74 = .ok (.bipush 40, 2) := by decide +kernel
theorem dX12_numbers_76 : decode cX12_numbers 76 = .ok (.iload_n 1, 1) := by decide +kernel
theorem dX12_numbers_77 : decode cX12_numbers 77 = .ok (.imul, 1) := by decide +kernel
theorem dX12_numbers_78 : decode cX12_numbers 78 = .ok (.iload 4, 2) := by decide +kernel
theorem dX12_numbers_80 : decode cX12_numbers 80 = .ok (.iadd, 1) := by decide +kernel
theorem dX12_numbers_81 : decode cX12_numbers 81 = .ok (.lconst 0, 1) := by decide +kernel
theorem dX12_numbers_82 : decode cX12_numbers 82 = .ok (.lastore, 1) := by decide +kernel
theorem dX12_numbers_83 : decode cX12_numbers 83 = .ok (.iinc 4 1, 3) := by decide +kernel
theorem dX12_numbers_86 : decode cX12_numbers 86 = .ok (.goto (-22), 3) := by decide +kernel
theorem dX12_numbers_89 : decode cX12_numbers 89 = .ok (.iconst 0, 1) := by decide +kernel
theorem dX12_numbers_90 : decode cX12_numbers 90 = .ok (.ireturn, 1) := by decide +kernel
set_option maxRecDepth 100000 in
set_option maxHeartbeats 4000000 in
theorem v_X12_numbers_b64 {l : Launch} {p : Program} {e : Env} {s : State} {mt : MethodId} {args : Array Value} {below : List Frame} {meth : Method} {c : Code} {A : Nat → Prop} {ad0 : Nat → Nat} {G : Gt}  (C : Cx G p s mt args meth c RX12 cX12_numbers 5 (some .int) "numbers" A)  : ∀ (n : Nat) (y1 : Int32) (y3 : Int32) (y4 : Int32) (m : Mem), V G SM oI l p e s mt args below meth c 5 2 A ad0 17 17 RM 17 RM 64 [(0, .ref 0), (1, .int y1), (3, .int y3), (4, .int y4)] [] m (X12_numbers_b64  n y1 y3 y4 m) := by
  intro n
  induction n with
  | zero =>
    intro y1 y3 y4 m
    rw [X12_numbers_b64]
    exact V.nil
  | succ n ih =>
    intro y1 y3 y4 m
    rw [X12_numbers_b64]
    refine V.iload (pc := 64) C dX12_numbers_64 3 rfl ?_
    refine V.iload_n (pc := 66) C dX12_numbers_66 2 rfl ?_
    refine V.icmp_ge (pc := 67) C dX12_numbers_67 89 (by decide) (fun _ => ?_) (fun _ => ?_)
    · refine V.iconst (pc := 89) C dX12_numbers_89 (v := 0) (by decide) ?_
      exact V.iret C dX12_numbers_90
    · refine V.aload_n (pc := 70) C dX12_numbers_70 0 rfl ?_
      refine V.getr (pc := 71) C fl_RX12_63 sM0 kM0 rfl rM0_32 dX12_numbers_71 ?_
      refine V.bipush (pc := 74) C dX12_numbers_74 (v := 40) (by decide) ?_
      refine V.iload_n (pc := 76) C dX12_numbers_76 1 rfl ?_
      refine V.imul (pc := 77) C dX12_numbers_77 ?_
      refine V.iload (pc := 78) C dX12_numbers_78 3 rfl ?_
      refine V.iadd (pc := 80) C dX12_numbers_80 ?_
      refine V.lconst (pc := 81) C dX12_numbers_81 (v := 0) (by decide) ?_
      refine V.last (pc := 82) C sM16 kM16 dX12_numbers_82 (fun _ => ?_)
      refine V.ltm (fun m_10 => ?_)
      refine V.iinc (pc := 83) C dX12_numbers_83 (v := 1) (L2 := [(4, .int (y4 + 1)), (0, .ref 0), (1, .int y1), (3, .int y3)]) 3 rfl (by decide) (by decide) rfl ?_
      refine V.goto (pc := 86) C dX12_numbers_86 64 (by decide) ?_
      refine V.wk [1, 2, 3, 0] rfl ?_
      exact ih y1 y3 (y4 + 1) m_10
set_option maxRecDepth 100000 in
set_option maxHeartbeats 4000000 in
theorem v_X12_numbers {l : Launch} {p : Program} {e : Env} {s : State} {mt : MethodId} {args : Array Value} {below : List Frame} {meth : Method} {c : Code} {A : Nat → Prop} {ad0 : Nat → Nat} {G : Gt}  (C : Cx G p s mt args meth c RX12 cX12_numbers 5 (some .int) "numbers" A)  (x1 : Int32) (x2 : Int32) (x3 : Int32) (m : Mem) : V G SM oI l p e s mt args below meth c 5 2 A ad0 17 17 RM 17 RM 0 [(0, .ref 0), (1, .int x1), (2, .int x2), (3, .int x3)] [] m (X12_numbers  x1 x2 x3 m) := by
  rw [X12_numbers]
  refine V.aload_n (pc := 0) C dX12_numbers_0 0 rfl ?_
  refine V.iconst (pc := 1) C dX12_numbers_1 (v := 0) (by decide) ?_
  refine V.puti (pc := 2) C fp_RX12_1 sM0 kM0 rfl dX12_numbers_2 ?_
  refine V.ltm (fun m_1 => ?_)
  refine V.iload_n (pc := 5) C dX12_numbers_5 1 rfl ?_
  refine V.i2l (pc := 6) C dX12_numbers_6 ?_
  refine V.lconst (pc := 7) C dX12_numbers_7 (v := 0) (by decide) ?_
  refine V.ldc2 (pc := 8) C dX12_numbers_8 (v := 3) cl_RX12_287 ?_
  refine V.callS (pc := 11) (st := []) C (c_X12_within l (Int32.toInt64 x1) 0 3 m_1) obI ck_X12_within ml_RX12_133 rfl rfl (Nat.le_of_ble_eq_true rfl) ⟨by decide, by decide⟩ dX12_numbers_11 (fun r_2 m_3 _ => ?_)
  refine V.if_eq (pc := 14) C dX12_numbers_14 29 (by decide) (fun _ => ?_) (fun _ => ?_)
  · refine V.bipush (pc := 29) C dX12_numbers_29 (v := (-2)) (by decide) ?_
    exact V.iret C dX12_numbers_31
  · refine V.iload_n (pc := 17) C dX12_numbers_17 2 rfl ?_
    refine V.i2l (pc := 18) C dX12_numbers_18 ?_
    refine V.lconst (pc := 19) C dX12_numbers_19 (v := 0) (by decide) ?_
    refine V.ldc2 (pc := 20) C dX12_numbers_20 (v := 3) cl_RX12_287 ?_
    refine V.callS (pc := 23) (st := []) C (c_X12_within l (Int32.toInt64 x2) 0 3 m_3) obI ck_X12_within ml_RX12_133 rfl rfl (Nat.le_of_ble_eq_true rfl) ⟨by decide, by decide⟩ dX12_numbers_23 (fun r_4 m_5 _ => ?_)
    refine V.if_ne (pc := 26) C dX12_numbers_26 32 (by decide) (fun _ => ?_) (fun _ => ?_)
    · refine V.iload_n (pc := 32) C dX12_numbers_32 3 rfl ?_
      refine V.i2l (pc := 33) C dX12_numbers_33 ?_
      refine V.lconst (pc := 34) C dX12_numbers_34 (v := 0) (by decide) ?_
      refine V.ldc2 (pc := 35) C dX12_numbers_35 (v := 40) cl_RX12_311 ?_
      refine V.callS (pc := 38) (st := []) C (c_X12_within l (Int32.toInt64 x3) 0 40 m_5) obI ck_X12_within ml_RX12_133 rfl rfl (Nat.le_of_ble_eq_true rfl) ⟨by decide, by decide⟩ dX12_numbers_38 (fun r_6 m_7 _ => ?_)
      refine V.if_ne (pc := 41) C dX12_numbers_41 47 (by decide) (fun _ => ?_) (fun _ => ?_)
      · refine V.aload_n (pc := 47) C dX12_numbers_47 0 rfl ?_
        refine V.getr (pc := 48) C fl_RX12_57 sM0 kM0 rfl rM0_30 dX12_numbers_48 ?_
        refine V.iload_n (pc := 51) C dX12_numbers_51 1 rfl ?_
        refine V.iload_n (pc := 52) C dX12_numbers_52 2 rfl ?_
        refine V.iast (pc := 53) C sM14 kM14 dX12_numbers_53 (fun _ => ?_)
        refine V.ltm (fun m_8 => ?_)
        refine V.aload_n (pc := 54) C dX12_numbers_54 0 rfl ?_
        refine V.getr (pc := 55) C fl_RX12_60 sM0 kM0 rfl rM0_31 dX12_numbers_55 ?_
        refine V.iload_n (pc := 58) C dX12_numbers_58 1 rfl ?_
        refine V.iload_n (pc := 59) C dX12_numbers_59 3 rfl ?_
        refine V.iast (pc := 60) C sM15 kM15 dX12_numbers_60 (fun _ => ?_)
        refine V.ltm (fun m_9 => ?_)
        refine V.iconst (pc := 61) C dX12_numbers_61 (v := 0) (by decide) ?_
        refine V.istore (pc := 62) C dX12_numbers_62 (L2 := [(4, .int 0), (0, .ref 0), (1, .int x1), (2, .int x2), (3, .int x3)]) (by decide) rfl ?_
        refine V.wk [1, 2, 4, 0] rfl ?_
        exact v_X12_numbers_b64 C  FU x1 x3 0 m_9
      · refine V.bipush (pc := 44) C dX12_numbers_44 (v := (-3)) (by decide) ?_
        exact V.iret C dX12_numbers_46
    · refine V.bipush (pc := 29) C dX12_numbers_29 (v := (-2)) (by decide) ?_
      exact V.iret C dX12_numbers_31
theorem c_X12_numbers (l : Launch)   (x1 : Int32) (x2 : Int32) (x3 : Int32) (m : Mem) : Ct l yX12_numbers cX12_numbers 5 (some .int) 2 SM oI 17 17 RM RM [.ref 0, .int x1, .int x2, .int x3] m (X12_numbers  x1 x2 x3 m) :=
  Ct.of (own := RX12) (nm := "numbers") (by decide) rfl rfl (Nat.le_of_ble_eq_true rfl) (fun _ _ _ _ _ _ _ _ _ _ _ C => v_X12_numbers C  x1 x2 x3 m)
