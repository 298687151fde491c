theorem cg_X12_readTruth (l : Launch)  : ∀ d : Nat, (∀ (x1 : Int32) (m : Mem), Ct l yX12_readTruth cX12_readTruth 2 none (d + 8) SM oV 17 17 RM RM [.ref 0, .int x1] m ((g_X12_readTruth d).1 x1 m)) ∧
    (∀ (x1 : Int32) (m : Mem), Ct l yX12_readBoth cX12_readBoth 2 none (d + 8) SM oV 17 17 RM RM [.ref 0, .int x1] m ((g_X12_readTruth d).2.1 x1 m)) ∧
    (∀ (x1 : Int32) (m : Mem), Ct l yX12_readUnit cX12_readUnit 3 none (d + 8) SM oV 17 17 RM RM [.ref 0, .int x1] m ((g_X12_readTruth d).2.2.1 x1 m)) ∧
    (∀ (x1 : Int32) (m : Mem), Ct l yX12_readSum cX12_readSum 3 none (d + 8) SM oV 17 17 RM RM [.ref 0, .int x1] m ((g_X12_readTruth d).2.2.2.1 x1 m)) ∧
    (∀ (x1 : Int32) (m : Mem), Ct l yX12_readTerm cX12_readTerm 2 none (d + 8) SM oV 17 17 RM RM [.ref 0, .int x1] m ((g_X12_readTruth d).2.2.2.2.1 x1 m)) ∧
    (∀ (x1 : Int32) (m : Mem), Ct l yX12_readAtom cX12_readAtom 2 none (d + 8) SM oV 17 17 RM RM [.ref 0, .int x1] m ((g_X12_readTruth d).2.2.2.2.2 x1 m))
  | 0 => ⟨fun _ _ => ct_none, fun _ _ => ct_none, fun _ _ => ct_none, fun _ _ => ct_none, fun _ _ => ct_none, fun _ _ => ct_none⟩
  | d + 1 => by
    have ih := cg_X12_readTruth l d
    exact ⟨fun x1 m => c_X12_readTruth l (fr := d + 1 + 8) (fr1 := d + 8) ⟨by omega, by omega⟩ _ (ih.2.1) x1 m, fun x1 m => c_X12_readBoth l (fr := d + 1 + 8) (fr1 := d + 8) ⟨by omega, by omega⟩ _ (ih.2.2.1) x1 m, fun x1 m => c_X12_readUnit l (fr := d + 1 + 8) (fr1 := d + 8) ⟨by omega, by omega⟩ _ (ih.1) _ (ih.2.2.1) _ (ih.2.2.2.1) x1 m, fun x1 m => c_X12_readSum l (fr := d + 1 + 8) (fr1 := d + 8) ⟨by omega, by omega⟩ _ (ih.2.2.2.2.1) x1 m, fun x1 m => c_X12_readTerm l (fr := d + 1 + 8) (fr1 := d + 8) ⟨by omega, by omega⟩ _ (ih.2.2.2.2.2) x1 m, fun x1 m => c_X12_readAtom l (fr := d + 1 + 8) (fr1 := d + 8) ⟨by omega, by omega⟩ _ (ih.2.2.2.1) x1 m⟩
theorem c_X12_readTruth_top (l : Launch)  (x1 : Int32) (m : Mem) : Ct l yX12_readTruth cX12_readTruth 2 none 72 SM oV 17 17 RM RM [.ref 0, .int x1] m (X12_readTruth_top x1 m) := (cg_X12_readTruth l 64).1 x1 m
theorem c_X12_readBoth_top (l : Launch)  (x1 : Int32) (m : Mem) : Ct l yX12_readBoth cX12_readBoth 2 none 72 SM oV 17 17 RM RM [.ref 0, .int x1] m (X12_readBoth_top x1 m) := (cg_X12_readTruth l 64).2.1 x1 m
theorem c_X12_readUnit_top (l : Launch)  (x1 : Int32) (m : Mem) : Ct l yX12_readUnit cX12_readUnit 3 none 72 SM oV 17 17 RM RM [.ref 0, .int x1] m (X12_readUnit_top x1 m) := (cg_X12_readTruth l 64).2.2.1 x1 m
theorem c_X12_readSum_top (l : Launch)  (x1 : Int32) (m : Mem) : Ct l yX12_readSum cX12_readSum 3 none 72 SM oV 17 17 RM RM [.ref 0, .int x1] m (X12_readSum_top x1 m) := (cg_X12_readTruth l 64).2.2.2.1 x1 m
theorem c_X12_readTerm_top (l : Launch)  (x1 : Int32) (m : Mem) : Ct l yX12_readTerm cX12_readTerm 2 none 72 SM oV 17 17 RM RM [.ref 0, .int x1] m (X12_readTerm_top x1 m) := (cg_X12_readTruth l 64).2.2.2.2.1 x1 m
theorem c_X12_readAtom_top (l : Launch)  (x1 : Int32) (m : Mem) : Ct l yX12_readAtom cX12_readAtom 2 none 72 SM oV 17 17 RM RM [.ref 0, .int x1] m (X12_readAtom_top x1 m) := (cg_X12_readTruth l 64).2.2.2.2.2 x1 m
theorem dX12_readLaw_0 : decode cX12_readLaw 0 = .ok (.aload_n 0, 1) := by decide +kernel
theorem dX12_readLaw_1 : decode cX12_readLaw 1 = .ok (.invokevirtual 126, 3) := by decide +kernel
theorem dX12_readLaw_4 : decode cX12_readLaw 4 = .ok (.aload_n 0, 1) := by decide +kernel
theorem dX12_readLaw_5 : decode cX12_readLaw 5 = .ok (.bipush 31, 2) := by decide +kernel
theorem dX12_readLaw_7 : decode cX12_readLaw 7 = .ok (.invokevirtual 150, 3) := by decide +kernel
theorem dX12_readLaw_10 : decode cX12_readLaw 10 = .ok (.ifCond .ne 8, 3) := by decide +kernel
theorem dX12_readLaw_13 : decode cX12_readLaw 13 = .ok (.aload_n 0, 1) := by decide +kernel
theorem dX12_readLaw_14 : decode cX12_readLaw 14 = .ok (.iconst 2, 1) := by decide +kernel
theorem dX12_readLaw_15 : decode cX12_readLaw 15 = .ok (.invokevirtual 129, 3) := by decide +kernel
theorem dX12_readLaw_18 : decode cX12_readLaw 18 = .ok (.aload_n 0, 1) := by decide +kernel
theorem dX12_readLaw_19 : decode cX12_readLaw 19 = .ok (.getfield 24, 3) := by decide +kernel
theorem dX12_readLaw_22 : decode cX12_readLaw 22 = .ok (.sipush 1195, 3) := by decide +kernel
theorem dX12_readLaw_25 : decode cX12_readLaw 25 = .ok (.iaload, 1) := by decide +kernel
theorem dX12_readLaw_26 : decode cX12_readLaw 26 = .ok (.istore_n 2, 1) := by decide +kernel
theorem dX12_readLaw_27 : decode cX12_readLaw 27 = .ok (.iload_n 1, 1) := by decide +kernel
theorem dX12_readLaw_28 : decode cX12_readLaw 28 = .ok (.ifCond .ne 11, 3) := by decide +kernel
theorem dX12_readLaw_31 : decode cX12_readLaw 31 = .ok (.aload_n 0, 1) := by decide +kernel
theorem dX12_readLaw_32 : decode cX12_readLaw 32 = .ok (.iconst 0, 1) := by decide +kernel
theorem dX12_readLaw_33 : decode cX12_readLaw 33 = .ok (.invokevirtual 147, 3) := by decide +kernel
theorem dX12_readLaw_36 : decode cX12_readLaw 36 = .ok (.goto 8, 3) := by decide +kernel
theorem dX12_readLaw_39 : decode cX12_readLaw 39 = .ok (.aload_n 0, 1) := by decide +kernel
theorem dX12_readLaw_40 : decode cX12_readLaw 40 = .ok (.iconst 0, 1) := by decide +kernel
theorem dX12_readLaw_41 : decode cX12_readLaw 41 = .ok (.invokevirtual 162, 3) := by decide +kernel
theorem dX12_readLaw_44 : decode cX12_readLaw 44 = .ok (.aload_n 0, 1) := by decide +kernel
theorem dX12_readLaw_45 : decode cX12_readLaw 45 = .ok (.getfield 117, 3) := by decide +kernel
theorem dX12_readLaw_48 : decode cX12_readLaw 48 = .ok (.ifCond .eq 4, 3) := by decide +kernel
theorem dX12_readLaw_51 : decode cX12_readLaw 51 = .ok (.return_, 1) := by decide +kernel
theorem dX12_readLaw_52 : decode cX12_readLaw 52 = .ok (.aload_n 0, 1) := by decide +kernel
theorem dX12_readLaw_53 : decode cX12_readLaw 53 = .ok (.getfield 24, 3) := by decide +kernel
theorem dX12_readLaw_56 : decode cX12_readLaw 56 = .ok (.iconst 5, 1) := by decide +kernel
theorem dX12_readLaw_57 : decode cX12_readLaw 57 = .ok (.iload_n 1, 1) := by decide +kernel
theorem dX12_readLaw_58 : decode cX12_readLaw 58 = .ok (.iadd, 1) := by decide +kernel
theorem dX12_readLaw_59 : decode cX12_readLaw 59 = .ok (.iconst 1, 1) := by decide +kernel
theorem dX12_readLaw_60 : decode cX12_readLaw 60 = .ok (.iastore, 1) := by decide +kernel
theorem dX12_readLaw_61 : decode cX12_readLaw 61 = .ok (.aload_n 0, 1) := by decide +kernel
theorem dX12_readLaw_62 : decode cX12_readLaw 62 = .ok (.getfield 24, 3) := by decide +kernel
theorem dX12_readLaw_65 : decode cX12_readLaw 65 = .ok (.bipush 7, 2) := by decide +kernel
theorem dX12_readLaw_67 : decode cX12_readLaw 67 = .ok (.iload_n 1, 1) := by decide +kernel
theorem dX12_readLaw_68 : decode cX12_readLaw 68 = .ok (.iadd, 1) := by decide +kernel
theorem dX12_readLaw_69 : decode cX12_readLaw 69 = .ok (.iload_n 2, 1) := by decide +kernel
theorem dX12_readLaw_70 : decode cX12_readLaw 70 = .ok (.iastore, 1) := by decide +kernel
theorem dX12_readLaw_71 : decode cX12_readLaw 71 = .ok (.aload_n 0, 1) := by decide +kernel
theorem dX12_readLaw_72 : decode cX12_readLaw 72 = .ok (.getfield 24, 3) := by decide +kernel
theorem dX12_readLaw_75 : decode cX12_readLaw 75 = .ok (.bipush 9, 2) := by decide +kernel
theorem dX12_readLaw_77 : decode cX12_readLaw 77 = .ok (.iload_n 1, 1) := by decide +kernel
theorem dX12_readLaw_78 : decode cX12_readLaw 78 = .ok (.iadd, 1) := by decide +kernel
theorem dX12_readLaw_79 : decode cX12_readLaw 79 = .ok (.aload_n 0, 1) := by decide +kernel
theorem dX12_readLaw_80 : decode cX12_readLaw 80 = .ok (.getfield 24, 3) := by decide +kernel
theorem dX12_readLaw_83 : decode cX12_readLaw 83 = .ok (.sipush 1195, 3) := by decide +kernel
theorem dX12_readLaw_86 : decode cX12_readLaw 86 = .ok (.iaload, 1) := by decide +kernel
theorem dX12_readLaw_87 : decode cX12_readLaw 87 = .ok (.iload_n 2, 1) := by decide +kernel
theorem dX12_readLaw_88 : decode cX12_readLaw 88 = .ok (.isub, 1) := by decide +kernel
theorem dX12_readLaw_89 : decode cX12_readLaw 89 = .ok (.iastore, 1) := by decide +kernel
theorem dX12_readLaw_90 : decode cX12_readLaw 90 = .ok (.return_, 1) := by decide +kernel
set_option maxRecDepth 100000 in
set_option maxHeartbeats 4000000 in
theorem v_X12_readLaw_b44 {l : Launch} {p : Program} {e : Env} {s : State} {mt : MethodId} {args : Array Value} {below : List Frame} {meth : Method} {c : Code} {A : Nat → Prop} {ad0 : Nat → Nat} {G : Gt}  (C : Cx G p s mt args meth c RX12 cX12_readLaw 3 none "readLaw" A)  (y1 : Int32) (y2 : Int32) (m : Mem) : V G SM oV l p e s mt args below meth c 3 73 A ad0 17 17 RM 17 RM 44 [(0, .ref 0), (1, .int y1), (2, .int y2)] [] m (X12_readLaw_b44  y1 y2 m) := by
  rw [X12_readLaw_b44]
  refine V.aload_n (pc := 44) C dX12_readLaw_44 0 rfl ?_
  refine V.geti (pc := 45) C fl_RX12_117 sM0 kM0 rfl dX12_readLaw_45 ?_
  refine V.if_eq (pc := 48) C dX12_readLaw_48 52 (by decide) (fun _ => ?_) (fun _ => ?_)
  · refine V.aload_n (pc := 52) C dX12_readLaw_52 0 rfl ?_
    refine V.getr (pc := 53) C fl_RX12_24 sM0 kM0 rfl rM0_4 dX12_readLaw_53 ?_
    refine V.iconst (pc := 56) C dX12_readLaw_56 (v := 5) (by decide) ?_
    refine V.iload_n (pc := 57) C dX12_readLaw_57 1 rfl ?_
    refine V.iadd (pc := 58) C dX12_readLaw_58 ?_
    refine V.iconst (pc := 59) C dX12_readLaw_59 (v := 1) (by decide) ?_
    refine V.iast (pc := 60) C sM4 kM4 dX12_readLaw_60 (fun _ => ?_)
    refine V.ltm (fun m_8 => ?_)
    refine V.aload_n (pc := 61) C dX12_readLaw_61 0 rfl ?_
    refine V.getr (pc := 62) C fl_RX12_24 sM0 kM0 rfl rM0_4 dX12_readLaw_62 ?_
    refine V.bipush (pc := 65) C dX12_readLaw_65 (v := 7) (by decide) ?_
    refine V.iload_n (pc := 67) C dX12_readLaw_67 1 rfl ?_
    refine V.iadd (pc := 68) C dX12_readLaw_68 ?_
    refine V.iload_n (pc := 69) C dX12_readLaw_69 2 rfl ?_
    refine V.iast (pc := 70) C sM4 kM4 dX12_readLaw_70 (fun _ => ?_)
    refine V.ltm (fun m_9 => ?_)
    refine V.aload_n (pc := 71) C dX12_readLaw_71 0 rfl ?_
    refine V.getr (pc := 72) C fl_RX12_24 sM0 kM0 rfl rM0_4 dX12_readLaw_72 ?_
    refine V.bipush (pc := 75) C dX12_readLaw_75 (v := 9) (by decide) ?_
    refine V.iload_n (pc := 77) C dX12_readLaw_77 1 rfl ?_
    refine V.iadd (pc := 78) C dX12_readLaw_78 ?_
    refine V.aload_n (pc := 79) C dX12_readLaw_79 0 rfl ?_
    refine V.getr (pc := 80) C fl_RX12_24 sM0 kM0 rfl rM0_4 dX12_readLaw_80 ?_
    refine V.sipush (pc := 83) C dX12_readLaw_83 (v := 1195) (by decide) ?_
    refine V.iald (pc := 86) C sM4 kM4 dX12_readLaw_86 (fun _ => ?_)
    refine V.iload_n (pc := 87) C dX12_readLaw_87 2 rfl ?_
    refine V.isub (pc := 88) C dX12_readLaw_88 ?_
    refine V.iast (pc := 89) C sM4 kM4 dX12_readLaw_89 (fun _ => ?_)
    refine V.ltm (fun m_10 => ?_)
    exact V.vret C dX12_readLaw_90
  · exact V.vret C dX12_readLaw_51
set_option maxRecDepth 100000 in
set_option maxHeartbeats 4000000 in
theorem v_X12_readLaw_b18 {l : Launch} {p : Program} {e : Env} {s : State} {mt : MethodId} {args : Array Value} {below : List Frame} {meth : Method} {c : Code} {A : Nat → Prop} {ad0 : Nat → Nat} {G : Gt}  (C : Cx G p s mt args meth c RX12 cX12_readLaw 3 none "readLaw" A)  (y1 : Int32) (m : Mem) : V G SM oV l p e s mt args below meth c 3 73 A ad0 17 17 RM 17 RM 18 [(0, .ref 0), (1, .int y1)] [] m (X12_readLaw_b18  y1 m) := by
  rw [X12_readLaw_b18]
  refine V.aload_n (pc := 18) C dX12_readLaw_18 0 rfl ?_
  refine V.getr (pc := 19) C fl_RX12_24 sM0 kM0 rfl rM0_4 dX12_readLaw_19 ?_
  refine V.sipush (pc := 22) C dX12_readLaw_22 (v := 1195) (by decide) ?_
  refine V.iald (pc := 25) C sM4 kM4 dX12_readLaw_25 (fun _ => ?_)
  refine V.lti (fun x_5 _ => ?_)
  refine V.istore_n (pc := 26) C dX12_readLaw_26 (L2 := [(2, .int x_5), (0, .ref 0), (1, .int y1)]) (by decide) rfl ?_
  refine V.iload_n (pc := 27) C dX12_readLaw_27 2 rfl ?_
  refine V.if_ne (pc := 28) C dX12_readLaw_28 39 (by decide) (fun _ => ?_) (fun _ => ?_)
  · refine V.aload_n (pc := 39) C dX12_readLaw_39 1 rfl ?_
    refine V.iconst (pc := 40) C dX12_readLaw_40 (v := 0) (by decide) ?_
    refine V.callV (pc := 41) (st := []) C (c_X12_readTruth_top l 0 m) obV ck_X12_readTruth ml_RX12_162 rfl rfl sM0 kM0 rfl rfl (Nat.le_of_ble_eq_true rfl) ⟨by decide, by decide⟩ dX12_readLaw_41 (fun r_6 m_7 _ => ?_)
    refine V.wk [1, 2, 0] rfl ?_
    exact v_X12_readLaw_b44 C  y1 x_5 m_7
  · refine V.aload_n (pc := 31) C dX12_readLaw_31 1 rfl ?_
    refine V.iconst (pc := 32) C dX12_readLaw_32 (v := 0) (by decide) ?_
    refine V.callV (pc := 33) (st := []) C (c_X12_readSum_top l 0 m) obV ck_X12_readSum ml_RX12_147 rfl rfl sM0 kM0 rfl rfl (Nat.le_of_ble_eq_true rfl) ⟨by decide, by decide⟩ dX12_readLaw_33 (fun r_11 m_12 _ => ?_)
    refine V.goto (pc := 36) C dX12_readLaw_36 44 (by decide) ?_
    refine V.wk [1, 2, 0] rfl ?_
    exact v_X12_readLaw_b44 C  y1 x_5 m_12
set_option maxRecDepth 100000 in
set_option maxHeartbeats 4000000 in
theorem v_X12_readLaw {l : Launch} {p : Program} {e : Env} {s : State} {mt : MethodId} {args : Array Value} {below : List Frame} {meth : Method} {c : Code} {A : Nat → Prop} {ad0 : Nat → Nat} {G : Gt}  (C : Cx G p s mt args meth c RX12 cX12_readLaw 3 none "readLaw" A)  (x1 : Int32) (m : Mem) : V G SM oV l p e s mt args below meth c 3 73 A ad0 17 17 RM 17 RM 0 [(0, .ref 0), (1, .int x1)] [] m (X12_readLaw  x1 m) := by
  rw [X12_readLaw]
  refine V.aload_n (pc := 0) C dX12_readLaw_0 0 rfl ?_
  refine V.callV (pc := 1) (st := []) C (c_X12_next l  m) obV ck_X12_next ml_RX12_126 rfl rfl sM0 kM0 rfl rfl (Nat.le_of_ble_eq_true rfl) ⟨by decide, by decide⟩ dX12_readLaw_1 (fun r_1 m_2 _ => ?_)
  refine V.aload_n (pc := 4) C dX12_readLaw_4 0 rfl ?_
  refine V.bipush (pc := 5) C dX12_readLaw_5 (v := 31) (by decide) ?_
  refine V.callV (pc := 7) (st := []) C (c_X12_eats l 31 m_2) obI ck_X12_eats ml_RX12_150 rfl rfl sM0 kM0 rfl rfl (Nat.le_of_ble_eq_true rfl) ⟨by decide, by decide⟩ dX12_readLaw_7 (fun r_3 m_4 _ => ?_)
  refine V.if_ne (pc := 10) C dX12_readLaw_10 18 (by decide) (fun _ => ?_) (fun _ => ?_)
  · refine V.wk [0, 1] rfl ?_
    exact v_X12_readLaw_b18 C  x1 m_4
  · refine V.aload_n (pc := 13) C dX12_readLaw_13 0 rfl ?_
    refine V.iconst (pc := 14) C dX12_readLaw_14 (v := 2) (by decide) ?_
    refine V.callV (pc := 15) (st := []) C (c_X12_fails l 2 m_4) obV ck_X12_fails ml_RX12_129 rfl rfl sM0 kM0 rfl rfl (Nat.le_of_ble_eq_true rfl) ⟨by decide, by decide⟩ dX12_readLaw_15 (fun r_13 m_14 _ => ?_)
    refine V.wk [0, 1] rfl ?_
    exact v_X12_readLaw_b18 C  x1 m_14
theorem c_X12_readLaw (l : Launch)   (x1 : Int32) (m : Mem) : Ct l yX12_readLaw cX12_readLaw 3 none 73 SM oV 17 17 RM RM [.ref 0, .int x1] m (X12_readLaw  x1 m) :=
  Ct.of (own := RX12) (nm := "readLaw") (by decide) rfl rfl (Nat.le_of_ble_eq_true rfl) (fun _ _ _ _ _ _ _ _ _ _ _ C => v_X12_readLaw C  x1 m)
theorem dX12_readLine_0 : decode cX12_readLine 0 = .ok (.aload_n 0, 1) := by decide +kernel
theorem dX12_readLine_1 : decode cX12_readLine 1 = .ok (.iconst 0, 1) := by decide +kernel
theorem dX12_readLine_2 : decode cX12_readLine 2 = .ok (.invokevirtual 123, 3) := by decide +kernel
theorem dX12_readLine_5 : decode cX12_readLine 5 = .ok (.ifCond .eq 10, 3) := by decide +kernel
theorem dX12_readLine_8 : decode cX12_readLine 8 = .ok (.aload_n 0, 1) := by decide +kernel
theorem dX12_readLine_9 : decode cX12_readLine 9 = .ok (.invokevirtual 179, 3) := by decide +kernel
theorem dX12_readLine_12 : decode cX12_readLine 12 = .ok (.goto 106, 3) := by decide +kernel
theorem dX12_readLine_15 : decode cX12_readLine 15 = .ok (.aload_n 0, 1) := by decide +kernel
theorem dX12_readLine_16 : decode cX12_readLine 16 = .ok (.iconst 2, 1) := by decide +kernel
theorem dX12_readLine_17 : decode cX12_readLine 17 = .ok (.invokevirtual 123, 3) := by decide +kernel
theorem dX12_readLine_20 : decode cX12_readLine 20 = .ok (.ifCond .eq 10, 3) := by decide +kernel
theorem dX12_readLine_23 : decode cX12_readLine 23 = .ok (.aload_n 0, 1) := by decide +kernel
theorem dX12_readLine_24 : decode cX12_readLine 24 = .ok (.invokevirtual 182, 3) := by decide +kernel
theorem dX12_readLine_27 : decode cX12_readLine 27 = .ok (.goto 91, 3) := by decide +kernel
theorem dX12_readLine_30 : decode cX12_readLine 30 = .ok (.aload_n 0, 1) := by decide +kernel
theorem dX12_readLine_31 : decode cX12_readLine 31 = .ok (.bipush 6, 2) := by decide +kernel
theorem dX12_readLine_33 : decode cX12_readLine 33 = .ok (.invokevirtual 123, 3) := by decide +kernel
theorem dX12_readLine_36 : decode cX12_readLine 36 = .ok (.ifCond .ne 12, 3) := by decide +kernel
theorem dX12_readLine_39 : decode cX12_readLine 39 = .ok (.aload_n 0, 1) := by decide +kernel
theorem dX12_readLine_40 : decode cX12_readLine 40 = .ok (.bipush 7, 2) := by decide +kernel
theorem dX12_readLine_42 : decode cX12_readLine 42 = .ok (.invokevirtual 123, 3) := by decide +kernel
theorem dX12_readLine_45 : decode cX12_readLine 45 = .ok (.ifCond .eq 17, 3) := by decide +kernel
theorem dX12_readLine_48 : decode cX12_readLine 48 = .ok (.aload_n 0, 1) := by decide +kernel
theorem dX12_readLine_49 : decode cX12_readLine 49 = .ok (.aload_n 0, 1) := by decide +kernel
theorem dX12_readLine_50 : decode cX12_readLine 50 = .ok (.getfield 99, 3) := by decide +kernel
theorem dX12_readLine_53 : decode cX12_readLine 53 = .ok (.bipush 6, 2) := by decide +kernel
theorem dX12_readLine_55 : decode cX12_readLine 55 = .ok (.isub, 1) := by decide +kernel
theorem dX12_readLine_56 : decode cX12_readLine 56 = .ok (.invokevirtual 185, 3) := by decide +kernel
theorem dX12_readLine_59 : decode cX12_readLine 59 = .ok (.goto 59, 3) := by decide +kernel
theorem dX12_readLine_62 : decode cX12_readLine 62 = .ok (.aload_n 0, 1) := by decide +kernel
theorem dX12_readLine_63 : decode cX12_readLine 63 = .ok (.bipush 8, 2) := by decide +kernel
theorem dX12_readLine_65 : decode cX12_readLine 65 = .ok (.invokevirtual 150, 3) := by decide +kernel
theorem dX12_readLine_68 : decode cX12_readLine 68 = .ok (.ifCond .eq 20, 3) := by decide +kernel
theorem dX12_readLine_71 : decode cX12_readLine 71 = .ok (.aload_n 0, 1) := by decide +kernel
theorem dX12_readLine_72 : decode cX12_readLine 72 = .ok (.getfield 24, 3) := by decide +kernel
theorem dX12_readLine_75 : decode cX12_readLine 75 = .ok (.iconst 3, 1) := by decide +kernel
theorem dX12_readLine_76 : decode cX12_readLine 76 = .ok (.aload_n 0, 1) := by decide +kernel
theorem dX12_readLine_77 : decode cX12_readLine 77 = .ok (.iconst 0, 1) := by decide +kernel
theorem dX12_readLine_78 : decode cX12_readLine 78 = .ok (.sipush 999, 3) := by decide +kernel
theorem dX12_readLine_81 : decode cX12_readLine 81 = .ok (.invokevirtual 168, 3) := by decide +kernel
theorem dX12_readLine_84 : decode cX12_readLine 84 = .ok (.iastore, 1) := by decide +kernel
theorem dX12_readLine_85 : decode cX12_readLine 85 = .ok (.goto 33, 3) := by decide +kernel
theorem dX12_readLine_88 : decode cX12_readLine 88 = .ok (.aload_n 0, 1) := by decide +kernel
theorem dX12_readLine_89 : decode cX12_readLine 89 = .ok (.bipush 9, 2) := by decide +kernel
theorem dX12_readLine_91 : decode cX12_readLine 91 = .ok (.invokevirtual 150, 3) := by decide +kernel
theorem dX12_readLine_94 : decode cX12_readLine 94 = .ok (.ifCond .eq 19, 3) := by decide +kernel
theorem dX12_readLine_97 : decode cX12_readLine 97 = .ok (.aload_n 0, 1) := by decide +kernel
theorem dX12_readLine_98 : decode cX12_readLine 98 = .ok (.getfield 24, 3) := by decide +kernel
theorem dX12_readLine_101 : decode cX12_readLine 101 = .ok (.iconst 4, 1) := by decide +kernel
theorem dX12_readLine_102 : decode cX12_readLine 102 = .ok (.aload_n 0, 1) := by decide +kernel
theorem dX12_readLine_103 : decode cX12_readLine 103 = .ok (.iconst 1, 1) := by decide +kernel
theorem dX12_readLine_104 : decode cX12_readLine 104 = .ok (.bipush 14, 2) := by decide +kernel
theorem dX12_readLine_106 : decode cX12_readLine 106 = .ok (.invokevirtual 168, 3) := by decide +kernel
theorem dX12_readLine_109 : decode cX12_readLine 109 = .ok (.iastore, 1) := by decide +kernel
theorem dX12_readLine_110 : decode cX12_readLine 110 = .ok (.goto 8, 3) := by decide +kernel
theorem dX12_readLine_113 : decode cX12_readLine 113 = .ok (.aload_n 0, 1) := by decide +kernel
theorem dX12_readLine_114 : decode cX12_readLine 114 = .ok (.iconst 2, 1) := by decide +kernel
theorem dX12_readLine_115 : decode cX12_readLine 115 = .ok (.invokevirtual 129, 3) := by decide +kernel
theorem dX12_readLine_118 : decode cX12_readLine 118 = .ok (.return_, 1) := by decide +kernel
set_option maxRecDepth 100000 in
set_option maxHeartbeats 4000000 in
theorem v_X12_readLine_b48 {l : Launch} {p : Program} {e : Env} {s : State} {mt : MethodId} {args : Array Value} {below : List Frame} {meth : Method} {c : Code} {A : Nat → Prop} {ad0 : Nat → Nat} {G : Gt}  (C : Cx G p s mt args meth c RX12 cX12_readLine 1 none "readLine" A)  (m : Mem) : V G SM oV l p e s mt args below meth c 1 74 A ad0 17 17 RM 17 RM 48 [(0, .ref 0)] [] m (X12_readLine_b48   m) := by
  rw [X12_readLine_b48]
  refine V.aload_n (pc := 48) C dX12_readLine_48 0 rfl ?_
  refine V.aload_n (pc := 49) C dX12_readLine_49 0 rfl ?_
  refine V.geti (pc := 50) C fl_RX12_99 sM0 kM0 rfl dX12_readLine_50 ?_
  refine V.bipush (pc := 53) C dX12_readLine_53 (v := 6) (by decide) ?_
  refine V.isub (pc := 55) C dX12_readLine_55 ?_
  refine V.callV (pc := 56) (st := []) C (c_X12_readLaw l ((gi m 0 9) - 6) m) obV ck_X12_readLaw ml_RX12_185 rfl rfl sM0 kM0 rfl rfl (Nat.le_of_ble_eq_true rfl) ⟨by decide, by decide⟩ dX12_readLine_56 (fun r_7 m_8 _ => ?_)
  refine V.goto (pc := 59) C dX12_readLine_59 118 (by decide) ?_
  exact V.vret C dX12_readLine_118
set_option maxRecDepth 100000 in
set_option maxHeartbeats 4000000 in
theorem v_X12_readLine {l : Launch} {p : Program} {e : Env} {s : State} {mt : MethodId} {args : Array Value} {below : List Frame} {meth : Method} {c : Code} {A : Nat → Prop} {ad0 : Nat → Nat} {G : Gt}  (C : Cx G p s mt args meth c RX12 cX12_readLine 1 none "readLine" A)  (m : Mem) : V G SM oV l p e s mt args below meth c 1 74 A ad0 17 17 RM 17 RM 0 [(0, .ref 0)] [] m (X12_readLine   m) := by
  rw [X12_readLine]
  refine V.aload_n (pc := 0) C dX12_readLine_0 0 rfl ?_
  refine V.iconst (pc := 1) C dX12_readLine_1 (v := 0) (by decide) ?_
  refine V.callV (pc := 2) (st := []) C (c_X12_is l 0 m) obI ck_X12_is ml_RX12_123 rfl rfl sM0 kM0 rfl rfl (Nat.le_of_ble_eq_true rfl) ⟨by decide, by decide⟩ dX12_readLine_2 (fun r_1 m_2 _ => ?_)
  refine V.if_eq (pc := 5) C dX12_readLine_5 15 (by decide) (fun _ => ?_) (fun _ => ?_)
  · refine V.aload_n (pc := 15) C dX12_readLine_15 0 rfl ?_
    refine V.iconst (pc := 16) C dX12_readLine_16 (v := 2) (by decide) ?_
    refine V.callV (pc := 17) (st := []) C (c_X12_is l 2 m_2) obI ck_X12_is ml_RX12_123 rfl rfl sM0 kM0 rfl rfl (Nat.le_of_ble_eq_true rfl) ⟨by decide, by decide⟩ dX12_readLine_17 (fun r_3 m_4 _ => ?_)
    refine V.if_eq (pc := 20) C dX12_readLine_20 30 (by decide) (fun _ => ?_) (fun _ => ?_)
    · refine V.aload_n (pc := 30) C dX12_readLine_30 0 rfl ?_
      refine V.bipush (pc := 31) C dX12_readLine_31 (v := 6) (by decide) ?_
      refine V.callV (pc := 33) (st := []) C (c_X12_is l 6 m_4) obI ck_X12_is ml_RX12_123 rfl rfl sM0 kM0 rfl rfl (Nat.le_of_ble_eq_true rfl) ⟨by decide, by decide⟩ dX12_readLine_33 (fun r_5 m_6 _ => ?_)
      refine V.if_ne (pc := 36) C dX12_readLine_36 48 (by decide) (fun _ => ?_) (fun _ => ?_)
      · refine V.wk [0] rfl ?_
        exact v_X12_readLine_b48 C   m_6
      · refine V.aload_n (pc := 39) C dX12_readLine_39 0 rfl ?_
        refine V.bipush (pc := 40) C dX12_readLine_40 (v := 7) (by decide) ?_
        refine V.callV (pc := 42) (st := []) C (c_X12_is l 7 m_6) obI ck_X12_is ml_RX12_123 rfl rfl sM0 kM0 rfl rfl (Nat.le_of_ble_eq_true rfl) ⟨by decide, by decide⟩ dX12_readLine_42 (fun r_9 m_10 _ => ?_)
        refine V.if_eq (pc := 45) C dX12_readLine_45 62 (by decide) (fun _ => ?_) (fun _ => ?_)
        · refine V.aload_n (pc := 62) C dX12_readLine_62 0 rfl ?_
          refine V.bipush (pc := 63) C dX12_readLine_63 (v := 8) (by decide) ?_
          refine V.callV (pc := 65) (st := []) C (c_X12_eats l 8 m_10) obI ck_X12_eats ml_RX12_150 rfl rfl sM0 kM0 rfl rfl (Nat.le_of_ble_eq_true rfl) ⟨by decide, by decide⟩ dX12_readLine_65 (fun r_11 m_12 _ => ?_)
          refine V.if_eq (pc := 68) C dX12_readLine_68 88 (by decide) (fun _ => ?_) (fun _ => ?_)
          · refine V.aload_n (pc := 88) C dX12_readLine_88 0 rfl ?_
            refine V.bipush (pc := 89) C dX12_readLine_89 (v := 9) (by decide) ?_
            refine V.callV (pc := 91) (st := []) C (c_X12_eats l 9 m_12) obI ck_X12_eats ml_RX12_150 rfl rfl sM0 kM0 rfl rfl (Nat.le_of_ble_eq_true rfl) ⟨by decide, by decide⟩ dX12_readLine_91 (fun r_13 m_14 _ => ?_)
            refine V.if_eq (pc := 94) C dX12_readLine_94 113 (by decide) (fun _ => ?_) (fun _ => ?_)
            · refine V.aload_n (pc := 113) C dX12_readLine_113 0 rfl ?_
              refine V.iconst (pc := 114) C dX12_readLine_114 (v := 2) (by decide) ?_
              refine V.callV (pc := 115) (st := []) C (c_X12_fails l 2 m_14) obV ck_X12_fails ml_RX12_129 rfl rfl sM0 kM0 rfl rfl (Nat.le_of_ble_eq_true rfl) ⟨by decide, by decide⟩ dX12_readLine_115 (fun r_15 m_16 _ => ?_)
              exact V.vret C dX12_readLine_118
            · refine V.aload_n (pc := 97) C dX12_readLine_97 0 rfl ?_
              refine V.getr (pc := 98) C fl_RX12_24 sM0 kM0 rfl rM0_4 dX12_readLine_98 ?_
              refine V.iconst (pc := 101) C dX12_readLine_101 (v := 4) (by decide) ?_
              refine V.aload_n (pc := 102) C dX12_readLine_102 0 rfl ?_
              refine V.iconst (pc := 103) C dX12_readLine_103 (v := 1) (by decide) ?_
              refine V.bipush (pc := 104) C dX12_readLine_104 (v := 14) (by decide) ?_
              refine V.callV (pc := 106) (st := [.int 4, .ref 4]) C (c_X12_takesOne l 1 14 m_14) obI ck_X12_takesOne ml_RX12_168 rfl rfl sM0 kM0 rfl rfl (Nat.le_of_ble_eq_true rfl) ⟨by decide, by decide⟩ dX12_readLine_106 (fun r_17 m_18 _ => ?_)
              refine V.iast (pc := 109) C sM4 kM4 dX12_readLine_109 (fun _ => ?_)
              refine V.ltm (fun m_19 => ?_)
              refine V.goto (pc := 110) C dX12_readLine_110 118 (by decide) ?_
              exact V.vret C dX12_readLine_118
          · refine V.aload_n (pc := 71) C dX12_readLine_71 0 rfl ?_
            refine V.getr (pc := 72) C fl_RX12_24 sM0 kM0 rfl rM0_4 dX12_readLine_72 ?_
            refine V.iconst (pc := 75) C dX12_readLine_75 (v := 3) (by decide) ?_
            refine V.aload_n (pc := 76) C dX12_readLine_76 0 rfl ?_
            refine V.iconst (pc := 77) C dX12_readLine_77 (v := 0) (by decide) ?_
            refine V.sipush (pc := 78) C dX12_readLine_78 (v := 999) (by decide) ?_
            refine V.callV (pc := 81) (st := [.int 3, .ref 4]) C (c_X12_takesOne l 0 999 m_12) obI ck_X12_takesOne ml_RX12_168 rfl rfl sM0 kM0 rfl rfl (Nat.le_of_ble_eq_true rfl) ⟨by decide, by decide⟩ dX12_readLine_81 (fun r_20 m_21 _ => ?_)
            refine V.iast (pc := 84) C sM4 kM4 dX12_readLine_84 (fun _ => ?_)
            refine V.ltm (fun m_22 => ?_)
            refine V.goto (pc := 85) C dX12_readLine_85 118 (by decide) ?_
            exact V.vret C dX12_readLine_118
        · refine V.wk [0] rfl ?_
          exact v_X12_readLine_b48 C   m_10
    · refine V.aload_n (pc := 23) C dX12_readLine_23 0 rfl ?_
      refine V.callV (pc := 24) (st := []) C (c_X12_readPerson l  m_4) obV ck_X12_readPerson ml_RX12_182 rfl rfl sM0 kM0 rfl rfl (Nat.le_of_ble_eq_true rfl) ⟨by decide, by decide⟩ dX12_readLine_24 (fun r_23 m_24 _ => ?_)
      refine V.goto (pc := 27) C dX12_readLine_27 118 (by decide) ?_
      exact V.vret C dX12_readLine_118
  · refine V.aload_n (pc := 8) C dX12_readLine_8 0 rfl ?_
    refine V.callV (pc := 9) (st := []) C (c_X12_readThing l  m_2) obV ck_X12_readThing ml_RX12_179 rfl rfl sM0 kM0 rfl rfl (Nat.le_of_ble_eq_true rfl) ⟨by decide, by decide⟩ dX12_readLine_9 (fun r_25 m_26 _ => ?_)
    refine V.goto (pc := 12) C dX12_readLine_12 118 (by decide) ?_
    exact V.vret C dX12_readLine_118
theorem c_X12_readLine (l : Launch)   (m : Mem) : Ct l yX12_readLine cX12_readLine 1 none 74 SM oV 17 17 RM RM [.ref 0] m (X12_readLine   m) :=
  Ct.of (own := RX12) (nm := "readLine") (by decide) rfl rfl (Nat.le_of_ble_eq_true rfl) (fun _ _ _ _ _ _ _ _ _ _ _ C => v_X12_readLine C   m)
theorem dX12_bureau_0 : decode cX12_bureau 0 = .ok (.aload_n 0, 1) := by decide +kernel
theorem dX12_bureau_1 : decode cX12_bureau 1 = .ok (.iconst 0, 1) := by decide +kernel
theorem dX12_bureau_2 : decode cX12_bureau 2 = .ok (.putfield 1, 3) := by decide +kernel
theorem dX12_bureau_5 : decode cX12_bureau 5 = .ok (.iload_n 1, 1) := by decide +kernel
theorem dX12_bureau_6 : decode cX12_bureau 6 = .ok (.i2l, 1) := by decide +kernel
theorem dX12_bureau_7 : decode cX12_bureau 7 = .ok (.lconst 0, 1) := by decide +kernel
theorem dX12_bureau_8 : decode cX12_bureau 8 = .ok (.aload_n 0, 1) := by decide +kernel
theorem dX12_bureau_9 : decode cX12_bureau 9 = .ok (.getfield 71, 3) := by decide +kernel
theorem dX12_bureau_12 : decode cX12_bureau 12 = .ok (.i2l, 1) := by decide +kernel
theorem dX12_bureau_13 : decode cX12_bureau 13 = .ok (.invokestatic 133, 3) := by decide +kernel
theorem dX12_bureau_16 : decode cX12_bureau 16 = .ok (.ifCond .ne 6, 3) := by decide +kernel
theorem dX12_bureau_19 : decode cX12_bureau 19 = .ok (.bipush (-3), 2) := by decide +kernel
theorem dX12_bureau_21 : decode cX12_bureau 21 = .ok (.ireturn, 1) := by decide +kernel
theorem dX12_bureau_22 : decode cX12_bureau 22 = .ok (.aload_n 0, 1) := by decide +kernel
theorem dX12_bureau_23 : decode cX12_bureau 23 = .ok (.iload_n 1, 1) := by decide +kernel
theorem dX12_bureau_24 : decode cX12_bureau 24 = .ok (.putfield 74, 3) := by decide +kernel
theorem dX12_bureau_27 : decode cX12_bureau 27 = .ok (.aload_n 0, 1) := by decide +kernel
theorem dX12_bureau_28 : decode cX12_bureau 28 = .ok (.iconst 0, 1) := by decide +kernel
theorem dX12_bureau_29 : decode cX12_bureau 29 = .ok (.putfield 71, 3) := by decide +kernel
theorem dX12_bureau_32 : decode cX12_bureau 32 = .ok (.aload_n 0, 1) := by decide +kernel
theorem dX12_bureau_33 : decode cX12_bureau 33 = .ok (.iconst 0, 1) := by decide +kernel
theorem dX12_bureau_34 : decode cX12_bureau 34 = .ok (.putfield 92, 3) := by decide +kernel
theorem dX12_bureau_37 : decode cX12_bureau 37 = .ok (.aload_n 0, 1) := by decide +kernel
theorem dX12_bureau_38 : decode cX12_bureau 38 = .ok (.iconst 0, 1) := by decide +kernel
theorem dX12_bureau_39 : decode cX12_bureau 39 = .ok (.putfield 117, 3) := by decide +kernel
theorem dX12_bureau_42 : decode cX12_bureau 42 = .ok (.aload_n 0, 1) := by decide +kernel
theorem dX12_bureau_43 : decode cX12_bureau 43 = .ok (.getfield 24, 3) := by decide +kernel
theorem dX12_bureau_46 : decode cX12_bureau 46 = .ok (.invokestatic 67, 3) := by decide +kernel
theorem dX12_bureau_49 : decode cX12_bureau 49 = .ok (.aload_n 0, 1) := by decide +kernel
theorem dX12_bureau_50 : decode cX12_bureau 50 = .ok (.invokevirtual 126, 3) := by decide +kernel
theorem dX12_bureau_53 : decode cX12_bureau 53 = .ok (.aload_n 0, 1) := by decide +kernel
theorem dX12_bureau_54 : decode cX12_bureau 54 = .ok (.getfield 117, 3) := by decide +kernel
theorem dX12_bureau_57 : decode cX12_bureau 57 = .ok (.ifCond .ne 43, 3) := by decide +kernel
theorem dX12_bureau_60 : decode cX12_bureau 60 = .ok (.aload_n 0, 1) := by decide +kernel
theorem dX12_bureau_61 : decode cX12_bureau 61 = .ok (.getfield 99, 3) := by decide +kernel
theorem dX12_bureau_64 : decode cX12_bureau 64 = .ok (.bipush 24, 2) := by decide +kernel
theorem dX12_bureau_66 : decode cX12_bureau 66 = .ok (.if_icmp .eq 34, 3) := by decide +kernel
theorem dX12_bureau_69 : decode cX12_bureau 69 = .ok (.aload_n 0, 1) := by decide +kernel
theorem dX12_bureau_70 : decode cX12_bureau 70 = .ok (.invokevirtual 188, 3) := by decide +kernel
theorem dX12_bureau_73 : decode cX12_bureau 73 = .ok (.aload_n 0, 1) := by decide +kernel
theorem dX12_bureau_74 : decode cX12_bureau 74 = .ok (.bipush 30, 2) := by decide +kernel
theorem dX12_bureau_76 : decode cX12_bureau 76 = .ok (.invokevirtual 150, 3) := by decide +kernel
theorem dX12_bureau_79 : decode cX12_bureau 79 = .ok (.ifCond .ne 8, 3) := by decide +kernel
theorem dX12_bureau_82 : decode cX12_bureau 82 = .ok (.aload_n 0, 1) := by decide +kernel
theorem dX12_bureau_83 : decode cX12_bureau 83 = .ok (.iconst 2, 1) := by decide +kernel
theorem dX12_bureau_84 : decode cX12_bureau 84 = .ok (.invokevirtual 129, 3) := by decide +kernel
theorem dX12_bureau_87 : decode cX12_bureau 87 = .ok (.aload_n 0, 1) := by decide +kernel
theorem dX12_bureau_88 : decode cX12_bureau 88 = .ok (.getfield 24, 3) := by decide +kernel
theorem dX12_bureau_91 : decode cX12_bureau 91 = .ok (.iconst 0, 1) := by decide +kernel
theorem dX12_bureau_92 : decode cX12_bureau 92 = .ok (.dup2, 1) := by decide +kernel
theorem dX12_bureau_93 : decode cX12_bureau 93 = .ok (.iaload, 1) := by decide +kernel
theorem dX12_bureau_94 : decode cX12_bureau 94 = .ok (.iconst 1, 1) := by decide +kernel
theorem dX12_bureau_95 : decode cX12_bureau 95 = .ok (.iadd, 1) := by decide +kernel
theorem dX12_bureau_96 : decode cX12_bureau 96 = .ok (.iastore, 1) := by decide +kernel
theorem dX12_bureau_97 : decode cX12_bureau 97 = .ok (.goto (-44), 3) := by decide +kernel
theorem dX12_bureau_100 : decode cX12_bureau 100 = .ok (.aload_n 0, 1) := by decide +kernel
theorem dX12_bureau_101 : decode cX12_bureau 101 = .ok (.aload_n 0, 1) := by decide +kernel
theorem dX12_bureau_102 : decode cX12_bureau 102 = .ok (.getfield 117, 3) := by decide +kernel
theorem dX12_bureau_105 : decode cX12_bureau 105 = .ok (.putfield 191, 3) := by decide +kernel
theorem dX12_bureau_108 : decode cX12_bureau 108 = .ok (.aload_n 0, 1) := by decide +kernel
theorem dX12_bureau_109 : decode cX12_bureau 109 = .ok (.aload_n 0, 1) := by decide +kernel
theorem dX12_bureau_110 : decode cX12_bureau 110 = .ok (.getfield 117, 3) := by decide +kernel
theorem dX12_bureau_113 : decode cX12_bureau 113 = .ok (.ifCond .ne 7, 3) := by decide +kernel
theorem dX12_bureau_116 : decode cX12_bureau 116 = .ok (.iconst (-1), 1) := by decide +kernel
theorem dX12_bureau_117 : decode cX12_bureau 117 = .ok (.goto 7, 3) := by decide +kernel
theorem dX12_bureau_120 : decode cX12_bureau 120 = .ok (.aload_n 0, 1) := by decide +kernel
theorem dX12_bureau_121 : decode cX12_bureau 121 = .ok (.getfield 120, 3) := by decide +kernel
theorem dX12_bureau_124 : decode cX12_bureau 124 = .ok (.putfield 27, 3) := by decide +kernel
theorem dX12_bureau_127 : decode cX12_bureau 127 = .ok (.aload_n 0, 1) := by decide +kernel
theorem dX12_bureau_128 : decode cX12_bureau 128 = .ok (.getfield 117, 3) := by decide +kernel
theorem dX12_bureau_131 : decode cX12_bureau 131 = .ok (.ifCond .eq 11, 3) := by decide +kernel
theorem dX12_bureau_134 : decode cX12_bureau 134 = .ok (.bipush (-30), 2) := by decide +kernel
theorem dX12_bureau_136 : decode cX12_bureau 136 = .ok (.aload_n 0, 1) := by decide +kernel
theorem dX12_bureau_137 : decode cX12_bureau 137 = .ok (.getfield 117, 3) := by decide +kernel
theorem dX12_bureau_140 : decode cX12_bureau 140 = .ok (.isub, 1) := by decide +kernel
theorem dX12_bureau_141 : decode cX12_bureau 141 = .ok (.ireturn, 1) := by decide +kernel
theorem dX12_bureau_142 : decode cX12_bureau 142 = .ok (.iconst 0, 1) := by decide +kernel
theorem dX12_bureau_143 : decode cX12_bureau 143 = .ok (.istore_n 2, 1) := by decide +kernel
theorem dX12_bureau_144 : decode cX12_bureau 144 = .ok (.iload_n 2, 1) := by decide +kernel
theorem dX12_bureau_145 : decode cX12_bureau 145 = .ok (.sipush 2096, 3) := by decide +kernel
theorem dX12_bureau_148 : decode cX12_bureau 148 = .ok (.if_icmp .ge 21, 3) := by decide +kernel
theorem dX12_bureau_151 : decode cX12_bureau 151 = .ok (.aload_n 0, 1) := by decide +kernel
theorem dX12_bureau_152 : decode cX12_bureau 152 = .ok (.getfield 13, 3) := by decide +kernel
theorem dX12_bureau_155 : decode cX12_bureau 155 = .ok (.iload_n 2, 1) := by decide +kernel
theorem dX12_bureau_156 : decode cX12_bureau 156 = .ok (.aload_n 0, 1) := by decide +kernel
theorem dX12_bureau_157 : decode cX12_bureau 157 = .ok (.getfield 24, 3) := by decide +kernel
theorem dX12_bureau_160 : decode cX12_bureau 160 = .ok (.iload_n 2, 1) := by decide +kernel
theorem dX12_bureau_161 : decode cX12_bureau 161 = .ok (.iaload, 1) := by decide +kernel
theorem dX12_bureau_162 : decode cX12_bureau 162 = .ok (.iastore, 1) := by decide +kernel
theorem dX12_bureau_163 : decode cX12_bureau 163 = .ok (.iinc 2 1, 3) := by decide +kernel
theorem dX12_bureau_166 : decode cX12_bureau 166 = .ok (.goto (-22), 3) := by decide +kernel
theorem dX12_bureau_169 : decode cX12_bureau 169 = .ok (.aload_n 0, 1) := by decide +kernel
theorem dX12_bureau_170 : decode cX12_bureau 170 = .ok (.getfield 13, 3) := by decide +kernel
theorem dX12_bureau_173 : decode cX12_bureau 173 = .ok (.iconst 0, 1) := by decide +kernel
theorem dX12_bureau_174 : decode cX12_bureau 174 = .ok (.iaload, 1) := by decide +kernel
theorem dX12_bureau_175 : decode cX12_bureau 175 = .ok (.ireturn, 1) := by decide +kernel
set_option maxRecDepth 100000 in
set_option maxHeartbeats 4000000 in
theorem v_X12_bureau_b144 {l : Launch} {p : Program} {e : Env} {s : State} {mt : MethodId} {args : Array Value} {below : List Frame} {meth : Method} {c : Code} {A : Nat → Prop} {ad0 : Nat → Nat} {G : Gt}  (C : Cx G p s mt args meth c RX12 cX12_bureau 3 (some .int) "bureau" A)  : ∀ (n : Nat) (y2 : Int32) (m : Mem), V G SM oI l p e s mt args below meth c 3 75 A ad0 17 17 RM 17 RM 144 [(0, .ref 0), (2, .int y2)] [] m (X12_bureau_b144  n y2 m) := by
  intro n
  induction n with
  | zero =>
    intro y2 m
    rw [X12_bureau_b144]
    exact V.nil
  | succ n ih =>
    intro y2 m
    rw [X12_bureau_b144]
    refine V.iload_n (pc := 144) C dX12_bureau_144 1 rfl ?_
    refine V.sipush (pc := 145) C dX12_bureau_145 (v := 2096) (by decide) ?_
    refine V.icmp_ge (pc := 148) C dX12_bureau_148 169 (by decide) (fun _ => ?_) (fun _ => ?_)
    · refine V.aload_n (pc := 169) C dX12_bureau_169 0 rfl ?_
      refine V.getr (pc := 170) C fl_RX12_13 sM0 kM0 rfl rM0_1 dX12_bureau_170 ?_
      refine V.iconst (pc := 173) C dX12_bureau_173 (v := 0) (by decide) ?_
      refine V.iald (pc := 174) C sM1 kM1 dX12_bureau_174 (fun _ => ?_)
      exact V.iret C dX12_bureau_175
    · refine V.aload_n (pc := 151) C dX12_bureau_151 0 rfl ?_
      refine V.getr (pc := 152) C fl_RX12_13 sM0 kM0 rfl rM0_1 dX12_bureau_152 ?_
      refine V.iload_n (pc := 155) C dX12_bureau_155 1 rfl ?_
      refine V.aload_n (pc := 156) C dX12_bureau_156 0 rfl ?_
      refine V.getr (pc := 157) C fl_RX12_24 sM0 kM0 rfl rM0_4 dX12_bureau_157 ?_
      refine V.iload_n (pc := 160) C dX12_bureau_160 1 rfl ?_
      refine V.iald (pc := 161) C sM4 kM4 dX12_bureau_161 (fun _ => ?_)
      refine V.iast (pc := 162) C sM1 kM1 dX12_bureau_162 (fun _ => ?_)
      refine V.ltm (fun m_14 => ?_)
      refine V.iinc (pc := 163) C dX12_bureau_163 (v := 1) (L2 := [(2, .int (y2 + 1)), (0, .ref 0)]) 1 rfl (by decide) (by decide) rfl ?_
      refine V.goto (pc := 166) C dX12_bureau_166 144 (by decide) ?_
      refine V.wk [1, 0] rfl ?_
      exact ih (y2 + 1) m_14
set_option maxRecDepth 100000 in
set_option maxHeartbeats 4000000 in
theorem v_X12_bureau_b124 {l : Launch} {p : Program} {e : Env} {s : State} {mt : MethodId} {args : Array Value} {below : List Frame} {meth : Method} {c : Code} {A : Nat → Prop} {ad0 : Nat → Nat} {G : Gt}  (C : Cx G p s mt args meth c RX12 cX12_bureau 3 (some .int) "bureau" A)  (z0 : Int32) (m : Mem) : V G SM oI l p e s mt args below meth c 3 75 A ad0 17 17 RM 17 RM 124 [(0, .ref 0)] [.int z0, .ref 0] m (X12_bureau_b124  z0 m) := by
  rw [X12_bureau_b124]
  refine V.puti (pc := 124) C fp_RX12_27 sM0 kM0 rfl dX12_bureau_124 ?_
  refine V.ltm (fun m_13 => ?_)
  refine V.aload_n (pc := 127) C dX12_bureau_127 0 rfl ?_
  refine V.geti (pc := 128) C fl_RX12_117 sM0 kM0 rfl dX12_bureau_128 ?_
  refine V.if_eq (pc := 131) C dX12_bureau_131 142 (by decide) (fun _ => ?_) (fun _ => ?_)
  · refine V.iconst (pc := 142) C dX12_bureau_142 (v := 0) (by decide) ?_
    refine V.istore_n (pc := 143) C dX12_bureau_143 (L2 := [(2, .int 0), (0, .ref 0)]) (by decide) rfl ?_
    refine V.wk [1, 0] rfl ?_
    exact v_X12_bureau_b144 C  FU 0 m_13
  · refine V.bipush (pc := 134) C dX12_bureau_134 (v := (-30)) (by decide) ?_
    refine V.aload_n (pc := 136) C dX12_bureau_136 0 rfl ?_
    refine V.geti (pc := 137) C fl_RX12_117 sM0 kM0 rfl dX12_bureau_137 ?_
    refine V.isub (pc := 140) C dX12_bureau_140 ?_
    exact V.iret C dX12_bureau_141
set_option maxRecDepth 100000 in
set_option maxHeartbeats 4000000 in
theorem v_X12_bureau_b100 {l : Launch} {p : Program} {e : Env} {s : State} {mt : MethodId} {args : Array Value} {below : List Frame} {meth : Method} {c : Code} {A : Nat → Prop} {ad0 : Nat → Nat} {G : Gt}  (C : Cx G p s mt args meth c RX12 cX12_bureau 3 (some .int) "bureau" A)  (m : Mem) : V G SM oI l p e s mt args below meth c 3 75 A ad0 17 17 RM 17 RM 100 [(0, .ref 0)] [] m (X12_bureau_b100   m) := by
  rw [X12_bureau_b100]
  refine V.aload_n (pc := 100) C dX12_bureau_100 0 rfl ?_
  refine V.aload_n (pc := 101) C dX12_bureau_101 0 rfl ?_
  refine V.geti (pc := 102) C fl_RX12_117 sM0 kM0 rfl dX12_bureau_102 ?_
  refine V.puti (pc := 105) C fp_RX12_191 sM0 kM0 rfl dX12_bureau_105 ?_
  refine V.ltm (fun m_12 => ?_)
  refine V.aload_n (pc := 108) C dX12_bureau_108 0 rfl ?_
  refine V.aload_n (pc := 109) C dX12_bureau_109 0 rfl ?_
  refine V.geti (pc := 110) C fl_RX12_117 sM0 kM0 rfl dX12_bureau_110 ?_
  refine V.if_ne (pc := 113) C dX12_bureau_113 120 (by decide) (fun _ => ?_) (fun _ => ?_)
  · refine V.aload_n (pc := 120) C dX12_bureau_120 0 rfl ?_
    refine V.geti (pc := 121) C fl_RX12_120 sM0 kM0 rfl dX12_bureau_121 ?_
    refine V.wk [0] rfl ?_
    exact v_X12_bureau_b124 C  (gi m_12 0 12) m_12
  · refine V.iconst (pc := 116) C dX12_bureau_116 (v := (-1)) (by decide) ?_
    refine V.goto (pc := 117) C dX12_bureau_117 124 (by decide) ?_
    refine V.wk [0] rfl ?_
    exact v_X12_bureau_b124 C  (-1) m_12
set_option maxRecDepth 100000 in
set_option maxHeartbeats 4000000 in
theorem v_X12_bureau_b87 {l : Launch} {p : Program} {e : Env} {s : State} {mt : MethodId} {args : Array Value} {below : List Frame} {meth : Method} {c : Code} {A : Nat → Prop} {ad0 : Nat → Nat} {G : Gt}  (C : Cx G p s mt args meth c RX12 cX12_bureau 3 (some .int) "bureau" A) (k53 : Mem → Option (Int32 × Mem)) (h53 : ∀ (m : Mem), V G SM oI l p e s mt args below meth c 3 75 A ad0 17 17 RM 17 RM 53 [(0, .ref 0)] [] m (k53  m)) (m : Mem) : V G SM oI l p e s mt args below meth c 3 75 A ad0 17 17 RM 17 RM 87 [(0, .ref 0)] [] m (X12_bureau_b87 k53  m) := by
  rw [X12_bureau_b87]
  refine V.aload_n (pc := 87) C dX12_bureau_87 0 rfl ?_
  refine V.getr (pc := 88) C fl_RX12_24 sM0 kM0 rfl rM0_4 dX12_bureau_88 ?_
  refine V.iconst (pc := 91) C dX12_bureau_91 (v := 0) (by decide) ?_
  refine V.dup2 (pc := 92) C dX12_bureau_92 rfl rfl ?_
  refine V.iald (pc := 93) C sM4 kM4 dX12_bureau_93 (fun _ => ?_)
  refine V.iconst (pc := 94) C dX12_bureau_94 (v := 1) (by decide) ?_
  refine V.iadd (pc := 95) C dX12_bureau_95 ?_
  refine V.iast (pc := 96) C sM4 kM4 dX12_bureau_96 (fun _ => ?_)
  refine V.ltm (fun m_19 => ?_)
  refine V.goto (pc := 97) C dX12_bureau_97 53 (by decide) ?_
  refine V.wk [0] rfl ?_
  exact h53  m_19
set_option maxRecDepth 100000 in
set_option maxHeartbeats 4000000 in
theorem v_X12_bureau_b53 {l : Launch} {p : Program} {e : Env} {s : State} {mt : MethodId} {args : Array Value} {below : List Frame} {meth : Method} {c : Code} {A : Nat → Prop} {ad0 : Nat → Nat} {G : Gt}  (C : Cx G p s mt args meth c RX12 cX12_bureau 3 (some .int) "bureau" A)  : ∀ (n : Nat) (m : Mem), V G SM oI l p e s mt args below meth c 3 75 A ad0 17 17 RM 17 RM 53 [(0, .ref 0)] [] m (X12_bureau_b53  n  m) := by
  intro n
  induction n with
  | zero =>
    intro  m
    rw [X12_bureau_b53]
    exact V.nil
  | succ n ih =>
    intro  m
    rw [X12_bureau_b53]
    refine V.aload_n (pc := 53) C dX12_bureau_53 0 rfl ?_
    refine V.geti (pc := 54) C fl_RX12_117 sM0 kM0 rfl dX12_bureau_54 ?_
    refine V.if_ne (pc := 57) C dX12_bureau_57 100 (by decide) (fun _ => ?_) (fun _ => ?_)
    · refine V.wk [0] rfl ?_
      exact v_X12_bureau_b100 C   m
    · refine V.aload_n (pc := 60) C dX12_bureau_60 0 rfl ?_
      refine V.geti (pc := 61) C fl_RX12_99 sM0 kM0 rfl dX12_bureau_61 ?_
      refine V.bipush (pc := 64) C dX12_bureau_64 (v := 24) (by decide) ?_
      refine V.icmp_eq (pc := 66) C dX12_bureau_66 100 (by decide) (fun _ => ?_) (fun _ => ?_)
      · refine V.wk [0] rfl ?_
        exact v_X12_bureau_b100 C   m
      · refine V.aload_n (pc := 69) C dX12_bureau_69 0 rfl ?_
        refine V.callV (pc := 70) (st := []) C (c_X12_readLine l  m) obV ck_X12_readLine ml_RX12_188 rfl rfl sM0 kM0 rfl rfl (Nat.le_of_ble_eq_true rfl) ⟨by decide, by decide⟩ dX12_bureau_70 (fun r_15 m_16 _ => ?_)
        refine V.aload_n (pc := 73) C dX12_bureau_73 0 rfl ?_
        refine V.bipush (pc := 74) C dX12_bureau_74 (v := 30) (by decide) ?_
        refine V.callV (pc := 76) (st := []) C (c_X12_eats l 30 m_16) obI ck_X12_eats ml_RX12_150 rfl rfl sM0 kM0 rfl rfl (Nat.le_of_ble_eq_true rfl) ⟨by decide, by decide⟩ dX12_bureau_76 (fun r_17 m_18 _ => ?_)
        refine V.if_ne (pc := 79) C dX12_bureau_79 87 (by decide) (fun _ => ?_) (fun _ => ?_)
        · refine V.wk [0] rfl ?_
          exact v_X12_bureau_b87 C (X12_bureau_b53 n) ih  m_18
        · refine V.aload_n (pc := 82) C dX12_bureau_82 0 rfl ?_
          refine V.iconst (pc := 83) C dX12_bureau_83 (v := 2) (by decide) ?_
          refine V.callV (pc := 84) (st := []) C (c_X12_fails l 2 m_18) obV ck_X12_fails ml_RX12_129 rfl rfl sM0 kM0 rfl rfl (Nat.le_of_ble_eq_true rfl) ⟨by decide, by decide⟩ dX12_bureau_84 (fun r_20 m_21 _ => ?_)
          refine V.wk [0] rfl ?_
          exact v_X12_bureau_b87 C (X12_bureau_b53 n) ih  m_21
set_option maxRecDepth 100000 in
set_option maxHeartbeats 4000000 in
theorem v_X12_bureau {l : Launch} {p : Program} {e : Env} {s : State} {mt : MethodId} {args : Array Value} {below : List Frame} {meth : Method} {c : Code} {A : Nat → Prop} {ad0 : Nat → Nat} {G : Gt}  (C : Cx G p s mt args meth c RX12 cX12_bureau 3 (some .int) "bureau" A)  (x1 : Int32) (m : Mem) : V G SM oI l p e s mt args below meth c 3 75 A ad0 17 17 RM 17 RM 0 [(0, .ref 0), (1, .int x1)] [] m (X12_bureau  x1 m) := by
  rw [X12_bureau]
  refine V.aload_n (pc := 0) C dX12_bureau_0 0 rfl ?_
  refine V.iconst (pc := 1) C dX12_bureau_1 (v := 0) (by decide) ?_
  refine V.puti (pc := 2) C fp_RX12_1 sM0 kM0 rfl dX12_bureau_2 ?_
  refine V.ltm (fun m_1 => ?_)
  refine V.iload_n (pc := 5) C dX12_bureau_5 1 rfl ?_
  refine V.i2l (pc := 6) C dX12_bureau_6 ?_
  refine V.lconst (pc := 7) C dX12_bureau_7 (v := 0) (by decide) ?_
  refine V.aload_n (pc := 8) C dX12_bureau_8 0 rfl ?_
  refine V.geti (pc := 9) C fl_RX12_71 sM0 kM0 rfl dX12_bureau_9 ?_
  refine V.i2l (pc := 12) C dX12_bureau_12 ?_
  refine V.callS (pc := 13) (st := []) C (c_X12_within l (Int32.toInt64 x1) 0 (Int32.toInt64 (gi m_1 0 5)) m_1) obI ck_X12_within ml_RX12_133 rfl rfl (Nat.le_of_ble_eq_true rfl) ⟨by decide, by decide⟩ dX12_bureau_13 (fun r_2 m_3 _ => ?_)
  refine V.if_ne (pc := 16) C dX12_bureau_16 22 (by decide) (fun _ => ?_) (fun _ => ?_)
  · refine V.aload_n (pc := 22) C dX12_bureau_22 0 rfl ?_
    refine V.iload_n (pc := 23) C dX12_bureau_23 1 rfl ?_
    refine V.puti (pc := 24) C fp_RX12_74 sM0 kM0 rfl dX12_bureau_24 ?_
    refine V.ltm (fun m_4 => ?_)
    refine V.aload_n (pc := 27) C dX12_bureau_27 0 rfl ?_
    refine V.iconst (pc := 28) C dX12_bureau_28 (v := 0) (by decide) ?_
    refine V.puti (pc := 29) C fp_RX12_71 sM0 kM0 rfl dX12_bureau_29 ?_
    refine V.ltm (fun m_5 => ?_)
    refine V.aload_n (pc := 32) C dX12_bureau_32 0 rfl ?_
    refine V.iconst (pc := 33) C dX12_bureau_33 (v := 0) (by decide) ?_
    refine V.puti (pc := 34) C fp_RX12_92 sM0 kM0 rfl dX12_bureau_34 ?_
    refine V.ltm (fun m_6 => ?_)
    refine V.aload_n (pc := 37) C dX12_bureau_37 0 rfl ?_
    refine V.iconst (pc := 38) C dX12_bureau_38 (v := 0) (by decide) ?_
    refine V.puti (pc := 39) C fp_RX12_117 sM0 kM0 rfl dX12_bureau_39 ?_
    refine V.ltm (fun m_7 => ?_)
    refine V.aload_n (pc := 42) C dX12_bureau_42 0 rfl ?_
    refine V.getr (pc := 43) C fl_RX12_24 sM0 kM0 rfl rM0_4 dX12_bureau_43 ?_
    refine V.callS (pc := 46) (st := []) C (c_X12_plain l 2096 4 sM4 kM4 m_7) obV ck_X12_plain ml_RX12_67 rfl rfl (Nat.le_of_ble_eq_true rfl) ⟨by decide, by decide⟩ dX12_bureau_46 (fun r_8 m_9 _ => ?_)
    refine V.aload_n (pc := 49) C dX12_bureau_49 0 rfl ?_
    refine V.callV (pc := 50) (st := []) C (c_X12_next l  m_9) obV ck_X12_next ml_RX12_126 rfl rfl sM0 kM0 rfl rfl (Nat.le_of_ble_eq_true rfl) ⟨by decide, by decide⟩ dX12_bureau_50 (fun r_10 m_11 _ => ?_)
    refine V.wk [0] rfl ?_
    exact v_X12_bureau_b53 C  FU  m_11
  · refine V.bipush (pc := 19) C dX12_bureau_19 (v := (-3)) (by decide) ?_
    exact V.iret C dX12_bureau_21
theorem c_X12_bureau (l : Launch)   (x1 : Int32) (m : Mem) : Ct l yX12_bureau cX12_bureau 3 (some .int) 75 SM oI 17 17 RM RM [.ref 0, .int x1] m (X12_bureau  x1 m) :=
  Ct.of (own := RX12) (nm := "bureau") (by decide) rfl rfl (Nat.le_of_ble_eq_true rfl) (fun _ _ _ _ _ _ _ _ _ _ _ C => v_X12_bureau C  x1 m)
theorem dX12_isThing_0 : decode cX12_isThing 0 = .ok (.lload_n 1, 1) := by decide +kernel
theorem dX12_isThing_1 : decode cX12_isThing 1 = .ok (.lconst 0, 1) := by decide +kernel
theorem dX12_isThing_2 : decode cX12_isThing 2 = .ok (.aload_n 0, 1) := by decide +kernel
theorem dX12_isThing_3 : decode cX12_isThing 3 = .ok (.getfield 13, 3) := by decide +kernel
theorem dX12_isThing_6 : decode cX12_isThing 6 = .ok (.iconst 1, 1) := by decide +kernel
theorem dX12_isThing_7 : decode cX12_isThing 7 = .ok (.iaload, 1) := by decide +kernel
theorem dX12_isThing_8 : decode cX12_isThing 8 = .ok (.iconst 1, 1) := by decide +kernel
theorem dX12_isThing_9 : decode cX12_isThing 9 = .ok (.isub, 1) := by decide +kernel
theorem dX12_isThing_10 : decode cX12_isThing 10 = .ok (.i2l, 1) := by decide +kernel
theorem dX12_isThing_11 : decode cX12_isThing 11 = .ok (.invokestatic 133, 3) := by decide +kernel
theorem dX12_isThing_14 : decode cX12_isThing 14 = .ok (.ireturn, 1) := by decide +kernel
set_option maxRecDepth 100000 in
set_option maxHeartbeats 4000000 in
theorem v_X12_isThing {l : Launch} {p : Program} {e : Env} {s : State} {mt : MethodId} {args : Array Value} {below : List Frame} {meth : Method} {c : Code} {A : Nat → Prop} {ad0 : Nat → Nat} {G : Gt}  (C : Cx G p s mt args meth c RX12 cX12_isThing 3 (some .boolean) "isThing" A)  (x1 : Int64) (m : Mem) : V G SM oI l p e s mt args below meth c 3 2 A ad0 17 17 RM 17 RM 0 [(0, .ref 0), (1, .long x1)] [] m (X12_isThing  x1 m) := by
  rw [X12_isThing]
  refine V.lload_n (pc := 0) C dX12_isThing_0 1 rfl ?_
  refine V.lconst (pc := 1) C dX12_isThing_1 (v := 0) (by decide) ?_
  refine V.aload_n (pc := 2) C dX12_isThing_2 0 rfl ?_
  refine V.getr (pc := 3) C fl_RX12_13 sM0 kM0 rfl rM0_1 dX12_isThing_3 ?_
  refine V.iconst (pc := 6) C dX12_isThing_6 (v := 1) (by decide) ?_
  refine V.iald (pc := 7) C sM1 kM1 dX12_isThing_7 (fun _ => ?_)
  refine V.iconst (pc := 8) C dX12_isThing_8 (v := 1) (by decide) ?_
  refine V.isub (pc := 9) C dX12_isThing_9 ?_
  refine V.i2l (pc := 10) C dX12_isThing_10 ?_
  refine V.callS (pc := 11) (st := []) C (c_X12_within l x1 0 (Int32.toInt64 ((gi m 1 (ix 1)) - 1)) m) obI ck_X12_within ml_RX12_133 rfl rfl (Nat.le_of_ble_eq_true rfl) ⟨by decide, by decide⟩ dX12_isThing_11 (fun r_1 m_2 _ => ?_)
  exact V.bret C dX12_isThing_14
theorem c_X12_isThing (l : Launch)   (x1 : Int64) (m : Mem) : Ct l yX12_isThing cX12_isThing 3 (some .boolean) 2 SM oI 17 17 RM RM [.ref 0, .long x1] m (X12_isThing  x1 m) :=
  Ct.of (own := RX12) (nm := "isThing") (by decide) rfl rfl (Nat.le_of_ble_eq_true rfl) (fun _ _ _ _ _ _ _ _ _ _ _ C => v_X12_isThing C  x1 m)
theorem dX12_byWhen_0 : decode cX12_byWhen 0 = .ok (.aload_n 0, 1) := by decide +kernel
theorem dX12_byWhen_1 : decode cX12_byWhen 1 = .ok (.iconst 0, 1) := by decide +kernel
theorem dX12_byWhen_2 : decode cX12_byWhen 2 = .ok (.putfield 1, 3) := by decide +kernel
theorem dX12_byWhen_5 : decode cX12_byWhen 5 = .ok (.aload_n 0, 1) := by decide +kernel
theorem dX12_byWhen_6 : decode cX12_byWhen 6 = .ok (.iload_n 1, 1) := by decide +kernel
theorem dX12_byWhen_7 : decode cX12_byWhen 7 = .ok (.i2l, 1) := by decide +kernel
theorem dX12_byWhen_8 : decode cX12_byWhen 8 = .ok (.invokevirtual 194, 3) := by decide +kernel
theorem dX12_byWhen_11 : decode cX12_byWhen 11 = .ok (.ifCond .eq 12, 3) := by decide +kernel
theorem dX12_byWhen_14 : decode cX12_byWhen 14 = .ok (.aload_n 0, 1) := by decide +kernel
theorem dX12_byWhen_15 : decode cX12_byWhen 15 = .ok (.iload_n 2, 1) := by decide +kernel
theorem dX12_byWhen_16 : decode cX12_byWhen 16 = .ok (.i2l, 1) := by decide +kernel
theorem dX12_byWhen_17 : decode cX12_byWhen 17 = .ok (.invokevirtual 210, 3) := by decide +kernel
theorem dX12_byWhen_20 : decode cX12_byWhen 20 = .ok (.ifCond .ne 6, 3) := by decide +kernel
theorem dX12_byWhen_23 : decode cX12_byWhen 23 = .ok (.bipush (-2), 2) := by decide +kernel
theorem dX12_byWhen_25 : decode cX12_byWhen 25 = .ok (.ireturn, 1) := by decide +kernel
theorem dX12_byWhen_26 : decode cX12_byWhen 26 = .ok (.aload_n 0, 1) := by decide +kernel
theorem dX12_byWhen_27 : decode cX12_byWhen 27 = .ok (.invokevirtual 361, 3) := by decide +kernel
theorem dX12_byWhen_30 : decode cX12_byWhen 30 = .ok (.iconst (-1), 1) := by decide +kernel
theorem dX12_byWhen_31 : decode cX12_byWhen 31 = .ok (.istore_n 3, 1) := by decide +kernel
theorem dX12_byWhen_32 : decode cX12_byWhen 32 = .ok (.iconst 0, 1) := by decide +kernel
theorem dX12_byWhen_33 : decode cX12_byWhen 33 = .ok (.istore 4, 2) := by decide +kernel
theorem dX12_byWhen_35 : decode cX12_byWhen 35 = .ok (.iload 4, 2) := by decide +kernel
theorem dX12_byWhen_37 : decode cX12_byWhen 37 = .ok (.bipush 60, 2) := by decide +kernel
theorem dX12_byWhen_39 : decode cX12_byWhen 39 = .ok (.if_icmp .gt 42, 3) := by decide +kernel
theorem dX12_byWhen_42 : decode cX12_byWhen 42 = .ok (.iload_n 3, 1) := by decide +kernel
theorem dX12_byWhen_43 : decode cX12_byWhen 43 = .ok (.iconst (-1), 1) := by decide +kernel
theorem dX12_byWhen_44 : decode cX12_byWhen 44 = .ok (.if_icmp .ne 37, 3) := by decide +kernel
theorem dX12_byWhen_47 : decode cX12_byWhen 47 = .ok (.aload_n 0, 1) := by decide +kernel
theorem dX12_byWhen_48 : decode cX12_byWhen 48 = .ok (.getfield 13, 3) := by decide +kernel
theorem dX12_byWhen_51 : decode cX12_byWhen 51 = .ok (.bipush 41, 2) := by decide +kernel
theorem dX12_byWhen_53 : decode cX12_byWhen 53 = .ok (.bipush 14, 2) := by decide +kernel
theorem dX12_byWhen_55 : decode cX12_byWhen 55 = .ok (.iload_n 1, 1) := by decide +kernel
theorem dX12_byWhen_56 : decode cX12_byWhen 56 = .ok (.imul, 1) := by decide +kernel
theorem dX12_byWhen_57 : decode cX12_byWhen 57 = .ok (.iadd, 1) := by decide +kernel
theorem dX12_byWhen_58 : decode cX12_byWhen 58 = .ok (.iload_n 2, 1) := by decide +kernel
theorem dX12_byWhen_59 : decode cX12_byWhen 59 = .ok (.iadd, 1) := by decide +kernel
theorem dX12_byWhen_60 : decode cX12_byWhen 60 = .ok (.iaload, 1) := by decide +kernel
theorem dX12_byWhen_61 : decode cX12_byWhen 61 = .ok (.iconst (-1), 1) := by decide +kernel
theorem dX12_byWhen_62 : decode cX12_byWhen 62 = .ok (.if_icmp .eq 6, 3) := by decide +kernel
theorem dX12_byWhen_65 : decode cX12_byWhen 65 = .ok (.iload 4, 2) := by decide +kernel
theorem dX12_byWhen_67 : decode cX12_byWhen 67 = .ok (.istore_n 3, 1) := by decide +kernel
theorem dX12_byWhen_68 : decode cX12_byWhen 68 = .ok (.aload_n 0, 1) := by decide +kernel
theorem dX12_byWhen_69 : decode cX12_byWhen 69 = .ok (.iconst (-1), 1) := by decide +kernel
theorem dX12_byWhen_70 : decode cX12_byWhen 70 = .ok (.iconst (-1), 1) := by decide +kernel
theorem dX12_byWhen_71 : decode cX12_byWhen 71 = .ok (.invokevirtual 255, 3) := by decide +kernel
theorem dX12_byWhen_74 : decode cX12_byWhen 74 = .ok (.pop, 1) := by decide +kernel
theorem dX12_byWhen_75 : decode cX12_byWhen 75 = .ok (.iinc 4 1, 3) := by decide +kernel
theorem dX12_byWhen_78 : decode cX12_byWhen 78 = .ok (.goto (-43), 3) := by decide +kernel
theorem dX12_byWhen_81 : decode cX12_byWhen 81 = .ok (.aload_n 0, 1) := by decide +kernel
theorem dX12_byWhen_82 : decode cX12_byWhen 82 = .ok (.invokevirtual 364, 3) := by decide +kernel
theorem dX12_byWhen_85 : decode cX12_byWhen 85 = .ok (.iload_n 3, 1) := by decide +kernel
theorem dX12_byWhen_86 : decode cX12_byWhen 86 = .ok (.ireturn, 1) := by decide +kernel
set_option maxRecDepth 100000 in
set_option maxHeartbeats 4000000 in
theorem v_X12_byWhen_b68 {l : Launch} {p : Program} {e : Env} {s : State} {mt : MethodId} {args : Array Value} {below : List Frame} {meth : Method} {c : Code} {A : Nat → Prop} {ad0 : Nat → Nat} {G : Gt}  (C : Cx G p s mt args meth c RX12 cX12_byWhen 5 (some .int) "byWhen" A) (k35 : Int32 → Int32 → Int32 → Int32 → Mem → Option (Int32 × Mem)) (h35 : ∀ (y1 : Int32) (y2 : Int32) (y3 : Int32) (y4 : Int32) (m : Mem), V G SM oI l p e s mt args below meth c 5 4 A ad0 17 17 RM 17 RM 35 [(0, .ref 0), (1, .int y1), (2, .int y2), (3, .int y3), (4, .int y4)] [] m (k35 y1 y2 y3 y4 m)) (y1 : Int32) (y2 : Int32) (y3 : Int32) (y4 : Int32) (m : Mem) : V G SM oI l p e s mt args below meth c 5 4 A ad0 17 17 RM 17 RM 68 [(0, .ref 0), (1, .int y1), (2, .int y2), (3, .int y3), (4, .int y4)] [] m (X12_byWhen_b68 k35 y1 y2 y3 y4 m) := by
  rw [X12_byWhen_b68]
  refine V.aload_n (pc := 68) C dX12_byWhen_68 0 rfl ?_
  refine V.iconst (pc := 69) C dX12_byWhen_69 (v := (-1)) (by decide) ?_
  refine V.iconst (pc := 70) C dX12_byWhen_70 (v := (-1)) (by decide) ?_
  refine V.callV (pc := 71) (st := []) C (c_X12_year l (-1) (-1) m) obI ck_X12_year ml_RX12_255 rfl rfl sM0 kM0 rfl rfl (Nat.le_of_ble_eq_true rfl) ⟨by decide, by decide⟩ dX12_byWhen_71 (fun r_12 m_13 _ => ?_)
  refine V.pop (pc := 74) C dX12_byWhen_74 rfl ?_
  refine V.iinc (pc := 75) C dX12_byWhen_75 (v := 1) (L2 := [(4, .int (y4 + 1)), (0, .ref 0), (1, .int y1), (2, .int y2), (3, .int y3)]) 4 rfl (by decide) (by decide) rfl ?_
  refine V.goto (pc := 78) C dX12_byWhen_78 35 (by decide) ?_
  refine V.wk [1, 2, 3, 4, 0] rfl ?_
  exact h35 y1 y2 y3 (y4 + 1) m_13
set_option maxRecDepth 100000 in
set_option maxHeartbeats 4000000 in
theorem v_X12_byWhen_b35 {l : Launch} {p : Program} {e : Env} {s : State} {mt : MethodId} {args : Array Value} {below : List Frame} {meth : Method} {c : Code} {A : Nat → Prop} {ad0 : Nat → Nat} {G : Gt}  (C : Cx G p s mt args meth c RX12 cX12_byWhen 5 (some .int) "byWhen" A)  : ∀ (n : Nat) (y1 : Int32) (y2 : Int32) (y3 : Int32) (y4 : Int32) (m : Mem), V G SM oI l p e s mt args below meth c 5 4 A ad0 17 17 RM 17 RM 35 [(0, .ref 0), (1, .int y1), (2, .int y2), (3, .int y3), (4, .int y4)] [] m (X12_byWhen_b35  n y1 y2 y3 y4 m) := by
  intro n
  induction n with
  | zero =>
    intro y1 y2 y3 y4 m
    rw [X12_byWhen_b35]
    exact V.nil
  | succ n ih =>
    intro y1 y2 y3 y4 m
    rw [X12_byWhen_b35]
    refine V.iload (pc := 35) C dX12_byWhen_35 4 rfl ?_
    refine V.bipush (pc := 37) C dX12_byWhen_37 (v := 60) (by decide) ?_
    refine V.icmp_gt (pc := 39) C dX12_byWhen_39 81 (by decide) (fun _ => ?_) (fun _ => ?_)
    · refine V.aload_n (pc := 81) C dX12_byWhen_81 0 rfl ?_
      refine V.callV (pc := 82) (st := []) C (c_X12_isAhead l  m) obV ck_X12_isAhead ml_RX12_364 rfl rfl sM0 kM0 rfl rfl (Nat.le_of_ble_eq_true rfl) ⟨by decide, by decide⟩ dX12_byWhen_82 (fun r_8 m_9 _ => ?_)
      refine V.iload_n (pc := 85) C dX12_byWhen_85 3 rfl ?_
      exact V.iret C dX12_byWhen_86
    · refine V.iload_n (pc := 42) C dX12_byWhen_42 3 rfl ?_
      refine V.iconst (pc := 43) C dX12_byWhen_43 (v := (-1)) (by decide) ?_
      refine V.icmp_ne (pc := 44) C dX12_byWhen_44 81 (by decide) (fun _ => ?_) (fun _ => ?_)
      · refine V.aload_n (pc := 81) C dX12_byWhen_81 0 rfl ?_
        refine V.callV (pc := 82) (st := []) C (c_X12_isAhead l  m) obV ck_X12_isAhead ml_RX12_364 rfl rfl sM0 kM0 rfl rfl (Nat.le_of_ble_eq_true rfl) ⟨by decide, by decide⟩ dX12_byWhen_82 (fun r_10 m_11 _ => ?_)
        refine V.iload_n (pc := 85) C dX12_byWhen_85 3 rfl ?_
        exact V.iret C dX12_byWhen_86
      · refine V.aload_n (pc := 47) C dX12_byWhen_47 0 rfl ?_
        refine V.getr (pc := 48) C fl_RX12_13 sM0 kM0 rfl rM0_1 dX12_byWhen_48 ?_
        refine V.bipush (pc := 51) C dX12_byWhen_51 (v := 41) (by decide) ?_
        refine V.bipush (pc := 53) C dX12_byWhen_53 (v := 14) (by decide) ?_
        refine V.iload_n (pc := 55) C dX12_byWhen_55 1 rfl ?_
        refine V.imul (pc := 56) C dX12_byWhen_56 ?_
        refine V.iadd (pc := 57) C dX12_byWhen_57 ?_
        refine V.iload_n (pc := 58) C dX12_byWhen_58 2 rfl ?_
        refine V.iadd (pc := 59) C dX12_byWhen_59 ?_
        refine V.iald (pc := 60) C sM1 kM1 dX12_byWhen_60 (fun _ => ?_)
        refine V.iconst (pc := 61) C dX12_byWhen_61 (v := (-1)) (by decide) ?_
        refine V.icmp_eq (pc := 62) C dX12_byWhen_62 68 (by decide) (fun _ => ?_) (fun _ => ?_)
        · refine V.wk [0, 1, 2, 3, 4] rfl ?_
          exact v_X12_byWhen_b68 C (X12_byWhen_b35 n) ih y1 y2 y3 y4 m
        · refine V.iload (pc := 65) C dX12_byWhen_65 4 rfl ?_
          refine V.istore_n (pc := 67) C dX12_byWhen_67 (L2 := [(3, .int y4), (0, .ref 0), (1, .int y1), (2, .int y2), (4, .int y4)]) (by decide) rfl ?_
          refine V.wk [1, 2, 3, 0, 4] rfl ?_
          exact v_X12_byWhen_b68 C (X12_byWhen_b35 n) ih y1 y2 y4 y4 m
set_option maxRecDepth 100000 in
set_option maxHeartbeats 4000000 in
theorem v_X12_byWhen {l : Launch} {p : Program} {e : Env} {s : State} {mt : MethodId} {args : Array Value} {below : List Frame} {meth : Method} {c : Code} {A : Nat → Prop} {ad0 : Nat → Nat} {G : Gt}  (C : Cx G p s mt args meth c RX12 cX12_byWhen 5 (some .int) "byWhen" A)  (x1 : Int32) (x2 : Int32) (m : Mem) : V G SM oI l p e s mt args below meth c 5 4 A ad0 17 17 RM 17 RM 0 [(0, .ref 0), (1, .int x1), (2, .int x2)] [] m (X12_byWhen  x1 x2 m) := by
  rw [X12_byWhen]
  refine V.aload_n (pc := 0) C dX12_byWhen_0 0 rfl ?_
  refine V.iconst (pc := 1) C dX12_byWhen_1 (v := 0) (by decide) ?_
  refine V.puti (pc := 2) C fp_RX12_1 sM0 kM0 rfl dX12_byWhen_2 ?_
  refine V.ltm (fun m_1 => ?_)
  refine V.aload_n (pc := 5) C dX12_byWhen_5 0 rfl ?_
  refine V.iload_n (pc := 6) C dX12_byWhen_6 1 rfl ?_
  refine V.i2l (pc := 7) C dX12_byWhen_7 ?_
  refine V.callV (pc := 8) (st := []) C (c_X12_isPerson l (Int32.toInt64 x1) m_1) obI ck_X12_isPerson ml_RX12_194 rfl rfl sM0 kM0 rfl rfl (Nat.le_of_ble_eq_true rfl) ⟨by decide, by decide⟩ dX12_byWhen_8 (fun r_2 m_3 _ => ?_)
  refine V.if_eq (pc := 11) C dX12_byWhen_11 23 (by decide) (fun _ => ?_) (fun _ => ?_)
  · refine V.bipush (pc := 23) C dX12_byWhen_23 (v := (-2)) (by decide) ?_
    exact V.iret C dX12_byWhen_25
  · refine V.aload_n (pc := 14) C dX12_byWhen_14 0 rfl ?_
    refine V.iload_n (pc := 15) C dX12_byWhen_15 2 rfl ?_
    refine V.i2l (pc := 16) C dX12_byWhen_16 ?_
    refine V.callV (pc := 17) (st := []) C (c_X12_isThing l (Int32.toInt64 x2) m_3) obI ck_X12_isThing ml_RX12_210 rfl rfl sM0 kM0 rfl rfl (Nat.le_of_ble_eq_true rfl) ⟨by decide, by decide⟩ dX12_byWhen_17 (fun r_4 m_5 _ => ?_)
    refine V.if_ne (pc := 20) C dX12_byWhen_20 26 (by decide) (fun _ => ?_) (fun _ => ?_)
    · refine V.aload_n (pc := 26) C dX12_byWhen_26 0 rfl ?_
      refine V.callV (pc := 27) (st := []) C (c_X12_keepsAhead l  m_5) obV ck_X12_keepsAhead ml_RX12_361 rfl rfl sM0 kM0 rfl rfl (Nat.le_of_ble_eq_true rfl) ⟨by decide, by decide⟩ dX12_byWhen_27 (fun r_6 m_7 _ => ?_)
      refine V.iconst (pc := 30) C dX12_byWhen_30 (v := (-1)) (by decide) ?_
      refine V.istore_n (pc := 31) C dX12_byWhen_31 (L2 := [(3, .int (-1)), (0, .ref 0), (1, .int x1), (2, .int x2)]) (by decide) rfl ?_
      refine V.iconst (pc := 32) C dX12_byWhen_32 (v := 0) (by decide) ?_
      refine V.istore (pc := 33) C dX12_byWhen_33 (L2 := [(4, .int 0), (3, .int (-1)), (0, .ref 0), (1, .int x1), (2, .int x2)]) (by decide) rfl ?_
      refine V.wk [2, 3, 4, 1, 0] rfl ?_
      exact v_X12_byWhen_b35 C  FU x1 x2 (-1) 0 m_7
    · refine V.bipush (pc := 23) C dX12_byWhen_23 (v := (-2)) (by decide) ?_
      exact V.iret C dX12_byWhen_25
theorem c_X12_byWhen (l : Launch)   (x1 : Int32) (x2 : Int32) (m : Mem) : Ct l yX12_byWhen cX12_byWhen 5 (some .int) 4 SM oI 17 17 RM RM [.ref 0, .int x1, .int x2] m (X12_byWhen  x1 x2 m) :=
  Ct.of (own := RX12) (nm := "byWhen") (by decide) rfl rfl (Nat.le_of_ble_eq_true rfl) (fun _ _ _ _ _ _ _ _ _ _ _ C => v_X12_byWhen C  x1 x2 m)
theorem dX12_child_0 : decode cX12_child 0 = .ok (.aload_n 0, 1) := by decide +kernel
theorem dX12_child_1 : decode cX12_child 1 = .ok (.iconst 0, 1) := by decide +kernel
theorem dX12_child_2 : decode cX12_child 2 = .ok (.putfield 1, 3) := by decide +kernel
theorem dX12_child_5 : decode cX12_child 5 = .ok (.aload_n 0, 1) := by decide +kernel
theorem dX12_child_6 : decode cX12_child 6 = .ok (.iload_n 1, 1) := by decide +kernel
theorem dX12_child_7 : decode cX12_child 7 = .ok (.i2l, 1) := by decide +kernel
theorem dX12_child_8 : decode cX12_child 8 = .ok (.iload_n 2, 1) := by decide +kernel
theorem dX12_child_9 : decode cX12_child 9 = .ok (.i2l, 1) := by decide +kernel
theorem dX12_child_10 : decode cX12_child 10 = .ok (.invokevirtual 234, 3) := by decide +kernel
theorem dX12_child_13 : decode cX12_child 13 = .ok (.ifCond .ne 6, 3) := by decide +kernel
theorem dX12_child_16 : decode cX12_child 16 = .ok (.bipush (-2), 2) := by decide +kernel
theorem dX12_child_18 : decode cX12_child 18 = .ok (.ireturn, 1) := by decide +kernel
theorem dX12_child_19 : decode cX12_child 19 = .ok (.aload_n 0, 1) := by decide +kernel
theorem dX12_child_20 : decode cX12_child 20 = .ok (.iload_n 1, 1) := by decide +kernel
theorem dX12_child_21 : decode cX12_child 21 = .ok (.invokevirtual 207, 3) := by decide +kernel
theorem dX12_child_24 : decode cX12_child 24 = .ok (.aload_n 0, 1) := by decide +kernel
theorem dX12_child_25 : decode cX12_child 25 = .ok (.iload_n 2, 1) := by decide +kernel
theorem dX12_child_26 : decode cX12_child 26 = .ok (.invokevirtual 207, 3) := by decide +kernel
theorem dX12_child_29 : decode cX12_child 29 = .ok (.ior, 1) := by decide +kernel
theorem dX12_child_30 : decode cX12_child 30 = .ok (.istore_n 3, 1) := by decide +kernel
theorem dX12_child_31 : decode cX12_child 31 = .ok (.iconst (-1), 1) := by decide +kernel
theorem dX12_child_32 : decode cX12_child 32 = .ok (.istore 4, 2) := by decide +kernel
theorem dX12_child_34 : decode cX12_child 34 = .ok (.iconst 0, 1) := by decide +kernel
theorem dX12_child_35 : decode cX12_child 35 = .ok (.istore 5, 2) := by decide +kernel
theorem dX12_child_37 : decode cX12_child 37 = .ok (.iload 5, 2) := by decide +kernel
theorem dX12_child_39 : decode cX12_child 39 = .ok (.aload_n 0, 1) := by decide +kernel
theorem dX12_child_40 : decode cX12_child 40 = .ok (.getfield 13, 3) := by decide +kernel
theorem dX12_child_43 : decode cX12_child 43 = .ok (.iconst 1, 1) := by decide +kernel
theorem dX12_child_44 : decode cX12_child 44 = .ok (.iaload, 1) := by decide +kernel
theorem dX12_child_45 : decode cX12_child 45 = .ok (.if_icmp .ge 44, 3) := by decide +kernel
theorem dX12_child_48 : decode cX12_child 48 = .ok (.iload_n 3, 1) := by decide +kernel
theorem dX12_child_49 : decode cX12_child 49 = .ok (.i2l, 1) := by decide +kernel
theorem dX12_child_50 : decode cX12_child 50 = .ok (.iload 5, 2) := by decide +kernel
theorem dX12_child_52 : decode cX12_child 52 = .ok (.invokestatic 175, 3) := by decide +kernel
theorem dX12_child_55 : decode cX12_child 55 = .ok (.ifCond .eq 28, 3) := by decide +kernel
theorem dX12_child_58 : decode cX12_child 58 = .ok (.iload 4, 2) := by decide +kernel
theorem dX12_child_60 : decode cX12_child 60 = .ok (.iconst (-1), 1) := by decide +kernel
theorem dX12_child_61 : decode cX12_child 61 = .ok (.if_icmp .eq 18, 3) := by decide +kernel
theorem dX12_child_64 : decode cX12_child 64 = .ok (.aload_n 0, 1) := by decide +kernel
theorem dX12_child_65 : decode cX12_child 65 = .ok (.iload 5, 2) := by decide +kernel
theorem dX12_child_67 : decode cX12_child 67 = .ok (.invokevirtual 204, 3) := by decide +kernel
theorem dX12_child_70 : decode cX12_child 70 = .ok (.aload_n 0, 1) := by decide +kernel
theorem dX12_child_71 : decode cX12_child 71 = .ok (.iload 4, 2) := by decide +kernel
theorem dX12_child_73 : decode cX12_child 73 = .ok (.invokevirtual 204, 3) := by decide +kernel
theorem dX12_child_76 : decode cX12_child 76 = .ok (.if_icmp .gt 7, 3) := by decide +kernel
theorem dX12_child_79 : decode cX12_child 79 = .ok (.iload 5, 2) := by decide +kernel
theorem dX12_child_81 : decode cX12_child 81 = .ok (.istore 4, 2) := by decide +kernel
theorem dX12_child_83 : decode cX12_child 83 = .ok (.iinc 5 1, 3) := by decide +kernel
theorem dX12_child_86 : decode cX12_child 86 = .ok (.goto (-49), 3) := by decide +kernel
theorem dX12_child_89 : decode cX12_child 89 = .ok (.iload 4, 2) := by decide +kernel
theorem dX12_child_91 : decode cX12_child 91 = .ok (.iconst (-1), 1) := by decide +kernel
theorem dX12_child_92 : decode cX12_child 92 = .ok (.if_icmp .ne 7, 3) := by decide +kernel
theorem dX12_child_95 : decode cX12_child 95 = .ok (.iconst 0, 1) := by decide +kernel
theorem dX12_child_96 : decode cX12_child 96 = .ok (.goto 11, 3) := by decide +kernel
theorem dX12_child_99 : decode cX12_child 99 = .ok (.iload_n 3, 1) := by decide +kernel
theorem dX12_child_100 : decode cX12_child 100 = .ok (.iconst 1, 1) := by decide +kernel
theorem dX12_child_101 : decode cX12_child 101 = .ok (.iload 4, 2) := by decide +kernel
theorem dX12_child_103 : decode cX12_child 103 = .ok (.ishl, 1) := by decide +kernel
theorem dX12_child_104 : decode cX12_child 104 = .ok (.iconst (-1), 1) := by decide +kernel
theorem dX12_child_105 : decode cX12_child 105 = .ok (.ixor, 1) := by decide +kernel
theorem dX12_child_106 : decode cX12_child 106 = .ok (.iand, 1) := by decide +kernel
theorem dX12_child_107 : decode cX12_child 107 = .ok (.ireturn, 1) := by decide +kernel
set_option maxRecDepth 100000 in
set_option maxHeartbeats 4000000 in
theorem v_X12_child_b37 {l : Launch} {p : Program} {e : Env} {s : State} {mt : MethodId} {args : Array Value} {below : List Frame} {meth : Method} {c : Code} {A : Nat → Prop} {ad0 : Nat → Nat} {G : Gt}  (C : Cx G p s mt args meth c RX12 cX12_child 6 (some .int) "child" A)  : ∀ (n : Nat) (y3 : Int32) (y4 : Int32) (y5 : Int32) (m : Mem), V G SM oI l p e s mt args below meth c 6 4 A ad0 17 17 RM 17 RM 37 [(0, .ref 0), (3, .int y3), (4, .int y4), (5, .int y5)] [] m (X12_child_b37  n y3 y4 y5 m) := by
  intro n
  induction n with
  | zero =>
    intro y3 y4 y5 m
    rw [X12_child_b37]
    exact V.nil
  | succ n ih =>
    intro y3 y4 y5 m
    rw [X12_child_b37]
    refine V.iload (pc := 37) C dX12_child_37 3 rfl ?_
    refine V.aload_n (pc := 39) C dX12_child_39 0 rfl ?_
    refine V.getr (pc := 40) C fl_RX12_13 sM0 kM0 rfl rM0_1 dX12_child_40 ?_
    refine V.iconst (pc := 43) C dX12_child_43 (v := 1) (by decide) ?_
    refine V.iald (pc := 44) C sM1 kM1 dX12_child_44 (fun _ => ?_)
    refine V.icmp_ge (pc := 45) C dX12_child_45 89 (by decide) (fun _ => ?_) (fun _ => ?_)
    · refine V.iload (pc := 89) C dX12_child_89 2 rfl ?_
      refine V.iconst (pc := 91) C dX12_child_91 (v := (-1)) (by decide) ?_
      refine V.icmp_ne (pc := 92) C dX12_child_92 99 (by decide) (fun _ => ?_) (fun _ => ?_)
      · refine V.iload_n (pc := 99) C dX12_child_99 1 rfl ?_
        refine V.iconst (pc := 100) C dX12_child_100 (v := 1) (by decide) ?_
        refine V.iload (pc := 101) C dX12_child_101 2 rfl ?_
        refine V.ishl (pc := 103) C dX12_child_103 ?_
        refine V.iconst (pc := 104) C dX12_child_104 (v := (-1)) (by decide) ?_
        refine V.ixor (pc := 105) C dX12_child_105 ?_
        refine V.iand (pc := 106) C dX12_child_106 ?_
        exact V.iret C dX12_child_107
      · refine V.iconst (pc := 95) C dX12_child_95 (v := 0) (by decide) ?_
        refine V.goto (pc := 96) C dX12_child_96 107 (by decide) ?_
        exact V.iret C dX12_child_107
    · refine V.iload_n (pc := 48) C dX12_child_48 1 rfl ?_
      refine V.i2l (pc := 49) C dX12_child_49 ?_
      refine V.iload (pc := 50) C dX12_child_50 3 rfl ?_
      refine V.callS (pc := 52) (st := []) C (c_X12_isIn l (Int32.toInt64 y3) y5 m) obI ck_X12_isIn ml_RX12_175 rfl rfl (Nat.le_of_ble_eq_true rfl) ⟨by decide, by decide⟩ dX12_child_52 (fun r_9 m_10 _ => ?_)
      refine V.if_eq (pc := 55) C dX12_child_55 83 (by decide) (fun _ => ?_) (fun _ => ?_)
      · refine V.iinc (pc := 83) C dX12_child_83 (v := 1) (L2 := [(5, .int (y5 + 1)), (0, .ref 0), (3, .int y3), (4, .int y4)]) 3 rfl (by decide) (by decide) rfl ?_
        refine V.goto (pc := 86) C dX12_child_86 37 (by decide) ?_
        refine V.wk [1, 2, 3, 0] rfl ?_
        exact ih y3 y4 (y5 + 1) m_10
      · refine V.iload (pc := 58) C dX12_child_58 2 rfl ?_
        refine V.iconst (pc := 60) C dX12_child_60 (v := (-1)) (by decide) ?_
        refine V.icmp_eq (pc := 61) C dX12_child_61 79 (by decide) (fun _ => ?_) (fun _ => ?_)
        · refine V.iload (pc := 79) C dX12_child_79 3 rfl ?_
          refine V.istore (pc := 81) C dX12_child_81 (L2 := [(4, .int y5), (0, .ref 0), (3, .int y3), (5, .int y5)]) (by decide) rfl ?_
          refine V.iinc (pc := 83) C dX12_child_83 (v := 1) (L2 := [(5, .int (y5 + 1)), (4, .int y5), (0, .ref 0), (3, .int y3)]) 3 rfl (by decide) (by decide) rfl ?_
          refine V.goto (pc := 86) C dX12_child_86 37 (by decide) ?_
          refine V.wk [2, 3, 1, 0] rfl ?_
          exact ih y3 y5 (y5 + 1) m_10
        · refine V.aload_n (pc := 64) C dX12_child_64 0 rfl ?_
          refine V.iload (pc := 65) C dX12_child_65 3 rfl ?_
          refine V.callV (pc := 67) (st := []) C (c_X12_rareOf l y5 m_10) obI ck_X12_rareOf ml_RX12_204 rfl rfl sM0 kM0 rfl rfl (Nat.le_of_ble_eq_true rfl) ⟨by decide, by decide⟩ dX12_child_67 (fun r_11 m_12 _ => ?_)
          refine V.aload_n (pc := 70) C dX12_child_70 0 rfl ?_
          refine V.iload (pc := 71) C dX12_child_71 2 rfl ?_
          refine V.callV (pc := 73) (st := [.int r_11]) C (c_X12_rareOf l y4 m_12) obI ck_X12_rareOf ml_RX12_204 rfl rfl sM0 kM0 rfl rfl (Nat.le_of_ble_eq_true rfl) ⟨by decide, by decide⟩ dX12_child_73 (fun r_13 m_14 _ => ?_)
          refine V.icmp_gt (pc := 76) C dX12_child_76 83 (by decide) (fun _ => ?_) (fun _ => ?_)
          · refine V.iinc (pc := 83) C dX12_child_83 (v := 1) (L2 := [(5, .int (y5 + 1)), (0, .ref 0), (3, .int y3), (4, .int y4)]) 3 rfl (by decide) (by decide) rfl ?_
            refine V.goto (pc := 86) C dX12_child_86 37 (by decide) ?_
            refine V.wk [1, 2, 3, 0] rfl ?_
            exact ih y3 y4 (y5 + 1) m_14
          · refine V.iload (pc := 79) C dX12_child_79 3 rfl ?_
            refine V.istore (pc := 81) C dX12_child_81 (L2 := [(4, .int y5), (0, .ref 0), (3, .int y3), (5, .int y5)]) (by decide) rfl ?_
            refine V.iinc (pc := 83) C dX12_child_83 (v := 1) (L2 := [(5, .int (y5 + 1)), (4, .int y5), (0, .ref 0), (3, .int y3)]) 3 rfl (by decide) (by decide) rfl ?_
            refine V.goto (pc := 86) C dX12_child_86 37 (by decide) ?_
            refine V.wk [2, 3, 1, 0] rfl ?_
            exact ih y3 y5 (y5 + 1) m_14
set_option maxRecDepth 100000 in
set_option maxHeartbeats 4000000 in
theorem v_X12_child {l : Launch} {p : Program} {e : Env} {s : State} {mt : MethodId} {args : Array Value} {below : List Frame} {meth : Method} {c : Code} {A : Nat → Prop} {ad0 : Nat → Nat} {G : Gt}  (C : Cx G p s mt args meth c RX12 cX12_child 6 (some .int) "child" A)  (x1 : Int32) (x2 : Int32) (m : Mem) : V G SM oI l p e s mt args below meth c 6 4 A ad0 17 17 RM 17 RM 0 [(0, .ref 0), (1, .int x1), (2, .int x2)] [] m (X12_child  x1 x2 m) := by
  rw [X12_child]
  refine V.aload_n (pc := 0) C dX12_child_0 0 rfl ?_
  refine V.iconst (pc := 1) C dX12_child_1 (v := 0) (by decide) ?_
  refine V.puti (pc := 2) C fp_RX12_1 sM0 kM0 rfl dX12_child_2 ?_
  refine V.ltm (fun m_1 => ?_)
  refine V.aload_n (pc := 5) C dX12_child_5 0 rfl ?_
  refine V.iload_n (pc := 6) C dX12_child_6 1 rfl ?_
  refine V.i2l (pc := 7) C dX12_child_7 ?_
  refine V.iload_n (pc := 8) C dX12_child_8 2 rfl ?_
  refine V.i2l (pc := 9) C dX12_child_9 ?_
  refine V.callV (pc := 10) (st := []) C (c_X12_areTwo l (Int32.toInt64 x1) (Int32.toInt64 x2) m_1) obI ck_X12_areTwo ml_RX12_234 rfl rfl sM0 kM0 rfl rfl (Nat.le_of_ble_eq_true rfl) ⟨by decide, by decide⟩ dX12_child_10 (fun r_2 m_3 _ => ?_)
  refine V.if_ne (pc := 13) C dX12_child_13 19 (by decide) (fun _ => ?_) (fun _ => ?_)
  · refine V.aload_n (pc := 19) C dX12_child_19 0 rfl ?_
    refine V.iload_n (pc := 20) C dX12_child_20 1 rfl ?_
    refine V.callV (pc := 21) (st := []) C (c_X12_listOf l x1 m_3) obI ck_X12_listOf ml_RX12_207 rfl rfl sM0 kM0 rfl rfl (Nat.le_of_ble_eq_true rfl) ⟨by decide, by decide⟩ dX12_child_21 (fun r_4 m_5 _ => ?_)
    refine V.aload_n (pc := 24) C dX12_child_24 0 rfl ?_
    refine V.iload_n (pc := 25) C dX12_child_25 2 rfl ?_
    refine V.callV (pc := 26) (st := [.int r_4]) C (c_X12_listOf l x2 m_5) obI ck_X12_listOf ml_RX12_207 rfl rfl sM0 kM0 rfl rfl (Nat.le_of_ble_eq_true rfl) ⟨by decide, by decide⟩ dX12_child_26 (fun r_6 m_7 _ => ?_)
    refine V.ior (pc := 29) C dX12_child_29 ?_
    refine V.lti (fun x_8 _ => ?_)
    refine V.istore_n (pc := 30) C dX12_child_30 (L2 := [(3, .int x_8), (0, .ref 0), (1, .int x1), (2, .int x2)]) (by decide) rfl ?_
    refine V.iconst (pc := 31) C dX12_child_31 (v := (-1)) (by decide) ?_
    refine V.istore (pc := 32) C dX12_child_32 (L2 := [(4, .int (-1)), (3, .int x_8), (0, .ref 0), (1, .int x1), (2, .int x2)]) (by decide) rfl ?_
    refine V.iconst (pc := 34) C dX12_child_34 (v := 0) (by decide) ?_
    refine V.istore (pc := 35) C dX12_child_35 (L2 := [(5, .int 0), (4, .int (-1)), (3, .int x_8), (0, .ref 0), (1, .int x1), (2, .int x2)]) (by decide) rfl ?_
    refine V.wk [3, 2, 1, 0] rfl ?_
    exact v_X12_child_b37 C  FU x_8 (-1) 0 m_7
  · refine V.bipush (pc := 16) C dX12_child_16 (v := (-2)) (by decide) ?_
    exact V.iret C dX12_child_18
theorem c_X12_child (l : Launch)   (x1 : Int32) (x2 : Int32) (m : Mem) : Ct l yX12_child cX12_child 6 (some .int) 4 SM oI 17 17 RM RM [.ref 0, .int x1, .int x2] m (X12_child  x1 x2 m) :=
  Ct.of (own := RX12) (nm := "child") (by decide) rfl rfl (Nat.le_of_ble_eq_true rfl) (fun _ _ _ _ _ _ _ _ _ _ _ C => v_X12_child C  x1 x2 m)
theorem dX12_keeps_0 : decode cX12_keeps 0 = .ok (.iconst 0, 1) := by decide +kernel
theorem dX12_keeps_1 : decode cX12_keeps 1 = .ok (.istore_n 1, 1) := by decide +kernel
theorem dX12_keeps_2 : decode cX12_keeps 2 = .ok (.iload_n 1, 1) := by decide +kernel
theorem dX12_keeps_3 : decode cX12_keeps 3 = .ok (.sipush 129, 3) := by decide +kernel
theorem dX12_keeps_6 : decode cX12_keeps 6 = .ok (.if_icmp .ge 24, 3) := by decide +kernel
theorem dX12_keeps_9 : decode cX12_keeps 9 = .ok (.aload_n 0, 1) := by decide +kernel
theorem dX12_keeps_10 : decode cX12_keeps 10 = .ok (.getfield 36, 3) := by decide +kernel
theorem dX12_keeps_13 : decode cX12_keeps 13 = .ok (.iload_n 1, 1) := by decide +kernel
theorem dX12_keeps_14 : decode cX12_keeps 14 = .ok (.aload_n 0, 1) := by decide +kernel
theorem dX12_keeps_15 : decode cX12_keeps 15 = .ok (.getfield 13, 3) := by decide +kernel
theorem dX12_keeps_18 : decode cX12_keeps 18 = .ok (.bipush 33, 2) := by decide +kernel
theorem dX12_keeps_20 : decode cX12_keeps 20 = .ok (.iload_n 1, 1) := by decide +kernel
theorem dX12_keeps_21 : decode cX12_keeps 21 = .ok (.iadd, 1) := by decide +kernel
theorem dX12_keeps_22 : decode cX12_keeps 22 = .ok (.iaload, 1) := by decide +kernel
theorem dX12_keeps_23 : decode cX12_keeps 23 = .ok (.iastore, 1) := by decide +kernel
theorem dX12_keeps_24 : decode cX12_keeps 24 = .ok (.iinc 1 1, 3) := by decide +kernel
theorem dX12_keeps_27 : decode cX12_keeps 27 = .ok (.goto (-25), 3) := by decide +kernel
theorem dX12_keeps_30 : decode cX12_keeps 30 = .ok (.return_, 1) := by decide +kernel
set_option maxRecDepth 100000 in
set_option maxHeartbeats 4000000 in
theorem v_X12_keeps_b2 {l : Launch} {p : Program} {e : Env} {s : State} {mt : MethodId} {args : Array Value} {below : List Frame} {meth : Method} {c : Code} {A : Nat → Prop} {ad0 : Nat → Nat} {G : Gt}  (C : Cx G p s mt args meth c RX12 cX12_keeps 2 none "keeps" A)  : ∀ (n : Nat) (y1 : Int32) (m : Mem), V G SM oV l p e s mt args below meth c 2 1 A ad0 17 17 RM 17 RM 2 [(0, .ref 0), (1, .int y1)] [] m (X12_keeps_b2  n y1 m) := by
  intro n
  induction n with
  | zero =>
    intro y1 m
    rw [X12_keeps_b2]
    exact V.nil
  | succ n ih =>
    intro y1 m
    rw [X12_keeps_b2]
    refine V.iload_n (pc := 2) C dX12_keeps_2 1 rfl ?_
    refine V.sipush (pc := 3) C dX12_keeps_3 (v := 129) (by decide) ?_
    refine V.icmp_ge (pc := 6) C dX12_keeps_6 30 (by decide) (fun _ => ?_) (fun _ => ?_)
    · exact V.vret C dX12_keeps_30
    · refine V.aload_n (pc := 9) C dX12_keeps_9 0 rfl ?_
      refine V.getr (pc := 10) C fl_RX12_36 sM0 kM0 rfl rM0_17 dX12_keeps_10 ?_
      refine V.iload_n (pc := 13) C dX12_keeps_13 1 rfl ?_
      refine V.aload_n (pc := 14) C dX12_keeps_14 0 rfl ?_
      refine V.getr (pc := 15) C fl_RX12_13 sM0 kM0 rfl rM0_1 dX12_keeps_15 ?_
      refine V.bipush (pc := 18) C dX12_keeps_18 (v := 33) (by decide) ?_
      refine V.iload_n (pc := 20) C dX12_keeps_20 1 rfl ?_
      refine V.iadd (pc := 21) C dX12_keeps_21 ?_
      refine V.iald (pc := 22) C sM1 kM1 dX12_keeps_22 (fun _ => ?_)
      refine V.iast (pc := 23) C sM7 kM7 dX12_keeps_23 (fun _ => ?_)
      refine V.ltm (fun m_1 => ?_)
      refine V.iinc (pc := 24) C dX12_keeps_24 (v := 1) (L2 := [(1, .int (y1 + 1)), (0, .ref 0)]) 1 rfl (by decide) (by decide) rfl ?_
      refine V.goto (pc := 27) C dX12_keeps_27 2 (by decide) ?_
      refine V.wk [1, 0] rfl ?_
      exact ih (y1 + 1) m_1
set_option maxRecDepth 100000 in
set_option maxHeartbeats 4000000 in
theorem v_X12_keeps {l : Launch} {p : Program} {e : Env} {s : State} {mt : MethodId} {args : Array Value} {below : List Frame} {meth : Method} {c : Code} {A : Nat → Prop} {ad0 : Nat → Nat} {G : Gt}  (C : Cx G p s mt args meth c RX12 cX12_keeps 2 none "keeps" A)  (m : Mem) : V G SM oV l p e s mt args below meth c 2 1 A ad0 17 17 RM 17 RM 0 [(0, .ref 0)] [] m (X12_keeps   m) := by
  rw [X12_keeps]
  refine V.iconst (pc := 0) C dX12_keeps_0 (v := 0) (by decide) ?_
  refine V.istore_n (pc := 1) C dX12_keeps_1 (L2 := [(1, .int 0), (0, .ref 0)]) (by decide) rfl ?_
  refine V.wk [1, 0] rfl ?_
  exact v_X12_keeps_b2 C  FU 0 m
theorem c_X12_keeps (l : Launch)   (m : Mem) : Ct l yX12_keeps cX12_keeps 2 none 1 SM oV 17 17 RM RM [.ref 0] m (X12_keeps   m) :=
  Ct.of (own := RX12) (nm := "keeps") (by decide) rfl rfl (Nat.le_of_ble_eq_true rfl) (fun _ _ _ _ _ _ _ _ _ _ _ C => v_X12_keeps C   m)
theorem dX12_parts_0 : decode cX12_parts 0 = .ok (.aload_n 0, 1) := by decide +kernel
theorem dX12_parts_1 : decode cX12_parts 1 = .ok (.getfield 13, 3) := by decide +kernel
theorem dX12_parts_4 : decode cX12_parts 4 = .ok (.sipush 153, 3) := by decide +kernel
theorem dX12_parts_7 : decode cX12_parts 7 = .ok (.aload_n 0, 1) := by decide +kernel
theorem dX12_parts_8 : decode cX12_parts 8 = .ok (.getfield 13, 3) := by decide +kernel
theorem dX12_parts_11 : decode cX12_parts 11 = .ok (.sipush 153, 3) := by decide +kernel
theorem dX12_parts_14 : decode cX12_parts 14 = .ok (.iload_n 1, 1) := by decide +kernel
theorem dX12_parts_15 : decode cX12_parts 15 = .ok (.iadd, 1) := by decide +kernel
theorem dX12_parts_16 : decode cX12_parts 16 = .ok (.iaload, 1) := by decide +kernel
theorem dX12_parts_17 : decode cX12_parts 17 = .ok (.iadd, 1) := by decide +kernel
theorem dX12_parts_18 : decode cX12_parts 18 = .ok (.iconst (-1), 1) := by decide +kernel
theorem dX12_parts_19 : decode cX12_parts 19 = .ok (.iastore, 1) := by decide +kernel
theorem dX12_parts_20 : decode cX12_parts 20 = .ok (.aload_n 0, 1) := by decide +kernel
theorem dX12_parts_21 : decode cX12_parts 21 = .ok (.getfield 13, 3) := by decide +kernel
theorem dX12_parts_24 : decode cX12_parts 24 = .ok (.sipush 153, 3) := by decide +kernel
theorem dX12_parts_27 : decode cX12_parts 27 = .ok (.iload_n 1, 1) := by decide +kernel
theorem dX12_parts_28 : decode cX12_parts 28 = .ok (.iadd, 1) := by decide +kernel
theorem dX12_parts_29 : decode cX12_parts 29 = .ok (.iconst (-1), 1) := by decide +kernel
theorem dX12_parts_30 : decode cX12_parts 30 = .ok (.iastore, 1) := by decide +kernel
theorem dX12_parts_31 : decode cX12_parts 31 = .ok (.return_, 1) := by decide +kernel
set_option maxRecDepth 100000 in
set_option maxHeartbeats 4000000 in
theorem v_X12_parts {l : Launch} {p : Program} {e : Env} {s : State} {mt : MethodId} {args : Array Value} {below : List Frame} {meth : Method} {c : Code} {A : Nat → Prop} {ad0 : Nat → Nat} {G : Gt}  (C : Cx G p s mt args meth c RX12 cX12_parts 2 none "parts" A)  (x1 : Int32) (m : Mem) : V G SM oV l p e s mt args below meth c 2 1 A ad0 17 17 RM 17 RM 0 [(0, .ref 0), (1, .int x1)] [] m (X12_parts  x1 m) := by
  rw [X12_parts]
  refine V.aload_n (pc := 0) C dX12_parts_0 0 rfl ?_
  refine V.getr (pc := 1) C fl_RX12_13 sM0 kM0 rfl rM0_1 dX12_parts_1 ?_
  refine V.sipush (pc := 4) C dX12_parts_4 (v := 153) (by decide) ?_
  refine V.aload_n (pc := 7) C dX12_parts_7 0 rfl ?_
  refine V.getr (pc := 8) C fl_RX12_13 sM0 kM0 rfl rM0_1 dX12_parts_8 ?_
  refine V.sipush (pc := 11) C dX12_parts_11 (v := 153) (by decide) ?_
  refine V.iload_n (pc := 14) C dX12_parts_14 1 rfl ?_
  refine V.iadd (pc := 15) C dX12_parts_15 ?_
  refine V.iald (pc := 16) C sM1 kM1 dX12_parts_16 (fun _ => ?_)
  refine V.iadd (pc := 17) C dX12_parts_17 ?_
  refine V.iconst (pc := 18) C dX12_parts_18 (v := (-1)) (by decide) ?_
  refine V.iast (pc := 19) C sM1 kM1 dX12_parts_19 (fun _ => ?_)
  refine V.ltm (fun m_1 => ?_)
  refine V.aload_n (pc := 20) C dX12_parts_20 0 rfl ?_
  refine V.getr (pc := 21) C fl_RX12_13 sM0 kM0 rfl rM0_1 dX12_parts_21 ?_
  refine V.sipush (pc := 24) C dX12_parts_24 (v := 153) (by decide) ?_
  refine V.iload_n (pc := 27) C dX12_parts_27 1 rfl ?_
  refine V.iadd (pc := 28) C dX12_parts_28 ?_
  refine V.iconst (pc := 29) C dX12_parts_29 (v := (-1)) (by decide) ?_
  refine V.iast (pc := 30) C sM1 kM1 dX12_parts_30 (fun _ => ?_)
  refine V.ltm (fun m_2 => ?_)
  exact V.vret C dX12_parts_31
theorem c_X12_parts (l : Launch)   (x1 : Int32) (m : Mem) : Ct l yX12_parts cX12_parts 2 none 1 SM oV 17 17 RM RM [.ref 0, .int x1] m (X12_parts  x1 m) :=
  Ct.of (own := RX12) (nm := "parts") (by decide) rfl rfl (Nat.le_of_ble_eq_true rfl) (fun _ _ _ _ _ _ _ _ _ _ _ C => v_X12_parts C  x1 m)
theorem dX12_weds_0 : decode cX12_weds 0 = .ok (.aload_n 0, 1) := by decide +kernel
theorem dX12_weds_1 : decode cX12_weds 1 = .ok (.getfield 13, 3) := by decide +kernel
theorem dX12_weds_4 : decode cX12_weds 4 = .ok (.sipush 153, 3) := by decide +kernel
theorem dX12_weds_7 : decode cX12_weds 7 = .ok (.iload_n 1, 1) := by decide +kernel
theorem dX12_weds_8 : decode cX12_weds 8 = .ok (.iadd, 1) := by decide +kernel
theorem dX12_weds_9 : decode cX12_weds 9 = .ok (.iload_n 2, 1) := by decide +kernel
theorem dX12_weds_10 : decode cX12_weds 10 = .ok (.iastore, 1) := by decide +kernel
theorem dX12_weds_11 : decode cX12_weds 11 = .ok (.aload_n 0, 1) := by decide +kernel
theorem dX12_weds_12 : decode cX12_weds 12 = .ok (.getfield 13, 3) := by decide +kernel
theorem dX12_weds_15 : decode cX12_weds 15 = .ok (.sipush 153, 3) := by decide +kernel
theorem dX12_weds_18 : decode cX12_weds 18 = .ok (.iload_n 2, 1) := by decide +kernel
theorem dX12_weds_19 : decode cX12_weds 19 = .ok (.iadd, 1) := by decide +kernel
theorem dX12_weds_20 : decode cX12_weds 20 = .ok (.iload_n 1, 1) := by decide +kernel
theorem dX12_weds_21 : decode cX12_weds 21 = .ok (.iastore, 1) := by decide +kernel
theorem dX12_weds_22 : decode cX12_weds 22 = .ok (.return_, 1) := by decide +kernel
set_option maxRecDepth 100000 in
set_option maxHeartbeats 4000000 in
theorem v_X12_weds {l : Launch} {p : Program} {e : Env} {s : State} {mt : MethodId} {args : Array Value} {below : List Frame} {meth : Method} {c : Code} {A : Nat → Prop} {ad0 : Nat → Nat} {G : Gt}  (C : Cx G p s mt args meth c RX12 cX12_weds 3 none "weds" A)  (x1 : Int32) (x2 : Int32) (m : Mem) : V G SM oV l p e s mt args below meth c 3 1 A ad0 17 17 RM 17 RM 0 [(0, .ref 0), (1, .int x1), (2, .int x2)] [] m (X12_weds  x1 x2 m) := by
  rw [X12_weds]
  refine V.aload_n (pc := 0) C dX12_weds_0 0 rfl ?_
  refine V.getr (pc := 1) C fl_RX12_13 sM0 kM0 rfl rM0_1 dX12_weds_1 ?_
  refine V.sipush (pc := 4) C dX12_weds_4 (v := 153) (by decide) ?_
  refine V.iload_n (pc := 7) C dX12_weds_7 1 rfl ?_
  refine V.iadd (pc := 8) C dX12_weds_8 ?_
  refine V.iload_n (pc := 9) C dX12_weds_9 2 rfl ?_
  refine V.iast (pc := 10) C sM1 kM1 dX12_weds_10 (fun _ => ?_)
  refine V.ltm (fun m_1 => ?_)
  refine V.aload_n (pc := 11) C dX12_weds_11 0 rfl ?_
  refine V.getr (pc := 12) C fl_RX12_13 sM0 kM0 rfl rM0_1 dX12_weds_12 ?_
  refine V.sipush (pc := 15) C dX12_weds_15 (v := 153) (by decide) ?_
  refine V.iload_n (pc := 18) C dX12_weds_18 2 rfl ?_
  refine V.iadd (pc := 19) C dX12_weds_19 ?_
  refine V.iload_n (pc := 20) C dX12_weds_20 1 rfl ?_
  refine V.iast (pc := 21) C sM1 kM1 dX12_weds_21 (fun _ => ?_)
  refine V.ltm (fun m_2 => ?_)
  exact V.vret C dX12_weds_22
theorem c_X12_weds (l : Launch)   (x1 : Int32) (x2 : Int32) (m : Mem) : Ct l yX12_weds cX12_weds 3 none 1 SM oV 17 17 RM RM [.ref 0, .int x1, .int x2] m (X12_weds  x1 x2 m) :=
  Ct.of (own := RX12) (nm := "weds") (by decide) rfl rfl (Nat.le_of_ble_eq_true rfl) (fun _ _ _ _ _ _ _ _ _ _ _ C => v_X12_weds C  x1 x2 m)
theorem dX12_does_0 : decode cX12_does 0 = .ok (.iload_n 1, 1) := by decide +kernel
theorem dX12_does_1 : decode cX12_does 1 = .ok (.bipush 100, 2) := by decide +kernel
theorem dX12_does_3 : decode cX12_does 3 = .ok (.idiv, 1) := by decide +kernel
theorem dX12_does_4 : decode cX12_does 4 = .ok (.bipush 10, 2) := by decide +kernel
theorem dX12_does_6 : decode cX12_does 6 = .ok (.irem, 1) := by decide +kernel
theorem dX12_does_7 : decode cX12_does 7 = .ok (.istore_n 2, 1) := by decide +kernel
theorem dX12_does_8 : decode cX12_does 8 = .ok (.iload_n 1, 1) := by decide +kernel
theorem dX12_does_9 : decode cX12_does 9 = .ok (.bipush 100, 2) := by decide +kernel
theorem dX12_does_11 : decode cX12_does 11 = .ok (.irem, 1) := by decide +kernel
theorem dX12_does_12 : decode cX12_does 12 = .ok (.istore_n 3, 1) := by decide +kernel
theorem dX12_does_13 : decode cX12_does 13 = .ok (.iload_n 1, 1) := by decide +kernel
theorem dX12_does_14 : decode cX12_does 14 = .ok (.iconst (-1), 1) := by decide +kernel
theorem dX12_does_15 : decode cX12_does 15 = .ok (.if_icmp .ne 13, 3) := by decide +kernel
theorem dX12_does_18 : decode cX12_does 18 = .ok (.aload_n 0, 1) := by decide +kernel
theorem dX12_does_19 : decode cX12_does 19 = .ok (.iconst (-1), 1) := by decide +kernel
theorem dX12_does_20 : decode cX12_does 20 = .ok (.iconst (-1), 1) := by decide +kernel
theorem dX12_does_21 : decode cX12_does 21 = .ok (.invokevirtual 255, 3) := by decide +kernel
theorem dX12_does_24 : decode cX12_does 24 = .ok (.pop, 1) := by decide +kernel
theorem dX12_does_25 : decode cX12_does 25 = .ok (.goto 134, 3) := by decide +kernel
theorem dX12_does_28 : decode cX12_does 28 = .ok (.iload_n 1, 1) := by decide +kernel
theorem dX12_does_29 : decode cX12_does 29 = .ok (.sipush 2000, 3) := by decide +kernel
theorem dX12_does_32 : decode cX12_does 32 = .ok (.if_icmp .lt 52, 3) := by decide +kernel
theorem dX12_does_35 : decode cX12_does 35 = .ok (.iconst 0, 1) := by decide +kernel
theorem dX12_does_36 : decode cX12_does 36 = .ok (.istore 4, 2) := by decide +kernel
theorem dX12_does_38 : decode cX12_does 38 = .ok (.iload 4, 2) := by decide +kernel
theorem dX12_does_40 : decode cX12_does 40 = .ok (.bipush 14, 2) := by decide +kernel
theorem dX12_does_42 : decode cX12_does 42 = .ok (.if_icmp .ge 39, 3) := by decide +kernel
theorem dX12_does_45 : decode cX12_does 45 = .ok (.aload_n 0, 1) := by decide +kernel
theorem dX12_does_46 : decode cX12_does 46 = .ok (.getfield 13, 3) := by decide +kernel
theorem dX12_does_49 : decode cX12_does 49 = .ok (.bipush 41, 2) := by decide +kernel
theorem dX12_does_51 : decode cX12_does 51 = .ok (.bipush 14, 2) := by decide +kernel
theorem dX12_does_53 : decode cX12_does 53 = .ok (.iload_n 2, 1) := by decide +kernel
theorem dX12_does_54 : decode cX12_does 54 = .ok (.imul, 1) := by decide +kernel
theorem dX12_does_55 : decode cX12_does 55 = .ok (.iadd, 1) := by decide +kernel
theorem dX12_does_56 : decode cX12_does 56 = .ok (.iload 4, 2) := by decide +kernel
theorem dX12_does_58 : decode cX12_does 58 = .ok (.iadd, 1) := by decide +kernel
theorem dX12_does_59 : decode cX12_does 59 = .ok (.aload_n 0, 1) := by decide +kernel
theorem dX12_does_60 : decode cX12_does 60 = .ok (.getfield 13, 3) := by decide +kernel
theorem dX12_does_63 : decode cX12_does 63 = .ok (.bipush 41, 2) := by decide +kernel
theorem dX12_does_65 : decode cX12_does 65 = .ok (.bipush 14, 2) := by decide +kernel
theorem dX12_does_67 : decode cX12_does 67 = .ok (.iload_n 3, 1) := by decide +kernel
theorem dX12_does_68 : decode cX12_does 68 = .ok (.imul, 1) := by decide +kernel
theorem dX12_does_69 : decode cX12_does 69 = .ok (.iadd, 1) := by decide +kernel
theorem dX12_does_70 : decode cX12_does 70 = .ok (.iload 4, 2) := by decide +kernel
theorem dX12_does_72 : decode cX12_does 72 = .ok (.iadd, 1) := by decide +kernel
theorem dX12_does_73 : decode cX12_does 73 = .ok (.iaload, 1) := by decide +kernel
theorem dX12_does_74 : decode cX12_does 74 = .ok (.iastore, 1) := by decide +kernel
theorem dX12_does_75 : decode cX12_does 75 = .ok (.iinc 4 1, 3) := by decide +kernel
theorem dX12_does_78 : decode cX12_does 78 = .ok (.goto (-40), 3) := by decide +kernel
theorem dX12_does_81 : decode cX12_does 81 = .ok (.goto 78, 3) := by decide +kernel
theorem dX12_does_84 : decode cX12_does 84 = .ok (.iload_n 1, 1) := by decide +kernel
theorem dX12_does_85 : decode cX12_does 85 = .ok (.sipush 1000, 3) := by decide +kernel
theorem dX12_does_88 : decode cX12_does 88 = .ok (.if_icmp .lt 43, 3) := by decide +kernel
theorem dX12_does_91 : decode cX12_does 91 = .ok (.aload_n 0, 1) := by decide +kernel
theorem dX12_does_92 : decode cX12_does 92 = .ok (.getfield 13, 3) := by decide +kernel
theorem dX12_does_95 : decode cX12_does 95 = .ok (.bipush 41, 2) := by decide +kernel
theorem dX12_does_97 : decode cX12_does 97 = .ok (.bipush 14, 2) := by decide +kernel
theorem dX12_does_99 : decode cX12_does 99 = .ok (.iload_n 2, 1) := by decide +kernel
theorem dX12_does_100 : decode cX12_does 100 = .ok (.imul, 1) := by decide +kernel
theorem dX12_does_101 : decode cX12_does 101 = .ok (.iadd, 1) := by decide +kernel
theorem dX12_does_102 : decode cX12_does 102 = .ok (.iload_n 3, 1) := by decide +kernel
theorem dX12_does_103 : decode cX12_does 103 = .ok (.iadd, 1) := by decide +kernel
theorem dX12_does_104 : decode cX12_does 104 = .ok (.aload_n 0, 1) := by decide +kernel
theorem dX12_does_105 : decode cX12_does 105 = .ok (.getfield 13, 3) := by decide +kernel
theorem dX12_does_108 : decode cX12_does 108 = .ok (.bipush 41, 2) := by decide +kernel
theorem dX12_does_110 : decode cX12_does 110 = .ok (.bipush 14, 2) := by decide +kernel
theorem dX12_does_112 : decode cX12_does 112 = .ok (.iload_n 2, 1) := by decide +kernel
theorem dX12_does_113 : decode cX12_does 113 = .ok (.imul, 1) := by decide +kernel
theorem dX12_does_114 : decode cX12_does 114 = .ok (.iadd, 1) := by decide +kernel
theorem dX12_does_115 : decode cX12_does 115 = .ok (.iload_n 3, 1) := by decide +kernel
theorem dX12_does_116 : decode cX12_does 116 = .ok (.iadd, 1) := by decide +kernel
theorem dX12_does_117 : decode cX12_does 117 = .ok (.iaload, 1) := by decide +kernel
theorem dX12_does_118 : decode cX12_does 118 = .ok (.iconst (-1), 1) := by decide +kernel
theorem dX12_does_119 : decode cX12_does 119 = .ok (.if_icmp .ne 7, 3) := by decide +kernel
theorem dX12_does_122 : decode cX12_does 122 = .ok (.iconst 0, 1) := by decide +kernel
theorem dX12_does_123 : decode cX12_does 123 = .ok (.goto 4, 3) := by decide +kernel
theorem dX12_does_126 : decode cX12_does 126 = .ok (.iconst (-1), 1) := by decide +kernel
theorem dX12_does_127 : decode cX12_does 127 = .ok (.iastore, 1) := by decide +kernel
theorem dX12_does_128 : decode cX12_does 128 = .ok (.goto 31, 3) := by decide +kernel
theorem dX12_does_131 : decode cX12_does 131 = .ok (.aload_n 0, 1) := by decide +kernel
theorem dX12_does_132 : decode cX12_does 132 = .ok (.getfield 13, 3) := by decide +kernel
theorem dX12_does_135 : decode cX12_does 135 = .ok (.sipush 153, 3) := by decide +kernel
theorem dX12_does_138 : decode cX12_does 138 = .ok (.iload_n 2, 1) := by decide +kernel
theorem dX12_does_139 : decode cX12_does 139 = .ok (.iadd, 1) := by decide +kernel
theorem dX12_does_140 : decode cX12_does 140 = .ok (.iaload, 1) := by decide +kernel
theorem dX12_does_141 : decode cX12_does 141 = .ok (.iload_n 3, 1) := by decide +kernel
theorem dX12_does_142 : decode cX12_does 142 = .ok (.if_icmp .ne 11, 3) := by decide +kernel
theorem dX12_does_145 : decode cX12_does 145 = .ok (.aload_n 0, 1) := by decide +kernel
theorem dX12_does_146 : decode cX12_does 146 = .ok (.iload_n 2, 1) := by decide +kernel
theorem dX12_does_147 : decode cX12_does 147 = .ok (.invokevirtual 258, 3) := by decide +kernel
theorem dX12_does_150 : decode cX12_does 150 = .ok (.goto 9, 3) := by decide +kernel
theorem dX12_does_153 : decode cX12_does 153 = .ok (.aload_n 0, 1) := by decide +kernel
theorem dX12_does_154 : decode cX12_does 154 = .ok (.iload_n 2, 1) := by decide +kernel
theorem dX12_does_155 : decode cX12_does 155 = .ok (.iload_n 3, 1) := by decide +kernel
theorem dX12_does_156 : decode cX12_does 156 = .ok (.invokevirtual 261, 3) := by decide +kernel
theorem dX12_does_159 : decode cX12_does 159 = .ok (.return_, 1) := by decide +kernel
set_option maxRecDepth 100000 in
set_option maxHeartbeats 4000000 in
theorem v_X12_does_b38 {l : Launch} {p : Program} {e : Env} {s : State} {mt : MethodId} {args : Array Value} {below : List Frame} {meth : Method} {c : Code} {A : Nat → Prop} {ad0 : Nat → Nat} {G : Gt}  (C : Cx G p s mt args meth c RX12 cX12_does 5 none "does" A)  : ∀ (n : Nat) (y2 : Int32) (y3 : Int32) (y4 : Int32) (m : Mem), V G SM oV l p e s mt args below meth c 5 4 A ad0 17 17 RM 17 RM 38 [(0, .ref 0), (2, .int y2), (3, .int y3), (4, .int y4)] [] m (X12_does_b38  n y2 y3 y4 m) := by
  intro n
  induction n with
  | zero =>
    intro y2 y3 y4 m
    rw [X12_does_b38]
    exact V.nil
  | succ n ih =>
    intro y2 y3 y4 m
    rw [X12_does_b38]
    refine V.iload (pc := 38) C dX12_does_38 3 rfl ?_
    refine V.bipush (pc := 40) C dX12_does_40 (v := 14) (by decide) ?_
    refine V.icmp_ge (pc := 42) C dX12_does_42 81 (by decide) (fun _ => ?_) (fun _ => ?_)
    · refine V.goto (pc := 81) C dX12_does_81 159 (by decide) ?_
      exact V.vret C dX12_does_159
    · refine V.aload_n (pc := 45) C dX12_does_45 0 rfl ?_
      refine V.getr (pc := 46) C fl_RX12_13 sM0 kM0 rfl rM0_1 dX12_does_46 ?_
      refine V.bipush (pc := 49) C dX12_does_49 (v := 41) (by decide) ?_
      refine V.bipush (pc := 51) C dX12_does_51 (v := 14) (by decide) ?_
      refine V.iload_n (pc := 53) C dX12_does_53 1 rfl ?_
      refine V.imul (pc := 54) C dX12_does_54 ?_
      refine V.iadd (pc := 55) C dX12_does_55 ?_
      refine V.iload (pc := 56) C dX12_does_56 3 rfl ?_
      refine V.iadd (pc := 58) C dX12_does_58 ?_
      refine V.aload_n (pc := 59) C dX12_does_59 0 rfl ?_
      refine V.getr (pc := 60) C fl_RX12_13 sM0 kM0 rfl rM0_1 dX12_does_60 ?_
      refine V.bipush (pc := 63) C dX12_does_63 (v := 41) (by decide) ?_
      refine V.bipush (pc := 65) C dX12_does_65 (v := 14) (by decide) ?_
      refine V.iload_n (pc := 67) C dX12_does_67 2 rfl ?_
      refine V.imul (pc := 68) C dX12_does_68 ?_
      refine V.iadd (pc := 69) C dX12_does_69 ?_
      refine V.iload (pc := 70) C dX12_does_70 3 rfl ?_
      refine V.iadd (pc := 72) C dX12_does_72 ?_
      refine V.iald (pc := 73) C sM1 kM1 dX12_does_73 (fun _ => ?_)
      refine V.iast (pc := 74) C sM1 kM1 dX12_does_74 (fun _ => ?_)
      refine V.ltm (fun m_9 => ?_)
      refine V.iinc (pc := 75) C dX12_does_75 (v := 1) (L2 := [(4, .int (y4 + 1)), (0, .ref 0), (2, .int y2), (3, .int y3)]) 3 rfl (by decide) (by decide) rfl ?_
      refine V.goto (pc := 78) C dX12_does_78 38 (by decide) ?_
      refine V.wk [1, 2, 3, 0] rfl ?_
      exact ih y2 y3 (y4 + 1) m_9
set_option maxRecDepth 100000 in
set_option maxHeartbeats 4000000 in
theorem v_X12_does {l : Launch} {p : Program} {e : Env} {s : State} {mt : MethodId} {args : Array Value} {below : List Frame} {meth : Method} {c : Code} {A : Nat → Prop} {ad0 : Nat → Nat} {G : Gt}  (C : Cx G p s mt args meth c RX12 cX12_does 5 none "does" A)  (x1 : Int32) (m : Mem) : V G SM oV l p e s mt args below meth c 5 4 A ad0 17 17 RM 17 RM 0 [(0, .ref 0), (1, .int x1)] [] m (X12_does  x1 m) := by
  rw [X12_does]
  refine V.iload_n (pc := 0) C dX12_does_0 1 rfl ?_
  refine V.bipush (pc := 1) C dX12_does_1 (v := 100) (by decide) ?_
  refine V.idiv (pc := 3) C dX12_does_3 (by decide) ?_
  refine V.bipush (pc := 4) C dX12_does_4 (v := 10) (by decide) ?_
  refine V.irem (pc := 6) C dX12_does_6 (by decide) ?_
  refine V.lti (fun x_1 _ => ?_)
  refine V.istore_n (pc := 7) C dX12_does_7 (L2 := [(2, .int x_1), (0, .ref 0), (1, .int x1)]) (by decide) rfl ?_
  refine V.iload_n (pc := 8) C dX12_does_8 2 rfl ?_
  refine V.bipush (pc := 9) C dX12_does_9 (v := 100) (by decide) ?_
  refine V.irem (pc := 11) C dX12_does_11 (by decide) ?_
  refine V.lti (fun x_2 _ => ?_)
  refine V.istore_n (pc := 12) C dX12_does_12 (L2 := [(3, .int x_2), (2, .int x_1), (0, .ref 0), (1, .int x1)]) (by decide) rfl ?_
  refine V.iload_n (pc := 13) C dX12_does_13 3 rfl ?_
  refine V.iconst (pc := 14) C dX12_does_14 (v := (-1)) (by decide) ?_
  refine V.icmp_ne (pc := 15) C dX12_does_15 28 (by decide) (fun _ => ?_) (fun _ => ?_)
  · refine V.iload_n (pc := 28) C dX12_does_28 3 rfl ?_
    refine V.sipush (pc := 29) C dX12_does_29 (v := 2000) (by decide) ?_
    refine V.icmp_lt (pc := 32) C dX12_does_32 84 (by decide) (fun _ => ?_) (fun _ => ?_)
    · refine V.iload_n (pc := 84) C dX12_does_84 3 rfl ?_
      refine V.sipush (pc := 85) C dX12_does_85 (v := 1000) (by decide) ?_
      refine V.icmp_lt (pc := 88) C dX12_does_88 131 (by decide) (fun _ => ?_) (fun _ => ?_)
      · refine V.aload_n (pc := 131) C dX12_does_131 2 rfl ?_
        refine V.getr (pc := 132) C fl_RX12_13 sM0 kM0 rfl rM0_1 dX12_does_132 ?_
        refine V.sipush (pc := 135) C dX12_does_135 (v := 153) (by decide) ?_
        refine V.iload_n (pc := 138) C dX12_does_138 1 rfl ?_
        refine V.iadd (pc := 139) C dX12_does_139 ?_
        refine V.iald (pc := 140) C sM1 kM1 dX12_does_140 (fun _ => ?_)
        refine V.iload_n (pc := 141) C dX12_does_141 0 rfl ?_
        refine V.icmp_ne (pc := 142) C dX12_does_142 153 (by decide) (fun _ => ?_) (fun _ => ?_)
        · refine V.aload_n (pc := 153) C dX12_does_153 2 rfl ?_
          refine V.iload_n (pc := 154) C dX12_does_154 1 rfl ?_
          refine V.iload_n (pc := 155) C dX12_does_155 0 rfl ?_
          refine V.callV (pc := 156) (st := []) C (c_X12_weds l x_1 x_2 m) obV ck_X12_weds ml_RX12_261 rfl rfl sM0 kM0 rfl rfl (Nat.le_of_ble_eq_true rfl) ⟨by decide, by decide⟩ dX12_does_156 (fun r_3 m_4 _ => ?_)
          exact V.vret C dX12_does_159
        · refine V.aload_n (pc := 145) C dX12_does_145 2 rfl ?_
          refine V.iload_n (pc := 146) C dX12_does_146 1 rfl ?_
          refine V.callV (pc := 147) (st := []) C (c_X12_parts l x_1 m) obV ck_X12_parts ml_RX12_258 rfl rfl sM0 kM0 rfl rfl (Nat.le_of_ble_eq_true rfl) ⟨by decide, by decide⟩ dX12_does_147 (fun r_5 m_6 _ => ?_)
          refine V.goto (pc := 150) C dX12_does_150 159 (by decide) ?_
          exact V.vret C dX12_does_159
      · refine V.aload_n (pc := 91) C dX12_does_91 2 rfl ?_
        refine V.getr (pc := 92) C fl_RX12_13 sM0 kM0 rfl rM0_1 dX12_does_92 ?_
        refine V.bipush (pc := 95) C dX12_does_95 (v := 41) (by decide) ?_
        refine V.bipush (pc := 97) C dX12_does_97 (v := 14) (by decide) ?_
        refine V.iload_n (pc := 99) C dX12_does_99 1 rfl ?_
        refine V.imul (pc := 100) C dX12_does_100 ?_
        refine V.iadd (pc := 101) C dX12_does_101 ?_
        refine V.iload_n (pc := 102) C dX12_does_102 0 rfl ?_
        refine V.iadd (pc := 103) C dX12_does_103 ?_
        refine V.aload_n (pc := 104) C dX12_does_104 2 rfl ?_
        refine V.getr (pc := 105) C fl_RX12_13 sM0 kM0 rfl rM0_1 dX12_does_105 ?_
        refine V.bipush (pc := 108) C dX12_does_108 (v := 41) (by decide) ?_
        refine V.bipush (pc := 110) C dX12_does_110 (v := 14) (by decide) ?_
        refine V.iload_n (pc := 112) C dX12_does_112 1 rfl ?_
        refine V.imul (pc := 113) C dX12_does_113 ?_
        refine V.iadd (pc := 114) C dX12_does_114 ?_
        refine V.iload_n (pc := 115) C dX12_does_115 0 rfl ?_
        refine V.iadd (pc := 116) C dX12_does_116 ?_
        refine V.iald (pc := 117) C sM1 kM1 dX12_does_117 (fun _ => ?_)
        refine V.iconst (pc := 118) C dX12_does_118 (v := (-1)) (by decide) ?_
        refine V.icmp_ne (pc := 119) C dX12_does_119 126 (by decide) (fun _ => ?_) (fun _ => ?_)
        · refine V.iconst (pc := 126) C dX12_does_126 (v := (-1)) (by decide) ?_
          refine V.iast (pc := 127) C sM1 kM1 dX12_does_127 (fun _ => ?_)
          refine V.ltm (fun m_7 => ?_)
          refine V.goto (pc := 128) C dX12_does_128 159 (by decide) ?_
          exact V.vret C dX12_does_159
        · refine V.iconst (pc := 122) C dX12_does_122 (v := 0) (by decide) ?_
          refine V.goto (pc := 123) C dX12_does_123 127 (by decide) ?_
          refine V.iast (pc := 127) C sM1 kM1 dX12_does_127 (fun _ => ?_)
          refine V.ltm (fun m_8 => ?_)
          refine V.goto (pc := 128) C dX12_does_128 159 (by decide) ?_
          exact V.vret C dX12_does_159
    · refine V.iconst (pc := 35) C dX12_does_35 (v := 0) (by decide) ?_
      refine V.istore (pc := 36) C dX12_does_36 (L2 := [(4, .int 0), (3, .int x_2), (2, .int x_1), (0, .ref 0), (1, .int x1)]) (by decide) rfl ?_
      refine V.wk [3, 2, 1, 0] rfl ?_
      exact v_X12_does_b38 C  FU x_1 x_2 0 m
  · refine V.aload_n (pc := 18) C dX12_does_18 2 rfl ?_
    refine V.iconst (pc := 19) C dX12_does_19 (v := (-1)) (by decide) ?_
    refine V.iconst (pc := 20) C dX12_does_20 (v := (-1)) (by decide) ?_
    refine V.callV (pc := 21) (st := []) C (c_X12_year l (-1) (-1) m) obI ck_X12_year ml_RX12_255 rfl rfl sM0 kM0 rfl rfl (Nat.le_of_ble_eq_true rfl) ⟨by decide, by decide⟩ dX12_does_21 (fun r_10 m_11 _ => ?_)
    refine V.pop (pc := 24) C dX12_does_24 rfl ?_
    refine V.goto (pc := 25) C dX12_does_25 159 (by decide) ?_
    exact V.vret C dX12_does_159
theorem c_X12_does (l : Launch)   (x1 : Int32) (m : Mem) : Ct l yX12_does cX12_does 5 none 4 SM oV 17 17 RM RM [.ref 0, .int x1] m (X12_does  x1 m) :=
  Ct.of (own := RX12) (nm := "does") (by decide) rfl rfl (Nat.le_of_ble_eq_true rfl) (fun _ _ _ _ _ _ _ _ _ _ _ C => v_X12_does C  x1 m)
