theorem dJ0_isLatin1_aae02_0 : decode cJ0_isLatin1_aae02 0 = .ok (.getstatic 38, 3) := by decide +kernel
theorem dJ0_isLatin1_aae02_3 : decode cJ0_isLatin1_aae02 3 = .ok (.ifCond .eq 14, 3) := by decide +kernel
theorem dJ0_isLatin1_aae02_6 : decode cJ0_isLatin1_aae02 6 = .ok (.aload_n 0, 1) := by decide +kernel
theorem dJ0_isLatin1_aae02_7 : decode cJ0_isLatin1_aae02 7 = .ok (.getfield 15, 3) := by decide +kernel
theorem dJ0_isLatin1_aae02_10 : decode cJ0_isLatin1_aae02 10 = .ok (.ifCond .ne 7, 3) := by decide +kernel
theorem dJ0_isLatin1_aae02_13 : decode cJ0_isLatin1_aae02 13 = .ok (.iconst 1, 1) := by decide +kernel
theorem dJ0_isLatin1_aae02_14 : decode cJ0_isLatin1_aae02 14 = .ok (.goto 4, 3) := by decide +kernel
theorem dJ0_isLatin1_aae02_17 : decode cJ0_isLatin1_aae02 17 = .ok (.iconst 0, 1) := by decide +kernel
theorem dJ0_isLatin1_aae02_18 : decode cJ0_isLatin1_aae02 18 = .ok (.ireturn, 1) := by decide +kernel
set_option maxRecDepth 100000 in
set_option maxHeartbeats 4000000 in
theorem v_J0_isLatin1_aae02 {l : Launch} {p : Program} {e : Env} {s : State} {mt : MethodId} {args : Array Value} {below : List Frame} {meth : Method} {c : Code} {A : Nat → Prop} {ad0 : Nat → Nat} {G : Gt} {S : Nat → Sh} {N : Nat} {R : Rf} (C : Cx G p s mt args meth c RJ0 cJ0_isLatin1_aae02 1 (some .boolean) "isLatin1" A) (k0 : Nat) (hk0 : k0 < 22) (m : Mem) : V G S oI l p e s mt args below meth c 1 1 A ad0 N N R N R 0 [(0, .retAddr k0)] [] m (J0_isLatin1_aae02 k0  m) := by
  rw [J0_isLatin1_aae02]
  refine V.scmp (pc := 0) C sf_RJ0_38 dJ0_isLatin1_aae02_0 ?_
  refine V.if_eq (pc := 3) C dJ0_isLatin1_aae02_3 17 (by decide) (fun _ => ?_) (fun _ => ?_)
  · refine V.iconst (pc := 17) C dJ0_isLatin1_aae02_17 (v := 0) (by decide) ?_
    exact V.zret rfl C dJ0_isLatin1_aae02_18
  · refine V.sload_n (pc := 6) C dJ0_isLatin1_aae02_6 0 rfl ?_
    refine V.scod (pc := 7) C hk0 sf_RJ0_15 dJ0_isLatin1_aae02_7 ?_
    refine V.if_ne (pc := 10) C dJ0_isLatin1_aae02_10 17 (by decide) (fun _ => ?_) (fun _ => ?_)
    · refine V.iconst (pc := 17) C dJ0_isLatin1_aae02_17 (v := 0) (by decide) ?_
      exact V.zret rfl C dJ0_isLatin1_aae02_18
    · refine V.iconst (pc := 13) C dJ0_isLatin1_aae02_13 (v := 1) (by decide) ?_
      refine V.goto (pc := 14) C dJ0_isLatin1_aae02_14 18 (by decide) ?_
      exact V.zret rfl C dJ0_isLatin1_aae02_18
theorem c_J0_isLatin1_aae02 (l : Launch) {S : Nat → Sh} {N : Nat} {R : Rf} (k0 : Nat) (hk0 : k0 < 22) (m : Mem) : Ct l yJ0_isLatin1_aae02 cJ0_isLatin1_aae02 1 (some .boolean) 1 S oI N N R R [.retAddr k0] m (J0_isLatin1_aae02 k0  m) :=
  Ct.of (own := RJ0) (nm := "isLatin1") (by decide) rfl rfl (Nat.le_of_ble_eq_true rfl) (fun _ _ _ _ _ _ _ _ _ _ _ C => v_J0_isLatin1_aae02 C k0 hk0  m)
theorem dJ3_checkIndex_8e157_0 : decode cJ3_checkIndex_8e157 0 = .ok (.iload_n 0, 1) := by decide +kernel
theorem dJ3_checkIndex_8e157_1 : decode cJ3_checkIndex_8e157 1 = .ok (.ifCond .lt 8, 3) := by decide +kernel
theorem dJ3_checkIndex_8e157_4 : decode cJ3_checkIndex_8e157 4 = .ok (.iload_n 0, 1) := by decide +kernel
theorem dJ3_checkIndex_8e157_5 : decode cJ3_checkIndex_8e157 5 = .ok (.iload_n 1, 1) := by decide +kernel
theorem dJ3_checkIndex_8e157_6 : decode cJ3_checkIndex_8e157 6 = .ok (.if_icmp .lt 10, 3) := by decide +kernel
theorem dJ3_checkIndex_8e157_9 : decode cJ3_checkIndex_8e157 9 = .ok (.aload_n 2, 1) := by decide +kernel
theorem dJ3_checkIndex_8e157_10 : decode cJ3_checkIndex_8e157 10 = .ok (.iload_n 0, 1) := by decide +kernel
theorem dJ3_checkIndex_8e157_11 : decode cJ3_checkIndex_8e157 11 = .ok (.iload_n 1, 1) := by decide +kernel
theorem dJ3_checkIndex_8e157_12 : decode cJ3_checkIndex_8e157 12 = .ok (.invokestatic 95, 3) := by decide +kernel
theorem dJ3_checkIndex_8e157_15 : decode cJ3_checkIndex_8e157 15 = .ok (.athrow, 1) := by decide +kernel
theorem dJ3_checkIndex_8e157_16 : decode cJ3_checkIndex_8e157 16 = .ok (.iload_n 0, 1) := by decide +kernel
theorem dJ3_checkIndex_8e157_17 : decode cJ3_checkIndex_8e157 17 = .ok (.ireturn, 1) := by decide +kernel
set_option maxRecDepth 100000 in
set_option maxHeartbeats 4000000 in
theorem v_J3_checkIndex_8e157 {l : Launch} {p : Program} {e : Env} {s : State} {mt : MethodId} {args : Array Value} {below : List Frame} {meth : Method} {c : Code} {A : Nat → Prop} {ad0 : Nat → Nat} {G : Gt} {S : Nat → Sh} {N : Nat} {R : Rf} (C : Cx G p s mt args meth c RJ3 cJ3_checkIndex_8e157 3 (some .int) "checkIndex" A) (v3 : Value) (hv3 : v3.category = 1) (x1 : Int32) (x2 : Int32) (m : Mem) : V G S oI l p e s mt args below meth c 3 1 A ad0 N N R N R 0 [(0, .int x1), (1, .int x2), (2, v3)] [] m (J3_checkIndex_8e157  x1 x2 m) := by
  rw [J3_checkIndex_8e157]
  refine V.iload_n (pc := 0) C dJ3_checkIndex_8e157_0 0 rfl ?_
  refine V.if_lt (pc := 1) C dJ3_checkIndex_8e157_1 9 (by decide) (fun _ => ?_) (fun _ => ?_)
  · exact V.nil
  · refine V.iload_n (pc := 4) C dJ3_checkIndex_8e157_4 0 rfl ?_
    refine V.iload_n (pc := 5) C dJ3_checkIndex_8e157_5 1 rfl ?_
    refine V.icmp_lt (pc := 6) C dJ3_checkIndex_8e157_6 16 (by decide) (fun _ => ?_) (fun _ => ?_)
    · refine V.iload_n (pc := 16) C dJ3_checkIndex_8e157_16 0 rfl ?_
      exact V.iret C dJ3_checkIndex_8e157_17
    · exact V.nil
theorem c_J3_checkIndex_8e157 (l : Launch) {S : Nat → Sh} {N : Nat} {R : Rf} (v3 : Value) (hv3 : v3.category = 1) (x1 : Int32) (x2 : Int32) (m : Mem) : Ct l yJ3_checkIndex_8e157 cJ3_checkIndex_8e157 3 (some .int) 1 S oI N N R R [.int x1, .int x2, v3] m (J3_checkIndex_8e157  x1 x2 m) :=
  Ct.of (own := RJ3) (nm := "checkIndex") (by decide) rfl rfl (by simp [lg_sl, hv3, show ∀ x : Int32, (Value.int x).category = 1 from fun _ => rfl]) (fun _ _ _ _ _ _ _ _ _ _ _ C => v_J3_checkIndex_8e157 C v3 hv3 x1 x2 m)
theorem dJ0_checkIndex_df160_0 : decode cJ0_checkIndex_df160 0 = .ok (.iload_n 0, 1) := by decide +kernel
theorem dJ0_checkIndex_df160_1 : decode cJ0_checkIndex_df160 1 = .ok (.iload_n 1, 1) := by decide +kernel
theorem dJ0_checkIndex_df160_2 : decode cJ0_checkIndex_df160 2 = .ok (.getstatic 1053, 3) := by decide +kernel
theorem dJ0_checkIndex_df160_5 : decode cJ0_checkIndex_df160 5 = .ok (.invokestatic 1059, 3) := by decide +kernel
theorem dJ0_checkIndex_df160_8 : decode cJ0_checkIndex_df160 8 = .ok (.pop, 1) := by decide +kernel
theorem dJ0_checkIndex_df160_9 : decode cJ0_checkIndex_df160 9 = .ok (.return_, 1) := by decide +kernel
set_option maxRecDepth 100000 in
set_option maxHeartbeats 4000000 in
theorem v_J0_checkIndex_df160 {l : Launch} {p : Program} {e : Env} {s : State} {mt : MethodId} {args : Array Value} {below : List Frame} {meth : Method} {c : Code} {A : Nat → Prop} {ad0 : Nat → Nat} {G : Gt} {S : Nat → Sh} {N : Nat} {R : Rf} (C : Cx G p s mt args meth c RJ0 cJ0_checkIndex_df160 2 none "checkIndex" A)  (x1 : Int32) (x2 : Int32) (m : Mem) : V G S oV l p e s mt args below meth c 2 2 A ad0 N N R N R 0 [(0, .int x1), (1, .int x2)] [] m (J0_checkIndex_df160  x1 x2 m) := by
  rw [J0_checkIndex_df160]
  refine V.iload_n (pc := 0) C dJ0_checkIndex_df160_0 0 rfl ?_
  refine V.iload_n (pc := 1) C dJ0_checkIndex_df160_1 1 rfl ?_
  refine V.sfmt (pc := 2) C sf_RJ0_1053 dJ0_checkIndex_df160_2 (fun v_1 hv_1 => ?_)
  refine V.callS (pc := 5) (st := []) C (c_J3_checkIndex_8e157 l v_1 hv_1 x1 x2 m) obI ck_J3_checkIndex_8e157 ml_RJ0_1059 rfl rfl (Nat.le_of_ble_eq_true rfl) ⟨by decide, by decide⟩ dJ0_checkIndex_df160_5 (fun r_2 m_3 _ => ?_)
  refine V.pop (pc := 8) C dJ0_checkIndex_df160_8 rfl ?_
  exact V.vret C dJ0_checkIndex_df160_9
theorem c_J0_checkIndex_df160 (l : Launch) {S : Nat → Sh} {N : Nat} {R : Rf}  (x1 : Int32) (x2 : Int32) (m : Mem) : Ct l yJ0_checkIndex_df160 cJ0_checkIndex_df160 2 none 2 S oV N N R R [.int x1, .int x2] m (J0_checkIndex_df160  x1 x2 m) :=
  Ct.of (own := RJ0) (nm := "checkIndex") (by decide) rfl rfl (Nat.le_of_ble_eq_true rfl) (fun _ _ _ _ _ _ _ _ _ _ _ C => v_J0_checkIndex_df160 C  x1 x2 m)
theorem dJ1_charAt_3b067_0 : decode cJ1_charAt_3b067 0 = .ok (.iload_n 1, 1) := by decide +kernel
theorem dJ1_charAt_3b067_1 : decode cJ1_charAt_3b067 1 = .ok (.aload_n 0, 1) := by decide +kernel
theorem dJ1_charAt_3b067_2 : decode cJ1_charAt_3b067 2 = .ok (.arraylength, 1) := by decide +kernel
theorem dJ1_charAt_3b067_3 : decode cJ1_charAt_3b067 3 = .ok (.invokestatic 9, 3) := by decide +kernel
theorem dJ1_charAt_3b067_6 : decode cJ1_charAt_3b067 6 = .ok (.aload_n 0, 1) := by decide +kernel
theorem dJ1_charAt_3b067_7 : decode cJ1_charAt_3b067 7 = .ok (.iload_n 1, 1) := by decide +kernel
theorem dJ1_charAt_3b067_8 : decode cJ1_charAt_3b067 8 = .ok (.baload, 1) := by decide +kernel
theorem dJ1_charAt_3b067_9 : decode cJ1_charAt_3b067 9 = .ok (.sipush 255, 3) := by decide +kernel
theorem dJ1_charAt_3b067_12 : decode cJ1_charAt_3b067 12 = .ok (.iand, 1) := by decide +kernel
theorem dJ1_charAt_3b067_13 : decode cJ1_charAt_3b067 13 = .ok (.i2c, 1) := by decide +kernel
theorem dJ1_charAt_3b067_14 : decode cJ1_charAt_3b067 14 = .ok (.ireturn, 1) := by decide +kernel
set_option maxRecDepth 100000 in
set_option maxHeartbeats 4000000 in
theorem v_J1_charAt_3b067 {l : Launch} {p : Program} {e : Env} {s : State} {mt : MethodId} {args : Array Value} {below : List Frame} {meth : Method} {c : Code} {A : Nat → Prop} {ad0 : Nat → Nat} {G : Gt} {S : Nat → Sh} {N : Nat} {R : Rf} (C : Cx G p s mt args meth c RJ1 cJ1_charAt_3b067 2 (some .char) "charAt" A) (k1 : Nat) (hk1 : k1 < 22) (x2 : Int32) (m : Mem) : V G S oI l p e s mt args below meth c 2 3 A ad0 N N R N R 0 [(0, .retAddr (k1 + 1000)), (1, .int x2)] [] m (J1_charAt_3b067 k1 x2 m) := by
  rw [J1_charAt_3b067]
  refine V.iload_n (pc := 0) C dJ1_charAt_3b067_0 1 rfl ?_
  refine V.sload_n (pc := 1) C dJ1_charAt_3b067_1 0 rfl ?_
  refine V.slen (pc := 2) C hk1 dJ1_charAt_3b067_2 ?_
  refine V.callS (pc := 3) (st := []) C (c_J0_checkIndex_df160 l x2 (nI (strL.getD k1 0)) m) obV ck_J0_checkIndex_df160 ml_RJ1_9 rfl rfl (Nat.le_of_ble_eq_true rfl) ⟨by decide, by decide⟩ dJ1_charAt_3b067_3 (fun r_1 m_2 _ => ?_)
  refine V.sload_n (pc := 6) C dJ1_charAt_3b067_6 0 rfl ?_
  refine V.iload_n (pc := 7) C dJ1_charAt_3b067_7 1 rfl ?_
  refine V.sbald (pc := 8) C hk1 dJ1_charAt_3b067_8 (fun _ => ?_)
  refine V.sipush (pc := 9) C dJ1_charAt_3b067_9 (v := 255) (by decide) ?_
  refine V.iand (pc := 12) C dJ1_charAt_3b067_12 ?_
  refine V.i2c (pc := 13) C dJ1_charAt_3b067_13 ?_
  exact V.cret C dJ1_charAt_3b067_14
theorem c_J1_charAt_3b067 (l : Launch) {S : Nat → Sh} {N : Nat} {R : Rf} (k1 : Nat) (hk1 : k1 < 22) (x2 : Int32) (m : Mem) : Ct l yJ1_charAt_3b067 cJ1_charAt_3b067 2 (some .char) 3 S oI N N R R [.retAddr (k1 + 1000), .int x2] m (J1_charAt_3b067 k1 x2 m) :=
  Ct.of (own := RJ1) (nm := "charAt") (by decide) rfl rfl (Nat.le_of_ble_eq_true rfl) (fun _ _ _ _ _ _ _ _ _ _ _ C => v_J1_charAt_3b067 C k1 hk1 x2 m)
theorem dJ0_charAt_5068e_0 : decode cJ0_charAt_5068e 0 = .ok (.aload_n 0, 1) := by decide +kernel
theorem dJ0_charAt_5068e_1 : decode cJ0_charAt_5068e 1 = .ok (.invokevirtual 492, 3) := by decide +kernel
theorem dJ0_charAt_5068e_4 : decode cJ0_charAt_5068e 4 = .ok (.ifCond .eq 12, 3) := by decide +kernel
theorem dJ0_charAt_5068e_7 : decode cJ0_charAt_5068e 7 = .ok (.aload_n 0, 1) := by decide +kernel
theorem dJ0_charAt_5068e_8 : decode cJ0_charAt_5068e 8 = .ok (.getfield 9, 3) := by decide +kernel
theorem dJ0_charAt_5068e_11 : decode cJ0_charAt_5068e 11 = .ok (.iload_n 1, 1) := by decide +kernel
theorem dJ0_charAt_5068e_12 : decode cJ0_charAt_5068e 12 = .ok (.invokestatic 495, 3) := by decide +kernel
theorem dJ0_charAt_5068e_15 : decode cJ0_charAt_5068e 15 = .ok (.ireturn, 1) := by decide +kernel
theorem dJ0_charAt_5068e_16 : decode cJ0_charAt_5068e 16 = .ok (.aload_n 0, 1) := by decide +kernel
theorem dJ0_charAt_5068e_17 : decode cJ0_charAt_5068e 17 = .ok (.getfield 9, 3) := by decide +kernel
theorem dJ0_charAt_5068e_20 : decode cJ0_charAt_5068e 20 = .ok (.iload_n 1, 1) := by decide +kernel
theorem dJ0_charAt_5068e_21 : decode cJ0_charAt_5068e 21 = .ok (.invokestatic 498, 3) := by decide +kernel
theorem dJ0_charAt_5068e_24 : decode cJ0_charAt_5068e 24 = .ok (.ireturn, 1) := by decide +kernel
set_option maxRecDepth 100000 in
set_option maxHeartbeats 4000000 in
theorem v_J0_charAt_5068e {l : Launch} {p : Program} {e : Env} {s : State} {mt : MethodId} {args : Array Value} {below : List Frame} {meth : Method} {c : Code} {A : Nat → Prop} {ad0 : Nat → Nat} {G : Gt} {S : Nat → Sh} {N : Nat} {R : Rf} (C : Cx G p s mt args meth c RJ0 cJ0_charAt_5068e 2 (some .char) "charAt" A) (k0 : Nat) (hk0 : k0 < 22) (x1 : Int32) (m : Mem) : V G S oI l p e s mt args below meth c 2 4 A ad0 N N R N R 0 [(0, .retAddr k0), (1, .int x1)] [] m (J0_charAt_5068e k0 x1 m) := by
  rw [J0_charAt_5068e]
  refine V.sload_n (pc := 0) C dJ0_charAt_5068e_0 0 rfl ?_
  refine V.callT (pc := 1) (st := []) C (c_J0_isLatin1_aae02 l k0 hk0 m) obI ck_J0_isLatin1_aae02 ml_RJ0_492 rfl hk0 rfl rfl (Nat.le_of_ble_eq_true rfl) ⟨by decide, by decide⟩ dJ0_charAt_5068e_1 (fun r_1 m_2 _ => ?_)
  refine V.if_eq (pc := 4) C dJ0_charAt_5068e_4 16 (by decide) (fun _ => ?_) (fun _ => ?_)
  · exact V.nil
  · refine V.sload_n (pc := 7) C dJ0_charAt_5068e_7 0 rfl ?_
    refine V.sval (pc := 8) C hk0 sf_RJ0_9 dJ0_charAt_5068e_8 ?_
    refine V.iload_n (pc := 11) C dJ0_charAt_5068e_11 1 rfl ?_
    refine V.callS (pc := 12) (st := []) C (c_J1_charAt_3b067 l k0 hk0 x1 m_2) obI ck_J1_charAt_3b067 ml_RJ0_495 rfl rfl (Nat.le_of_ble_eq_true rfl) ⟨by decide, by decide⟩ dJ0_charAt_5068e_12 (fun r_3 m_4 _ => ?_)
    exact V.cret C dJ0_charAt_5068e_15
theorem c_J0_charAt_5068e (l : Launch) {S : Nat → Sh} {N : Nat} {R : Rf} (k0 : Nat) (hk0 : k0 < 22) (x1 : Int32) (m : Mem) : Ct l yJ0_charAt_5068e cJ0_charAt_5068e 2 (some .char) 4 S oI N N R R [.retAddr k0, .int x1] m (J0_charAt_5068e k0 x1 m) :=
  Ct.of (own := RJ0) (nm := "charAt") (by decide) rfl rfl (Nat.le_of_ble_eq_true rfl) (fun _ _ _ _ _ _ _ _ _ _ _ C => v_J0_charAt_5068e C k0 hk0 x1 m)
theorem dJ0_coder_7d493_0 : decode cJ0_coder_7d493 0 = .ok (.getstatic 38, 3) := by decide +kernel
theorem dJ0_coder_7d493_3 : decode cJ0_coder_7d493 3 = .ok (.ifCond .eq 10, 3) := by decide +kernel
theorem dJ0_coder_7d493_6 : decode cJ0_coder_7d493 6 = .ok (.aload_n 0, 1) := by decide +kernel
theorem dJ0_coder_7d493_7 : decode cJ0_coder_7d493 7 = .ok (.getfield 15, 3) := by decide +kernel
theorem dJ0_coder_7d493_10 : decode cJ0_coder_7d493 10 = .ok (.goto 4, 3) := by decide +kernel
theorem dJ0_coder_7d493_13 : decode cJ0_coder_7d493 13 = .ok (.iconst 1, 1) := by decide +kernel
theorem dJ0_coder_7d493_14 : decode cJ0_coder_7d493 14 = .ok (.ireturn, 1) := by decide +kernel
set_option maxRecDepth 100000 in
set_option maxHeartbeats 4000000 in
theorem v_J0_coder_7d493 {l : Launch} {p : Program} {e : Env} {s : State} {mt : MethodId} {args : Array Value} {below : List Frame} {meth : Method} {c : Code} {A : Nat → Prop} {ad0 : Nat → Nat} {G : Gt} {S : Nat → Sh} {N : Nat} {R : Rf} (C : Cx G p s mt args meth c RJ0 cJ0_coder_7d493 1 (some .byte) "coder" A) (k0 : Nat) (hk0 : k0 < 22) (m : Mem) : V G S oI l p e s mt args below meth c 1 1 A ad0 N N R N R 0 [(0, .retAddr k0)] [] m (J0_coder_7d493 k0  m) := by
  rw [J0_coder_7d493]
  refine V.scmp (pc := 0) C sf_RJ0_38 dJ0_coder_7d493_0 ?_
  refine V.if_eq (pc := 3) C dJ0_coder_7d493_3 13 (by decide) (fun _ => ?_) (fun _ => ?_)
  · refine V.iconst (pc := 13) C dJ0_coder_7d493_13 (v := 1) (by decide) ?_
    exact V.zret rfl C dJ0_coder_7d493_14
  · refine V.sload_n (pc := 6) C dJ0_coder_7d493_6 0 rfl ?_
    refine V.scod (pc := 7) C hk0 sf_RJ0_15 dJ0_coder_7d493_7 ?_
    refine V.goto (pc := 10) C dJ0_coder_7d493_10 14 (by decide) ?_
    exact V.zret rfl C dJ0_coder_7d493_14
theorem c_J0_coder_7d493 (l : Launch) {S : Nat → Sh} {N : Nat} {R : Rf} (k0 : Nat) (hk0 : k0 < 22) (m : Mem) : Ct l yJ0_coder_7d493 cJ0_coder_7d493 1 (some .byte) 1 S oI N N R R [.retAddr k0] m (J0_coder_7d493 k0  m) :=
  Ct.of (own := RJ0) (nm := "coder") (by decide) rfl rfl (Nat.le_of_ble_eq_true rfl) (fun _ _ _ _ _ _ _ _ _ _ _ C => v_J0_coder_7d493 C k0 hk0  m)
theorem dJ0_length_8abf5_0 : decode cJ0_length_8abf5 0 = .ok (.aload_n 0, 1) := by decide +kernel
theorem dJ0_length_8abf5_1 : decode cJ0_length_8abf5 1 = .ok (.getfield 9, 3) := by decide +kernel
theorem dJ0_length_8abf5_4 : decode cJ0_length_8abf5 4 = .ok (.arraylength, 1) := by decide +kernel
theorem dJ0_length_8abf5_5 : decode cJ0_length_8abf5 5 = .ok (.aload_n 0, 1) := by decide +kernel
theorem dJ0_length_8abf5_6 : decode cJ0_length_8abf5 6 = .ok (.invokevirtual 335, 3) := by decide +kernel
theorem dJ0_length_8abf5_9 : decode cJ0_length_8abf5 9 = .ok (.ishr, 1) := by decide +kernel
theorem dJ0_length_8abf5_10 : decode cJ0_length_8abf5 10 = .ok (.ireturn, 1) := by decide +kernel
set_option maxRecDepth 100000 in
set_option maxHeartbeats 4000000 in
theorem v_J0_length_8abf5 {l : Launch} {p : Program} {e : Env} {s : State} {mt : MethodId} {args : Array Value} {below : List Frame} {meth : Method} {c : Code} {A : Nat → Prop} {ad0 : Nat → Nat} {G : Gt} {S : Nat → Sh} {N : Nat} {R : Rf} (C : Cx G p s mt args meth c RJ0 cJ0_length_8abf5 1 (some .int) "length" A) (k0 : Nat) (hk0 : k0 < 22) (m : Mem) : V G S oI l p e s mt args below meth c 1 2 A ad0 N N R N R 0 [(0, .retAddr k0)] [] m (J0_length_8abf5 k0  m) := by
  rw [J0_length_8abf5]
  refine V.sload_n (pc := 0) C dJ0_length_8abf5_0 0 rfl ?_
  refine V.sval (pc := 1) C hk0 sf_RJ0_9 dJ0_length_8abf5_1 ?_
  refine V.slen (pc := 4) C hk0 dJ0_length_8abf5_4 ?_
  refine V.sload_n (pc := 5) C dJ0_length_8abf5_5 0 rfl ?_
  refine V.callT (pc := 6) (st := [.int (nI (strL.getD k0 0))]) C (c_J0_coder_7d493 l k0 hk0 m) obI ck_J0_coder_7d493 ml_RJ0_335 rfl hk0 rfl rfl (Nat.le_of_ble_eq_true rfl) ⟨by decide, by decide⟩ dJ0_length_8abf5_6 (fun r_1 m_2 _ => ?_)
  refine V.ishr (pc := 9) C dJ0_length_8abf5_9 ?_
  exact V.iret C dJ0_length_8abf5_10
theorem c_J0_length_8abf5 (l : Launch) {S : Nat → Sh} {N : Nat} {R : Rf} (k0 : Nat) (hk0 : k0 < 22) (m : Mem) : Ct l yJ0_length_8abf5 cJ0_length_8abf5 1 (some .int) 2 S oI N N R R [.retAddr k0] m (J0_length_8abf5 k0  m) :=
  Ct.of (own := RJ0) (nm := "length") (by decide) rfl rfl (Nat.le_of_ble_eq_true rfl) (fun _ _ _ _ _ _ _ _ _ _ _ C => v_J0_length_8abf5 C k0 hk0  m)
theorem dJ1_canEncode_9a6ad_0 : decode cJ1_canEncode_9a6ad 0 = .ok (.iload_n 0, 1) := by decide +kernel
theorem dJ1_canEncode_9a6ad_1 : decode cJ1_canEncode_9a6ad 1 = .ok (.ifCond .lt 14, 3) := by decide +kernel
theorem dJ1_canEncode_9a6ad_4 : decode cJ1_canEncode_9a6ad 4 = .ok (.iload_n 0, 1) := by decide +kernel
theorem dJ1_canEncode_9a6ad_5 : decode cJ1_canEncode_9a6ad 5 = .ok (.sipush 255, 3) := by decide +kernel
theorem dJ1_canEncode_9a6ad_8 : decode cJ1_canEncode_9a6ad 8 = .ok (.if_icmp .gt 7, 3) := by decide +kernel
theorem dJ1_canEncode_9a6ad_11 : decode cJ1_canEncode_9a6ad 11 = .ok (.iconst 1, 1) := by decide +kernel
theorem dJ1_canEncode_9a6ad_12 : decode cJ1_canEncode_9a6ad 12 = .ok (.goto 4, 3) := by decide +kernel
theorem dJ1_canEncode_9a6ad_15 : decode cJ1_canEncode_9a6ad 15 = .ok (.iconst 0, 1) := by decide +kernel
theorem dJ1_canEncode_9a6ad_16 : decode cJ1_canEncode_9a6ad 16 = .ok (.ireturn, 1) := by decide +kernel
set_option maxRecDepth 100000 in
set_option maxHeartbeats 4000000 in
theorem v_J1_canEncode_9a6ad {l : Launch} {p : Program} {e : Env} {s : State} {mt : MethodId} {args : Array Value} {below : List Frame} {meth : Method} {c : Code} {A : Nat → Prop} {ad0 : Nat → Nat} {G : Gt} {S : Nat → Sh} {N : Nat} {R : Rf} (C : Cx G p s mt args meth c RJ1 cJ1_canEncode_9a6ad 1 (some .boolean) "canEncode" A)  (x1 : Int32) (m : Mem) : V G S oI l p e s mt args below meth c 1 1 A ad0 N N R N R 0 [(0, .int x1)] [] m (J1_canEncode_9a6ad  x1 m) := by
  rw [J1_canEncode_9a6ad]
  refine V.iload_n (pc := 0) C dJ1_canEncode_9a6ad_0 0 rfl ?_
  refine V.if_lt (pc := 1) C dJ1_canEncode_9a6ad_1 15 (by decide) (fun _ => ?_) (fun _ => ?_)
  · refine V.iconst (pc := 15) C dJ1_canEncode_9a6ad_15 (v := 0) (by decide) ?_
    exact V.zret rfl C dJ1_canEncode_9a6ad_16
  · refine V.iload_n (pc := 4) C dJ1_canEncode_9a6ad_4 0 rfl ?_
    refine V.sipush (pc := 5) C dJ1_canEncode_9a6ad_5 (v := 255) (by decide) ?_
    refine V.icmp_gt (pc := 8) C dJ1_canEncode_9a6ad_8 15 (by decide) (fun _ => ?_) (fun _ => ?_)
    · refine V.iconst (pc := 15) C dJ1_canEncode_9a6ad_15 (v := 0) (by decide) ?_
      exact V.zret rfl C dJ1_canEncode_9a6ad_16
    · refine V.iconst (pc := 11) C dJ1_canEncode_9a6ad_11 (v := 1) (by decide) ?_
      refine V.goto (pc := 12) C dJ1_canEncode_9a6ad_12 16 (by decide) ?_
      exact V.zret rfl C dJ1_canEncode_9a6ad_16
theorem c_J1_canEncode_9a6ad (l : Launch) {S : Nat → Sh} {N : Nat} {R : Rf}  (x1 : Int32) (m : Mem) : Ct l yJ1_canEncode_9a6ad cJ1_canEncode_9a6ad 1 (some .boolean) 1 S oI N N R R [.int x1] m (J1_canEncode_9a6ad  x1 m) :=
  Ct.of (own := RJ1) (nm := "canEncode") (by decide) rfl rfl (Nat.le_of_ble_eq_true rfl) (fun _ _ _ _ _ _ _ _ _ _ _ C => v_J1_canEncode_9a6ad C  x1 m)
theorem dJ1_indexOfChar_4cfef_0 : decode cJ1_indexOfChar_4cfef 0 = .ok (.iload_n 1, 1) := by decide +kernel
theorem dJ1_indexOfChar_4cfef_1 : decode cJ1_indexOfChar_4cfef 1 = .ok (.i2b, 1) := by decide +kernel
theorem dJ1_indexOfChar_4cfef_2 : decode cJ1_indexOfChar_4cfef 2 = .ok (.istore 4, 2) := by decide +kernel
theorem dJ1_indexOfChar_4cfef_4 : decode cJ1_indexOfChar_4cfef 4 = .ok (.iload_n 2, 1) := by decide +kernel
theorem dJ1_indexOfChar_4cfef_5 : decode cJ1_indexOfChar_4cfef 5 = .ok (.istore 5, 2) := by decide +kernel
theorem dJ1_indexOfChar_4cfef_7 : decode cJ1_indexOfChar_4cfef 7 = .ok (.iload 5, 2) := by decide +kernel
theorem dJ1_indexOfChar_4cfef_9 : decode cJ1_indexOfChar_4cfef 9 = .ok (.iload_n 3, 1) := by decide +kernel
theorem dJ1_indexOfChar_4cfef_10 : decode cJ1_indexOfChar_4cfef 10 = .ok (.if_icmp .ge 21, 3) := by decide +kernel
theorem dJ1_indexOfChar_4cfef_13 : decode cJ1_indexOfChar_4cfef 13 = .ok (.aload_n 0, 1) := by decide +kernel
theorem dJ1_indexOfChar_4cfef_14 : decode cJ1_indexOfChar_4cfef 14 = .ok (.iload 5, 2) := by decide +kernel
theorem dJ1_indexOfChar_4cfef_16 : decode cJ1_indexOfChar_4cfef 16 = .ok (.baload, 1) := by decide +kernel
theorem dJ1_indexOfChar_4cfef_17 : decode cJ1_indexOfChar_4cfef 17 = .ok (.iload 4, 2) := by decide +kernel
theorem dJ1_indexOfChar_4cfef_19 : decode cJ1_indexOfChar_4cfef 19 = .ok (.if_icmp .ne 6, 3) := by decide +kernel
theorem dJ1_indexOfChar_4cfef_22 : decode cJ1_indexOfChar_4cfef 22 = .ok (.iload 5, 2) := by decide +kernel
theorem dJ1_indexOfChar_4cfef_24 : decode cJ1_indexOfChar_4cfef 24 = .ok (.ireturn, 1) := by decide +kernel
theorem dJ1_indexOfChar_4cfef_25 : decode cJ1_indexOfChar_4cfef 25 = .ok (.iinc 5 1, 3) := by decide +kernel
theorem dJ1_indexOfChar_4cfef_28 : decode cJ1_indexOfChar_4cfef 28 = .ok (.goto (-21), 3) := by decide +kernel
theorem dJ1_indexOfChar_4cfef_31 : decode cJ1_indexOfChar_4cfef 31 = .ok (.iconst (-1), 1) := by decide +kernel
theorem dJ1_indexOfChar_4cfef_32 : decode cJ1_indexOfChar_4cfef 32 = .ok (.ireturn, 1) := by decide +kernel
set_option maxRecDepth 100000 in
set_option maxHeartbeats 4000000 in
theorem v_J1_indexOfChar_4cfef_b7 {l : Launch} {p : Program} {e : Env} {s : State} {mt : MethodId} {args : Array Value} {below : List Frame} {meth : Method} {c : Code} {A : Nat → Prop} {ad0 : Nat → Nat} {G : Gt} {S : Nat → Sh} {N : Nat} {R : Rf} (C : Cx G p s mt args meth c RJ1 cJ1_indexOfChar_4cfef 6 (some .int) "indexOfChar" A) (k1 : Nat) (hk1 : k1 < 22) : ∀ (n : Nat) (y3 : Int32) (y4 : Int32) (y5 : Int32) (m : Mem), V G S oI l p e s mt args below meth c 6 1 A ad0 N N R N R 7 [(0, .retAddr (k1 + 1000)), (3, .int y3), (4, .int y4), (5, .int y5)] [] m (J1_indexOfChar_4cfef_b7 k1 n y3 y4 y5 m) := by
  intro n
  induction n with
  | zero =>
    intro y3 y4 y5 m
    rw [J1_indexOfChar_4cfef_b7]
    exact V.nil
  | succ n ih =>
    intro y3 y4 y5 m
    rw [J1_indexOfChar_4cfef_b7]
    refine V.iload (pc := 7) C dJ1_indexOfChar_4cfef_7 3 rfl ?_
    refine V.iload_n (pc := 9) C dJ1_indexOfChar_4cfef_9 1 rfl ?_
    refine V.icmp_ge (pc := 10) C dJ1_indexOfChar_4cfef_10 31 (by decide) (fun _ => ?_) (fun _ => ?_)
    · refine V.iconst (pc := 31) C dJ1_indexOfChar_4cfef_31 (v := (-1)) (by decide) ?_
      exact V.iret C dJ1_indexOfChar_4cfef_32
    · refine V.sload_n (pc := 13) C dJ1_indexOfChar_4cfef_13 0 rfl ?_
      refine V.iload (pc := 14) C dJ1_indexOfChar_4cfef_14 3 rfl ?_
      refine V.sbald (pc := 16) C hk1 dJ1_indexOfChar_4cfef_16 (fun _ => ?_)
      refine V.iload (pc := 17) C dJ1_indexOfChar_4cfef_17 2 rfl ?_
      refine V.icmp_ne (pc := 19) C dJ1_indexOfChar_4cfef_19 25 (by decide) (fun _ => ?_) (fun _ => ?_)
      · refine V.iinc (pc := 25) C dJ1_indexOfChar_4cfef_25 (v := 1) (L2 := [(5, .int (y5 + 1)), (0, .retAddr (k1 + 1000)), (3, .int y3), (4, .int y4)]) 3 rfl (by decide) (by decide) rfl ?_
        refine V.goto (pc := 28) C dJ1_indexOfChar_4cfef_28 7 (by decide) ?_
        refine V.wk [1, 2, 3, 0] rfl ?_
        exact ih y3 y4 (y5 + 1) m
      · refine V.iload (pc := 22) C dJ1_indexOfChar_4cfef_22 3 rfl ?_
        exact V.iret C dJ1_indexOfChar_4cfef_24
set_option maxRecDepth 100000 in
set_option maxHeartbeats 4000000 in
theorem v_J1_indexOfChar_4cfef {l : Launch} {p : Program} {e : Env} {s : State} {mt : MethodId} {args : Array Value} {below : List Frame} {meth : Method} {c : Code} {A : Nat → Prop} {ad0 : Nat → Nat} {G : Gt} {S : Nat → Sh} {N : Nat} {R : Rf} (C : Cx G p s mt args meth c RJ1 cJ1_indexOfChar_4cfef 6 (some .int) "indexOfChar" A) (k1 : Nat) (hk1 : k1 < 22) (x2 : Int32) (x3 : Int32) (x4 : Int32) (m : Mem) : V G S oI l p e s mt args below meth c 6 1 A ad0 N N R N R 0 [(0, .retAddr (k1 + 1000)), (1, .int x2), (2, .int x3), (3, .int x4)] [] m (J1_indexOfChar_4cfef k1 x2 x3 x4 m) := by
  rw [J1_indexOfChar_4cfef]
  refine V.iload_n (pc := 0) C dJ1_indexOfChar_4cfef_0 1 rfl ?_
  refine V.i2b (pc := 1) C dJ1_indexOfChar_4cfef_1 ?_
  refine V.lti (fun x_1 _ => ?_)
  refine V.istore (pc := 2) C dJ1_indexOfChar_4cfef_2 (L2 := [(4, .int x_1), (0, .retAddr (k1 + 1000)), (1, .int x2), (2, .int x3), (3, .int x4)]) (by decide) rfl ?_
  refine V.iload_n (pc := 4) C dJ1_indexOfChar_4cfef_4 3 rfl ?_
  refine V.istore (pc := 5) C dJ1_indexOfChar_4cfef_5 (L2 := [(5, .int x3), (4, .int x_1), (0, .retAddr (k1 + 1000)), (1, .int x2), (2, .int x3), (3, .int x4)]) (by decide) rfl ?_
  refine V.wk [2, 5, 1, 0] rfl ?_
  exact v_J1_indexOfChar_4cfef_b7 C k1 hk1 FU x4 x_1 x3 m
theorem c_J1_indexOfChar_4cfef (l : Launch) {S : Nat → Sh} {N : Nat} {R : Rf} (k1 : Nat) (hk1 : k1 < 22) (x2 : Int32) (x3 : Int32) (x4 : Int32) (m : Mem) : Ct l yJ1_indexOfChar_4cfef cJ1_indexOfChar_4cfef 6 (some .int) 1 S oI N N R R [.retAddr (k1 + 1000), .int x2, .int x3, .int x4] m (J1_indexOfChar_4cfef k1 x2 x3 x4 m) :=
  Ct.of (own := RJ1) (nm := "indexOfChar") (by decide) rfl rfl (Nat.le_of_ble_eq_true rfl) (fun _ _ _ _ _ _ _ _ _ _ _ C => v_J1_indexOfChar_4cfef C k1 hk1 x2 x3 x4 m)
theorem dJ1_indexOf_4cfef_0 : decode cJ1_indexOf_4cfef 0 = .ok (.iload_n 1, 1) := by decide +kernel
theorem dJ1_indexOf_4cfef_1 : decode cJ1_indexOf_4cfef 1 = .ok (.invokestatic 88, 3) := by decide +kernel
theorem dJ1_indexOf_4cfef_4 : decode cJ1_indexOf_4cfef 4 = .ok (.ifCond .ne 5, 3) := by decide +kernel
theorem dJ1_indexOf_4cfef_7 : decode cJ1_indexOf_4cfef 7 = .ok (.iconst (-1), 1) := by decide +kernel
theorem dJ1_indexOf_4cfef_8 : decode cJ1_indexOf_4cfef 8 = .ok (.ireturn, 1) := by decide +kernel
theorem dJ1_indexOf_4cfef_9 : decode cJ1_indexOf_4cfef 9 = .ok (.iload_n 2, 1) := by decide +kernel
theorem dJ1_indexOf_4cfef_10 : decode cJ1_indexOf_4cfef 10 = .ok (.iconst 0, 1) := by decide +kernel
theorem dJ1_indexOf_4cfef_11 : decode cJ1_indexOf_4cfef 11 = .ok (.invokestatic 92, 3) := by decide +kernel
theorem dJ1_indexOf_4cfef_14 : decode cJ1_indexOf_4cfef 14 = .ok (.istore_n 2, 1) := by decide +kernel
theorem dJ1_indexOf_4cfef_15 : decode cJ1_indexOf_4cfef 15 = .ok (.iload_n 3, 1) := by decide +kernel
theorem dJ1_indexOf_4cfef_16 : decode cJ1_indexOf_4cfef 16 = .ok (.aload_n 0, 1) := by decide +kernel
theorem dJ1_indexOf_4cfef_17 : decode cJ1_indexOf_4cfef 17 = .ok (.arraylength, 1) := by decide +kernel
theorem dJ1_indexOf_4cfef_18 : decode cJ1_indexOf_4cfef 18 = .ok (.invokestatic 38, 3) := by decide +kernel
theorem dJ1_indexOf_4cfef_21 : decode cJ1_indexOf_4cfef 21 = .ok (.istore_n 3, 1) := by decide +kernel
theorem dJ1_indexOf_4cfef_22 : decode cJ1_indexOf_4cfef 22 = .ok (.iload_n 2, 1) := by decide +kernel
theorem dJ1_indexOf_4cfef_23 : decode cJ1_indexOf_4cfef 23 = .ok (.iload_n 3, 1) := by decide +kernel
theorem dJ1_indexOf_4cfef_24 : decode cJ1_indexOf_4cfef 24 = .ok (.if_icmp .lt 5, 3) := by decide +kernel
theorem dJ1_indexOf_4cfef_27 : decode cJ1_indexOf_4cfef 27 = .ok (.iconst (-1), 1) := by decide +kernel
theorem dJ1_indexOf_4cfef_28 : decode cJ1_indexOf_4cfef 28 = .ok (.ireturn, 1) := by decide +kernel
theorem dJ1_indexOf_4cfef_29 : decode cJ1_indexOf_4cfef 29 = .ok (.aload_n 0, 1) := by decide +kernel
theorem dJ1_indexOf_4cfef_30 : decode cJ1_indexOf_4cfef 30 = .ok (.iload_n 1, 1) := by decide +kernel
theorem dJ1_indexOf_4cfef_31 : decode cJ1_indexOf_4cfef 31 = .ok (.iload_n 2, 1) := by decide +kernel
theorem dJ1_indexOf_4cfef_32 : decode cJ1_indexOf_4cfef 32 = .ok (.iload_n 3, 1) := by decide +kernel
theorem dJ1_indexOf_4cfef_33 : decode cJ1_indexOf_4cfef 33 = .ok (.invokestatic 95, 3) := by decide +kernel
theorem dJ1_indexOf_4cfef_36 : decode cJ1_indexOf_4cfef 36 = .ok (.ireturn, 1) := by decide +kernel
set_option maxRecDepth 100000 in
set_option maxHeartbeats 4000000 in
theorem v_J1_indexOf_4cfef {l : Launch} {p : Program} {e : Env} {s : State} {mt : MethodId} {args : Array Value} {below : List Frame} {meth : Method} {c : Code} {A : Nat → Prop} {ad0 : Nat → Nat} {G : Gt} {S : Nat → Sh} {N : Nat} {R : Rf} (C : Cx G p s mt args meth c RJ1 cJ1_indexOf_4cfef 4 (some .int) "indexOf" A) (k1 : Nat) (hk1 : k1 < 22) (x2 : Int32) (x3 : Int32) (x4 : Int32) (m : Mem) : V G S oI l p e s mt args below meth c 4 2 A ad0 N N R N R 0 [(0, .retAddr (k1 + 1000)), (1, .int x2), (2, .int x3), (3, .int x4)] [] m (J1_indexOf_4cfef k1 x2 x3 x4 m) := by
  rw [J1_indexOf_4cfef]
  refine V.iload_n (pc := 0) C dJ1_indexOf_4cfef_0 1 rfl ?_
  refine V.callS (pc := 1) (st := []) C (c_J1_canEncode_9a6ad l x2 m) obI ck_J1_canEncode_9a6ad ml_RJ1_88 rfl rfl (Nat.le_of_ble_eq_true rfl) ⟨by decide, by decide⟩ dJ1_indexOf_4cfef_1 (fun r_1 m_2 _ => ?_)
  refine V.if_ne (pc := 4) C dJ1_indexOf_4cfef_4 9 (by decide) (fun _ => ?_) (fun _ => ?_)
  · refine V.iload_n (pc := 9) C dJ1_indexOf_4cfef_9 2 rfl ?_
    refine V.iconst (pc := 10) C dJ1_indexOf_4cfef_10 (v := 0) (by decide) ?_
    refine V.mmax (pc := 11) (st := []) C ml_RJ1_92 mt_max_s mt_i mt_max_c (by decide) (Nat.le_of_ble_eq_true rfl) dJ1_indexOf_4cfef_11 ?_
    refine V.lti (fun x_3 _ => ?_)
    refine V.istore_n (pc := 14) C dJ1_indexOf_4cfef_14 (L2 := [(2, .int x_3), (0, .retAddr (k1 + 1000)), (1, .int x2), (3, .int x4)]) (by decide) rfl ?_
    refine V.iload_n (pc := 15) C dJ1_indexOf_4cfef_15 3 rfl ?_
    refine V.sload_n (pc := 16) C dJ1_indexOf_4cfef_16 1 rfl ?_
    refine V.slen (pc := 17) C hk1 dJ1_indexOf_4cfef_17 ?_
    refine V.mmin (pc := 18) (st := []) C ml_RJ1_38 mt_min_s mt_i mt_min_c (by decide) (Nat.le_of_ble_eq_true rfl) dJ1_indexOf_4cfef_18 ?_
    refine V.lti (fun x_4 _ => ?_)
    refine V.istore_n (pc := 21) C dJ1_indexOf_4cfef_21 (L2 := [(3, .int x_4), (2, .int x_3), (0, .retAddr (k1 + 1000)), (1, .int x2)]) (by decide) rfl ?_
    refine V.iload_n (pc := 22) C dJ1_indexOf_4cfef_22 1 rfl ?_
    refine V.iload_n (pc := 23) C dJ1_indexOf_4cfef_23 0 rfl ?_
    refine V.icmp_lt (pc := 24) C dJ1_indexOf_4cfef_24 29 (by decide) (fun _ => ?_) (fun _ => ?_)
    · refine V.sload_n (pc := 29) C dJ1_indexOf_4cfef_29 2 rfl ?_
      refine V.iload_n (pc := 30) C dJ1_indexOf_4cfef_30 3 rfl ?_
      refine V.iload_n (pc := 31) C dJ1_indexOf_4cfef_31 1 rfl ?_
      refine V.iload_n (pc := 32) C dJ1_indexOf_4cfef_32 0 rfl ?_
      refine V.callS (pc := 33) (st := []) C (c_J1_indexOfChar_4cfef l k1 hk1 x2 x_3 x_4 m_2) obI ck_J1_indexOfChar_4cfef ml_RJ1_95 rfl rfl (Nat.le_of_ble_eq_true rfl) ⟨by decide, by decide⟩ dJ1_indexOf_4cfef_33 (fun r_5 m_6 _ => ?_)
      exact V.iret C dJ1_indexOf_4cfef_36
    · refine V.iconst (pc := 27) C dJ1_indexOf_4cfef_27 (v := (-1)) (by decide) ?_
      exact V.iret C dJ1_indexOf_4cfef_28
  · refine V.iconst (pc := 7) C dJ1_indexOf_4cfef_7 (v := (-1)) (by decide) ?_
    exact V.iret C dJ1_indexOf_4cfef_8
theorem c_J1_indexOf_4cfef (l : Launch) {S : Nat → Sh} {N : Nat} {R : Rf} (k1 : Nat) (hk1 : k1 < 22) (x2 : Int32) (x3 : Int32) (x4 : Int32) (m : Mem) : Ct l yJ1_indexOf_4cfef cJ1_indexOf_4cfef 4 (some .int) 2 S oI N N R R [.retAddr (k1 + 1000), .int x2, .int x3, .int x4] m (J1_indexOf_4cfef k1 x2 x3 x4 m) :=
  Ct.of (own := RJ1) (nm := "indexOf") (by decide) rfl rfl (Nat.le_of_ble_eq_true rfl) (fun _ _ _ _ _ _ _ _ _ _ _ C => v_J1_indexOf_4cfef C k1 hk1 x2 x3 x4 m)
theorem dJ0_indexOf_7cf53_0 : decode cJ0_indexOf_7cf53 0 = .ok (.aload_n 0, 1) := by decide +kernel
theorem dJ0_indexOf_7cf53_1 : decode cJ0_indexOf_7cf53 1 = .ok (.invokevirtual 492, 3) := by decide +kernel
theorem dJ0_indexOf_7cf53_4 : decode cJ0_indexOf_7cf53 4 = .ok (.ifCond .eq 19, 3) := by decide +kernel
theorem dJ0_indexOf_7cf53_7 : decode cJ0_indexOf_7cf53 7 = .ok (.aload_n 0, 1) := by decide +kernel
theorem dJ0_indexOf_7cf53_8 : decode cJ0_indexOf_7cf53 8 = .ok (.getfield 9, 3) := by decide +kernel
theorem dJ0_indexOf_7cf53_11 : decode cJ0_indexOf_7cf53 11 = .ok (.iload_n 1, 1) := by decide +kernel
theorem dJ0_indexOf_7cf53_12 : decode cJ0_indexOf_7cf53 12 = .ok (.iload_n 2, 1) := by decide +kernel
theorem dJ0_indexOf_7cf53_13 : decode cJ0_indexOf_7cf53 13 = .ok (.aload_n 0, 1) := by decide +kernel
theorem dJ0_indexOf_7cf53_14 : decode cJ0_indexOf_7cf53 14 = .ok (.invokevirtual 505, 3) := by decide +kernel
theorem dJ0_indexOf_7cf53_17 : decode cJ0_indexOf_7cf53 17 = .ok (.invokestatic 637, 3) := by decide +kernel
theorem dJ0_indexOf_7cf53_20 : decode cJ0_indexOf_7cf53 20 = .ok (.goto 16, 3) := by decide +kernel
theorem dJ0_indexOf_7cf53_23 : decode cJ0_indexOf_7cf53 23 = .ok (.aload_n 0, 1) := by decide +kernel
theorem dJ0_indexOf_7cf53_24 : decode cJ0_indexOf_7cf53 24 = .ok (.getfield 9, 3) := by decide +kernel
theorem dJ0_indexOf_7cf53_27 : decode cJ0_indexOf_7cf53 27 = .ok (.iload_n 1, 1) := by decide +kernel
theorem dJ0_indexOf_7cf53_28 : decode cJ0_indexOf_7cf53 28 = .ok (.iload_n 2, 1) := by decide +kernel
theorem dJ0_indexOf_7cf53_29 : decode cJ0_indexOf_7cf53 29 = .ok (.aload_n 0, 1) := by decide +kernel
theorem dJ0_indexOf_7cf53_30 : decode cJ0_indexOf_7cf53 30 = .ok (.invokevirtual 505, 3) := by decide +kernel
theorem dJ0_indexOf_7cf53_33 : decode cJ0_indexOf_7cf53 33 = .ok (.invokestatic 640, 3) := by decide +kernel
theorem dJ0_indexOf_7cf53_36 : decode cJ0_indexOf_7cf53 36 = .ok (.ireturn, 1) := by decide +kernel
set_option maxRecDepth 100000 in
set_option maxHeartbeats 4000000 in
theorem v_J0_indexOf_7cf53 {l : Launch} {p : Program} {e : Env} {s : State} {mt : MethodId} {args : Array Value} {below : List Frame} {meth : Method} {c : Code} {A : Nat → Prop} {ad0 : Nat → Nat} {G : Gt} {S : Nat → Sh} {N : Nat} {R : Rf} (C : Cx G p s mt args meth c RJ0 cJ0_indexOf_7cf53 3 (some .int) "indexOf" A) (k0 : Nat) (hk0 : k0 < 22) (x1 : Int32) (x2 : Int32) (m : Mem) : V G S oI l p e s mt args below meth c 3 3 A ad0 N N R N R 0 [(0, .retAddr k0), (1, .int x1), (2, .int x2)] [] m (J0_indexOf_7cf53 k0 x1 x2 m) := by
  rw [J0_indexOf_7cf53]
  refine V.sload_n (pc := 0) C dJ0_indexOf_7cf53_0 0 rfl ?_
  refine V.callT (pc := 1) (st := []) C (c_J0_isLatin1_aae02 l k0 hk0 m) obI ck_J0_isLatin1_aae02 ml_RJ0_492 rfl hk0 rfl rfl (Nat.le_of_ble_eq_true rfl) ⟨by decide, by decide⟩ dJ0_indexOf_7cf53_1 (fun r_1 m_2 _ => ?_)
  refine V.if_eq (pc := 4) C dJ0_indexOf_7cf53_4 23 (by decide) (fun _ => ?_) (fun _ => ?_)
  · exact V.nil
  · refine V.sload_n (pc := 7) C dJ0_indexOf_7cf53_7 0 rfl ?_
    refine V.sval (pc := 8) C hk0 sf_RJ0_9 dJ0_indexOf_7cf53_8 ?_
    refine V.iload_n (pc := 11) C dJ0_indexOf_7cf53_11 1 rfl ?_
    refine V.iload_n (pc := 12) C dJ0_indexOf_7cf53_12 2 rfl ?_
    refine V.sload_n (pc := 13) C dJ0_indexOf_7cf53_13 0 rfl ?_
    refine V.callT (pc := 14) (st := [.int x2, .int x1, .retAddr (k0 + 1000)]) C (c_J0_length_8abf5 l k0 hk0 m_2) obI ck_J0_length_8abf5 ml_RJ0_505 rfl hk0 rfl rfl (Nat.le_of_ble_eq_true rfl) ⟨by decide, by decide⟩ dJ0_indexOf_7cf53_14 (fun r_5 m_6 _ => ?_)
    refine V.callS (pc := 17) (st := []) C (c_J1_indexOf_4cfef l k0 hk0 x1 x2 r_5 m_6) obI ck_J1_indexOf_4cfef ml_RJ0_637 rfl rfl (Nat.le_of_ble_eq_true rfl) ⟨by decide, by decide⟩ dJ0_indexOf_7cf53_17 (fun r_7 m_8 _ => ?_)
    refine V.goto (pc := 20) C dJ0_indexOf_7cf53_20 36 (by decide) ?_
    exact V.iret C dJ0_indexOf_7cf53_36
theorem c_J0_indexOf_7cf53 (l : Launch) {S : Nat → Sh} {N : Nat} {R : Rf} (k0 : Nat) (hk0 : k0 < 22) (x1 : Int32) (x2 : Int32) (m : Mem) : Ct l yJ0_indexOf_7cf53 cJ0_indexOf_7cf53 3 (some .int) 3 S oI N N R R [.retAddr k0, .int x1, .int x2] m (J0_indexOf_7cf53 k0 x1 x2 m) :=
  Ct.of (own := RJ0) (nm := "indexOf") (by decide) rfl rfl (Nat.le_of_ble_eq_true rfl) (fun _ _ _ _ _ _ _ _ _ _ _ C => v_J0_indexOf_7cf53 C k0 hk0 x1 x2 m)
theorem dJ0_indexOf_0f7a4_0 : decode cJ0_indexOf_0f7a4 0 = .ok (.aload_n 0, 1) := by decide +kernel
theorem dJ0_indexOf_0f7a4_1 : decode cJ0_indexOf_0f7a4 1 = .ok (.iload_n 1, 1) := by decide +kernel
theorem dJ0_indexOf_0f7a4_2 : decode cJ0_indexOf_0f7a4 2 = .ok (.iconst 0, 1) := by decide +kernel
theorem dJ0_indexOf_0f7a4_3 : decode cJ0_indexOf_0f7a4 3 = .ok (.invokevirtual 633, 3) := by decide +kernel
theorem dJ0_indexOf_0f7a4_6 : decode cJ0_indexOf_0f7a4 6 = .ok (.ireturn, 1) := by decide +kernel
set_option maxRecDepth 100000 in
set_option maxHeartbeats 4000000 in
theorem v_J0_indexOf_0f7a4 {l : Launch} {p : Program} {e : Env} {s : State} {mt : MethodId} {args : Array Value} {below : List Frame} {meth : Method} {c : Code} {A : Nat → Prop} {ad0 : Nat → Nat} {G : Gt} {S : Nat → Sh} {N : Nat} {R : Rf} (C : Cx G p s mt args meth c RJ0 cJ0_indexOf_0f7a4 2 (some .int) "indexOf" A) (k0 : Nat) (hk0 : k0 < 22) (x1 : Int32) (m : Mem) : V G S oI l p e s mt args below meth c 2 4 A ad0 N N R N R 0 [(0, .retAddr k0), (1, .int x1)] [] m (J0_indexOf_0f7a4 k0 x1 m) := by
  rw [J0_indexOf_0f7a4]
  refine V.sload_n (pc := 0) C dJ0_indexOf_0f7a4_0 0 rfl ?_
  refine V.iload_n (pc := 1) C dJ0_indexOf_0f7a4_1 1 rfl ?_
  refine V.iconst (pc := 2) C dJ0_indexOf_0f7a4_2 (v := 0) (by decide) ?_
  refine V.callT (pc := 3) (st := []) C (c_J0_indexOf_7cf53 l k0 hk0 x1 0 m) obI ck_J0_indexOf_7cf53 ml_RJ0_633 rfl hk0 rfl rfl (Nat.le_of_ble_eq_true rfl) ⟨by decide, by decide⟩ dJ0_indexOf_0f7a4_3 (fun r_1 m_2 _ => ?_)
  exact V.iret C dJ0_indexOf_0f7a4_6
theorem c_J0_indexOf_0f7a4 (l : Launch) {S : Nat → Sh} {N : Nat} {R : Rf} (k0 : Nat) (hk0 : k0 < 22) (x1 : Int32) (m : Mem) : Ct l yJ0_indexOf_0f7a4 cJ0_indexOf_0f7a4 2 (some .int) 4 S oI N N R R [.retAddr k0, .int x1] m (J0_indexOf_0f7a4 k0 x1 m) :=
  Ct.of (own := RJ0) (nm := "indexOf") (by decide) rfl rfl (Nat.le_of_ble_eq_true rfl) (fun _ _ _ _ _ _ _ _ _ _ _ C => v_J0_indexOf_0f7a4 C k0 hk0 x1 m)
theorem dJ6_bitCount_0f7a4_0 : decode cJ6_bitCount_0f7a4 0 = .ok (.iload_n 0, 1) := by decide +kernel
theorem dJ6_bitCount_0f7a4_1 : decode cJ6_bitCount_0f7a4 1 = .ok (.iload_n 0, 1) := by decide +kernel
theorem dJ6_bitCount_0f7a4_2 : decode cJ6_bitCount_0f7a4 2 = .ok (.iconst 1, 1) := by decide +kernel
theorem dJ6_bitCount_0f7a4_3 : decode cJ6_bitCount_0f7a4 3 = .ok (.iushr, 1) := by decide +kernel
theorem dJ6_bitCount_0f7a4_4 : decode cJ6_bitCount_0f7a4 4 = .ok (.ldc_w 265, 3) := by decide +kernel
theorem dJ6_bitCount_0f7a4_7 : decode cJ6_bitCount_0f7a4 7 = .ok (.iand, 1) := by decide +kernel
theorem dJ6_bitCount_0f7a4_8 : decode cJ6_bitCount_0f7a4 8 = .ok (.isub, 1) := by decide +kernel
theorem dJ6_bitCount_0f7a4_9 : decode cJ6_bitCount_0f7a4 9 = .ok (.istore_n 0, 1) := by decide +kernel
theorem dJ6_bitCount_0f7a4_10 : decode cJ6_bitCount_0f7a4 10 = .ok (.iload_n 0, 1) := by decide +kernel
theorem dJ6_bitCount_0f7a4_11 : decode cJ6_bitCount_0f7a4 11 = .ok (.ldc_w 266, 3) := by decide +kernel
theorem dJ6_bitCount_0f7a4_14 : decode cJ6_bitCount_0f7a4 14 = .ok (.iand, 1) := by decide +kernel
theorem dJ6_bitCount_0f7a4_15 : decode cJ6_bitCount_0f7a4 15 = .ok (.iload_n 0, 1) := by decide +kernel
theorem dJ6_bitCount_0f7a4_16 : decode cJ6_bitCount_0f7a4 16 = .ok (.iconst 2, 1) := by decide +kernel
theorem dJ6_bitCount_0f7a4_17 : decode cJ6_bitCount_0f7a4 17 = .ok (.iushr, 1) := by decide +kernel
theorem dJ6_bitCount_0f7a4_18 : decode cJ6_bitCount_0f7a4 18 = .ok (.ldc_w 266, 3) := by decide +kernel
theorem dJ6_bitCount_0f7a4_21 : decode cJ6_bitCount_0f7a4 21 = .ok (.iand, 1) := by decide +kernel
theorem dJ6_bitCount_0f7a4_22 : decode cJ6_bitCount_0f7a4 22 = .ok (.iadd, 1) := by decide +kernel
theorem dJ6_bitCount_0f7a4_23 : decode cJ6_bitCount_0f7a4 23 = .ok (.istore_n 0, 1) := by decide +kernel
theorem dJ6_bitCount_0f7a4_24 : decode cJ6_bitCount_0f7a4 24 = .ok (.iload_n 0, 1) := by decide +kernel
theorem dJ6_bitCount_0f7a4_25 : decode cJ6_bitCount_0f7a4 25 = .ok (.iload_n 0, 1) := by decide +kernel
theorem dJ6_bitCount_0f7a4_26 : decode cJ6_bitCount_0f7a4 26 = .ok (.iconst 4, 1) := by decide +kernel
theorem dJ6_bitCount_0f7a4_27 : decode cJ6_bitCount_0f7a4 27 = .ok (.iushr, 1) := by decide +kernel
theorem dJ6_bitCount_0f7a4_28 : decode cJ6_bitCount_0f7a4 28 = .ok (.iadd, 1) := by decide +kernel
theorem dJ6_bitCount_0f7a4_29 : decode cJ6_bitCount_0f7a4 29 = .ok (.ldc_w 267, 3) := by decide +kernel
theorem dJ6_bitCount_0f7a4_32 : decode cJ6_bitCount_0f7a4 32 = .ok (.iand, 1) := by decide +kernel
theorem dJ6_bitCount_0f7a4_33 : decode cJ6_bitCount_0f7a4 33 = .ok (.istore_n 0, 1) := by decide +kernel
theorem dJ6_bitCount_0f7a4_34 : decode cJ6_bitCount_0f7a4 34 = .ok (.iload_n 0, 1) := by decide +kernel
theorem dJ6_bitCount_0f7a4_35 : decode cJ6_bitCount_0f7a4 35 = .ok (.iload_n 0, 1) := by decide +kernel
theorem dJ6_bitCount_0f7a4_36 : decode cJ6_bitCount_0f7a4 36 = .ok (.bipush 8, 2) := by decide +kernel
theorem dJ6_bitCount_0f7a4_38 : decode cJ6_bitCount_0f7a4 38 = .ok (.iushr, 1) := by decide +kernel
theorem dJ6_bitCount_0f7a4_39 : decode cJ6_bitCount_0f7a4 39 = .ok (.iadd, 1) := by decide +kernel
theorem dJ6_bitCount_0f7a4_40 : decode cJ6_bitCount_0f7a4 40 = .ok (.istore_n 0, 1) := by decide +kernel
theorem dJ6_bitCount_0f7a4_41 : decode cJ6_bitCount_0f7a4 41 = .ok (.iload_n 0, 1) := by decide +kernel
theorem dJ6_bitCount_0f7a4_42 : decode cJ6_bitCount_0f7a4 42 = .ok (.iload_n 0, 1) := by decide +kernel
theorem dJ6_bitCount_0f7a4_43 : decode cJ6_bitCount_0f7a4 43 = .ok (.bipush 16, 2) := by decide +kernel
theorem dJ6_bitCount_0f7a4_45 : decode cJ6_bitCount_0f7a4 45 = .ok (.iushr, 1) := by decide +kernel
theorem dJ6_bitCount_0f7a4_46 : decode cJ6_bitCount_0f7a4 46 = .ok (.iadd, 1) := by decide +kernel
theorem dJ6_bitCount_0f7a4_47 : decode cJ6_bitCount_0f7a4 47 = .ok (.istore_n 0, 1) := by decide +kernel
theorem dJ6_bitCount_0f7a4_48 : decode cJ6_bitCount_0f7a4 48 = .ok (.iload_n 0, 1) := by decide +kernel
theorem dJ6_bitCount_0f7a4_49 : decode cJ6_bitCount_0f7a4 49 = .ok (.bipush 63, 2) := by decide +kernel
theorem dJ6_bitCount_0f7a4_51 : decode cJ6_bitCount_0f7a4 51 = .ok (.iand, 1) := by decide +kernel
theorem dJ6_bitCount_0f7a4_52 : decode cJ6_bitCount_0f7a4 52 = .ok (.ireturn, 1) := by decide +kernel
set_option maxRecDepth 100000 in
set_option maxHeartbeats 4000000 in
theorem v_J6_bitCount_0f7a4 {l : Launch} {p : Program} {e : Env} {s : State} {mt : MethodId} {args : Array Value} {below : List Frame} {meth : Method} {c : Code} {A : Nat → Prop} {ad0 : Nat → Nat} {G : Gt} {S : Nat → Sh} {N : Nat} {R : Rf} (C : Cx G p s mt args meth c RJ6 cJ6_bitCount_0f7a4 1 (some .int) "bitCount" A)  (x1 : Int32) (m : Mem) : V G S oI l p e s mt args below meth c 1 1 A ad0 N N R N R 0 [(0, .int x1)] [] m (J6_bitCount_0f7a4  x1 m) := by
  rw [J6_bitCount_0f7a4]
  refine V.iload_n (pc := 0) C dJ6_bitCount_0f7a4_0 0 rfl ?_
  refine V.iload_n (pc := 1) C dJ6_bitCount_0f7a4_1 0 rfl ?_
  refine V.iconst (pc := 2) C dJ6_bitCount_0f7a4_2 (v := 1) (by decide) ?_
  refine V.iushr (pc := 3) C dJ6_bitCount_0f7a4_3 ?_
  refine V.ldcw (pc := 4) C dJ6_bitCount_0f7a4_4 (v := 1431655765) cn_RJ6_265 ?_
  refine V.iand (pc := 7) C dJ6_bitCount_0f7a4_7 ?_
  refine V.isub (pc := 8) C dJ6_bitCount_0f7a4_8 ?_
  refine V.lti (fun x_1 _ => ?_)
  refine V.istore_n (pc := 9) C dJ6_bitCount_0f7a4_9 (L2 := [(0, .int x_1)]) (by decide) rfl ?_
  refine V.iload_n (pc := 10) C dJ6_bitCount_0f7a4_10 0 rfl ?_
  refine V.ldcw (pc := 11) C dJ6_bitCount_0f7a4_11 (v := 858993459) cn_RJ6_266 ?_
  refine V.iand (pc := 14) C dJ6_bitCount_0f7a4_14 ?_
  refine V.iload_n (pc := 15) C dJ6_bitCount_0f7a4_15 0 rfl ?_
  refine V.iconst (pc := 16) C dJ6_bitCount_0f7a4_16 (v := 2) (by decide) ?_
  refine V.iushr (pc := 17) C dJ6_bitCount_0f7a4_17 ?_
  refine V.ldcw (pc := 18) C dJ6_bitCount_0f7a4_18 (v := 858993459) cn_RJ6_266 ?_
  refine V.iand (pc := 21) C dJ6_bitCount_0f7a4_21 ?_
  refine V.iadd (pc := 22) C dJ6_bitCount_0f7a4_22 ?_
  refine V.lti (fun x_2 _ => ?_)
  refine V.istore_n (pc := 23) C dJ6_bitCount_0f7a4_23 (L2 := [(0, .int x_2)]) (by decide) rfl ?_
  refine V.iload_n (pc := 24) C dJ6_bitCount_0f7a4_24 0 rfl ?_
  refine V.iload_n (pc := 25) C dJ6_bitCount_0f7a4_25 0 rfl ?_
  refine V.iconst (pc := 26) C dJ6_bitCount_0f7a4_26 (v := 4) (by decide) ?_
  refine V.iushr (pc := 27) C dJ6_bitCount_0f7a4_27 ?_
  refine V.iadd (pc := 28) C dJ6_bitCount_0f7a4_28 ?_
  refine V.ldcw (pc := 29) C dJ6_bitCount_0f7a4_29 (v := 252645135) cn_RJ6_267 ?_
  refine V.iand (pc := 32) C dJ6_bitCount_0f7a4_32 ?_
  refine V.lti (fun x_3 _ => ?_)
  refine V.istore_n (pc := 33) C dJ6_bitCount_0f7a4_33 (L2 := [(0, .int x_3)]) (by decide) rfl ?_
  refine V.iload_n (pc := 34) C dJ6_bitCount_0f7a4_34 0 rfl ?_
  refine V.iload_n (pc := 35) C dJ6_bitCount_0f7a4_35 0 rfl ?_
  refine V.bipush (pc := 36) C dJ6_bitCount_0f7a4_36 (v := 8) (by decide) ?_
  refine V.iushr (pc := 38) C dJ6_bitCount_0f7a4_38 ?_
  refine V.iadd (pc := 39) C dJ6_bitCount_0f7a4_39 ?_
  refine V.lti (fun x_4 _ => ?_)
  refine V.istore_n (pc := 40) C dJ6_bitCount_0f7a4_40 (L2 := [(0, .int x_4)]) (by decide) rfl ?_
  refine V.iload_n (pc := 41) C dJ6_bitCount_0f7a4_41 0 rfl ?_
  refine V.iload_n (pc := 42) C dJ6_bitCount_0f7a4_42 0 rfl ?_
  refine V.bipush (pc := 43) C dJ6_bitCount_0f7a4_43 (v := 16) (by decide) ?_
  refine V.iushr (pc := 45) C dJ6_bitCount_0f7a4_45 ?_
  refine V.iadd (pc := 46) C dJ6_bitCount_0f7a4_46 ?_
  refine V.lti (fun x_5 _ => ?_)
  refine V.istore_n (pc := 47) C dJ6_bitCount_0f7a4_47 (L2 := [(0, .int x_5)]) (by decide) rfl ?_
  refine V.iload_n (pc := 48) C dJ6_bitCount_0f7a4_48 0 rfl ?_
  refine V.bipush (pc := 49) C dJ6_bitCount_0f7a4_49 (v := 63) (by decide) ?_
  refine V.iand (pc := 51) C dJ6_bitCount_0f7a4_51 ?_
  exact V.iret C dJ6_bitCount_0f7a4_52
theorem c_J6_bitCount_0f7a4 (l : Launch) {S : Nat → Sh} {N : Nat} {R : Rf}  (x1 : Int32) (m : Mem) : Ct l yJ6_bitCount_0f7a4 cJ6_bitCount_0f7a4 1 (some .int) 1 S oI N N R R [.int x1] m (J6_bitCount_0f7a4  x1 m) :=
  Ct.of (own := RJ6) (nm := "bitCount") (by decide) rfl rfl (Nat.le_of_ble_eq_true rfl) (fun _ _ _ _ _ _ _ _ _ _ _ C => v_J6_bitCount_0f7a4 C  x1 m)
theorem dJ6_numberOfTrailingZeros_0f7a4_0 : decode cJ6_numberOfTrailingZeros_0f7a4 0 = .ok (.iload_n 0, 1) := by decide +kernel
theorem dJ6_numberOfTrailingZeros_0f7a4_1 : decode cJ6_numberOfTrailingZeros_0f7a4 1 = .ok (.iconst (-1), 1) := by decide +kernel
theorem dJ6_numberOfTrailingZeros_0f7a4_2 : decode cJ6_numberOfTrailingZeros_0f7a4 2 = .ok (.ixor, 1) := by decide +kernel
theorem dJ6_numberOfTrailingZeros_0f7a4_3 : decode cJ6_numberOfTrailingZeros_0f7a4 3 = .ok (.iload_n 0, 1) := by decide +kernel
theorem dJ6_numberOfTrailingZeros_0f7a4_4 : decode cJ6_numberOfTrailingZeros_0f7a4 4 = .ok (.iconst 1, 1) := by decide +kernel
theorem dJ6_numberOfTrailingZeros_0f7a4_5 : decode cJ6_numberOfTrailingZeros_0f7a4 5 = .ok (.isub, 1) := by decide +kernel
theorem dJ6_numberOfTrailingZeros_0f7a4_6 : decode cJ6_numberOfTrailingZeros_0f7a4 6 = .ok (.iand, 1) := by decide +kernel
theorem dJ6_numberOfTrailingZeros_0f7a4_7 : decode cJ6_numberOfTrailingZeros_0f7a4 7 = .ok (.istore_n 0, 1) := by decide +kernel
theorem dJ6_numberOfTrailingZeros_0f7a4_8 : decode cJ6_numberOfTrailingZeros_0f7a4 8 = .ok (.iload_n 0, 1) := by decide +kernel
theorem dJ6_numberOfTrailingZeros_0f7a4_9 : decode cJ6_numberOfTrailingZeros_0f7a4 9 = .ok (.ifCond .gt 8, 3) := by decide +kernel
theorem dJ6_numberOfTrailingZeros_0f7a4_12 : decode cJ6_numberOfTrailingZeros_0f7a4 12 = .ok (.iload_n 0, 1) := by decide +kernel
theorem dJ6_numberOfTrailingZeros_0f7a4_13 : decode cJ6_numberOfTrailingZeros_0f7a4 13 = .ok (.bipush 32, 2) := by decide +kernel
theorem dJ6_numberOfTrailingZeros_0f7a4_15 : decode cJ6_numberOfTrailingZeros_0f7a4 15 = .ok (.iand, 1) := by decide +kernel
theorem dJ6_numberOfTrailingZeros_0f7a4_16 : decode cJ6_numberOfTrailingZeros_0f7a4 16 = .ok (.ireturn, 1) := by decide +kernel
theorem dJ6_numberOfTrailingZeros_0f7a4_17 : decode cJ6_numberOfTrailingZeros_0f7a4 17 = .ok (.iconst 1, 1) := by decide +kernel
theorem dJ6_numberOfTrailingZeros_0f7a4_18 : decode cJ6_numberOfTrailingZeros_0f7a4 18 = .ok (.istore_n 1, 1) := by decide +kernel
theorem dJ6_numberOfTrailingZeros_0f7a4_19 : decode cJ6_numberOfTrailingZeros_0f7a4 19 = .ok (.iload_n 0, 1) := by decide +kernel
theorem dJ6_numberOfTrailingZeros_0f7a4_20 : decode cJ6_numberOfTrailingZeros_0f7a4 20 = .ok (.ldc_w 264, 3) := by decide +kernel
theorem dJ6_numberOfTrailingZeros_0f7a4_23 : decode cJ6_numberOfTrailingZeros_0f7a4 23 = .ok (.if_icmp .le 11, 3) := by decide +kernel
theorem dJ6_numberOfTrailingZeros_0f7a4_26 : decode cJ6_numberOfTrailingZeros_0f7a4 26 = .ok (.iinc 1 16, 3) := by decide +kernel
theorem dJ6_numberOfTrailingZeros_0f7a4_29 : decode cJ6_numberOfTrailingZeros_0f7a4 29 = .ok (.iload_n 0, 1) := by decide +kernel
theorem dJ6_numberOfTrailingZeros_0f7a4_30 : decode cJ6_numberOfTrailingZeros_0f7a4 30 = .ok (.bipush 16, 2) := by decide +kernel
theorem dJ6_numberOfTrailingZeros_0f7a4_32 : decode cJ6_numberOfTrailingZeros_0f7a4 32 = .ok (.iushr, 1) := by decide +kernel
theorem dJ6_numberOfTrailingZeros_0f7a4_33 : decode cJ6_numberOfTrailingZeros_0f7a4 33 = .ok (.istore_n 0, 1) := by decide +kernel
theorem dJ6_numberOfTrailingZeros_0f7a4_34 : decode cJ6_numberOfTrailingZeros_0f7a4 34 = .ok (.iload_n 0, 1) := by decide +kernel
theorem dJ6_numberOfTrailingZeros_0f7a4_35 : decode cJ6_numberOfTrailingZeros_0f7a4 35 = .ok (.sipush 256, 3) := by decide +kernel
theorem dJ6_numberOfTrailingZeros_0f7a4_38 : decode cJ6_numberOfTrailingZeros_0f7a4 38 = .ok (.if_icmp .le 11, 3) := by decide +kernel
theorem dJ6_numberOfTrailingZeros_0f7a4_41 : decode cJ6_numberOfTrailingZeros_0f7a4 41 = .ok (.iinc 1 8, 3) := by decide +kernel
theorem dJ6_numberOfTrailingZeros_0f7a4_44 : decode cJ6_numberOfTrailingZeros_0f7a4 44 = .ok (.iload_n 0, 1) := by decide +kernel
theorem dJ6_numberOfTrailingZeros_0f7a4_45 : decode cJ6_numberOfTrailingZeros_0f7a4 45 = .ok (.bipush 8, 2) := by decide +kernel
theorem dJ6_numberOfTrailingZeros_0f7a4_47 : decode cJ6_numberOfTrailingZeros_0f7a4 47 = .ok (.iushr, 1) := by decide +kernel
theorem dJ6_numberOfTrailingZeros_0f7a4_48 : decode cJ6_numberOfTrailingZeros_0f7a4 48 = .ok (.istore_n 0, 1) := by decide +kernel
theorem dJ6_numberOfTrailingZeros_0f7a4_49 : decode cJ6_numberOfTrailingZeros_0f7a4 49 = .ok (.iload_n 0, 1) := by decide +kernel
theorem dJ6_numberOfTrailingZeros_0f7a4_50 : decode cJ6_numberOfTrailingZeros_0f7a4 50 = .ok (.bipush 16, 2) := by decide +kernel
theorem dJ6_numberOfTrailingZeros_0f7a4_52 : decode cJ6_numberOfTrailingZeros_0f7a4 52 = .ok (.if_icmp .le 10, 3) := by decide +kernel
theorem dJ6_numberOfTrailingZeros_0f7a4_55 : decode cJ6_numberOfTrailingZeros_0f7a4 55 = .ok (.iinc 1 4, 3) := by decide +kernel
theorem dJ6_numberOfTrailingZeros_0f7a4_58 : decode cJ6_numberOfTrailingZeros_0f7a4 58 = .ok (.iload_n 0, 1) := by decide +kernel
theorem dJ6_numberOfTrailingZeros_0f7a4_59 : decode cJ6_numberOfTrailingZeros_0f7a4 59 = .ok (.iconst 4, 1) := by decide +kernel
theorem dJ6_numberOfTrailingZeros_0f7a4_60 : decode cJ6_numberOfTrailingZeros_0f7a4 60 = .ok (.iushr, 1) := by decide +kernel
theorem dJ6_numberOfTrailingZeros_0f7a4_61 : decode cJ6_numberOfTrailingZeros_0f7a4 61 = .ok (.istore_n 0, 1) := by decide +kernel
theorem dJ6_numberOfTrailingZeros_0f7a4_62 : decode cJ6_numberOfTrailingZeros_0f7a4 62 = .ok (.iload_n 0, 1) := by decide +kernel
theorem dJ6_numberOfTrailingZeros_0f7a4_63 : decode cJ6_numberOfTrailingZeros_0f7a4 63 = .ok (.iconst 4, 1) := by decide +kernel
theorem dJ6_numberOfTrailingZeros_0f7a4_64 : decode cJ6_numberOfTrailingZeros_0f7a4 64 = .ok (.if_icmp .le 10, 3) := by decide +kernel
theorem dJ6_numberOfTrailingZeros_0f7a4_67 : decode cJ6_numberOfTrailingZeros_0f7a4 67 = .ok (.iinc 1 2, 3) := by decide +kernel
theorem dJ6_numberOfTrailingZeros_0f7a4_70 : decode cJ6_numberOfTrailingZeros_0f7a4 70 = .ok (.iload_n 0, 1) := by decide +kernel
theorem dJ6_numberOfTrailingZeros_0f7a4_71 : decode cJ6_numberOfTrailingZeros_0f7a4 71 = .ok (.iconst 2, 1) := by decide +kernel
theorem dJ6_numberOfTrailingZeros_0f7a4_72 : decode cJ6_numberOfTrailingZeros_0f7a4 72 = .ok (.iushr, 1) := by decide +kernel
theorem dJ6_numberOfTrailingZeros_0f7a4_73 : decode cJ6_numberOfTrailingZeros_0f7a4 73 = .ok (.istore_n 0, 1) := by decide +kernel
theorem dJ6_numberOfTrailingZeros_0f7a4_74 : decode cJ6_numberOfTrailingZeros_0f7a4 74 = .ok (.iload_n 1, 1) := by decide +kernel
theorem dJ6_numberOfTrailingZeros_0f7a4_75 : decode cJ6_numberOfTrailingZeros_0f7a4 75 = .ok (.iload_n 0, 1) := by decide +kernel
theorem dJ6_numberOfTrailingZeros_0f7a4_76 : decode cJ6_numberOfTrailingZeros_0f7a4 76 = .ok (.iconst 1, 1) := by decide +kernel
theorem dJ6_numberOfTrailingZeros_0f7a4_77 : decode cJ6_numberOfTrailingZeros_0f7a4 77 = .ok (.iushr, 1) := by decide +kernel
theorem dJ6_numberOfTrailingZeros_0f7a4_78 : decode cJ6_numberOfTrailingZeros_0f7a4 78 = .ok (.iadd, 1) := by decide +kernel
theorem dJ6_numberOfTrailingZeros_0f7a4_79 : decode cJ6_numberOfTrailingZeros_0f7a4 79 = .ok (.ireturn, 1) := by decide +kernel
set_option maxRecDepth 100000 in
set_option maxHeartbeats 4000000 in
theorem v_J6_numberOfTrailingZeros_0f7a4_b74 {l : Launch} {p : Program} {e : Env} {s : State} {mt : MethodId} {args : Array Value} {below : List Frame} {meth : Method} {c : Code} {A : Nat → Prop} {ad0 : Nat → Nat} {G : Gt} {S : Nat → Sh} {N : Nat} {R : Rf} (C : Cx G p s mt args meth c RJ6 cJ6_numberOfTrailingZeros_0f7a4 2 (some .int) "numberOfTrailingZeros" A)  (y0 : Int32) (y1 : Int32) (m : Mem) : V G S oI l p e s mt args below meth c 2 1 A ad0 N N R N R 74 [(0, .int y0), (1, .int y1)] [] m (J6_numberOfTrailingZeros_0f7a4_b74  y0 y1 m) := by
  rw [J6_numberOfTrailingZeros_0f7a4_b74]
  refine V.iload_n (pc := 74) C dJ6_numberOfTrailingZeros_0f7a4_74 1 rfl ?_
  refine V.iload_n (pc := 75) C dJ6_numberOfTrailingZeros_0f7a4_75 0 rfl ?_
  refine V.iconst (pc := 76) C dJ6_numberOfTrailingZeros_0f7a4_76 (v := 1) (by decide) ?_
  refine V.iushr (pc := 77) C dJ6_numberOfTrailingZeros_0f7a4_77 ?_
  refine V.iadd (pc := 78) C dJ6_numberOfTrailingZeros_0f7a4_78 ?_
  exact V.iret C dJ6_numberOfTrailingZeros_0f7a4_79
set_option maxRecDepth 100000 in
set_option maxHeartbeats 4000000 in
theorem v_J6_numberOfTrailingZeros_0f7a4_b62 {l : Launch} {p : Program} {e : Env} {s : State} {mt : MethodId} {args : Array Value} {below : List Frame} {meth : Method} {c : Code} {A : Nat → Prop} {ad0 : Nat → Nat} {G : Gt} {S : Nat → Sh} {N : Nat} {R : Rf} (C : Cx G p s mt args meth c RJ6 cJ6_numberOfTrailingZeros_0f7a4 2 (some .int) "numberOfTrailingZeros" A)  (y0 : Int32) (y1 : Int32) (m : Mem) : V G S oI l p e s mt args below meth c 2 1 A ad0 N N R N R 62 [(0, .int y0), (1, .int y1)] [] m (J6_numberOfTrailingZeros_0f7a4_b62  y0 y1 m) := by
  rw [J6_numberOfTrailingZeros_0f7a4_b62]
  refine V.iload_n (pc := 62) C dJ6_numberOfTrailingZeros_0f7a4_62 0 rfl ?_
  refine V.iconst (pc := 63) C dJ6_numberOfTrailingZeros_0f7a4_63 (v := 4) (by decide) ?_
  refine V.icmp_le (pc := 64) C dJ6_numberOfTrailingZeros_0f7a4_64 74 (by decide) (fun _ => ?_) (fun _ => ?_)
  · refine V.wk [0, 1] rfl ?_
    exact v_J6_numberOfTrailingZeros_0f7a4_b74 C  y0 y1 m
  · refine V.iinc (pc := 67) C dJ6_numberOfTrailingZeros_0f7a4_67 (v := 2) (L2 := [(1, .int (y1 + 2)), (0, .int y0)]) 1 rfl (by decide) (by decide) rfl ?_
    refine V.iload_n (pc := 70) C dJ6_numberOfTrailingZeros_0f7a4_70 1 rfl ?_
    refine V.iconst (pc := 71) C dJ6_numberOfTrailingZeros_0f7a4_71 (v := 2) (by decide) ?_
    refine V.iushr (pc := 72) C dJ6_numberOfTrailingZeros_0f7a4_72 ?_
    refine V.lti (fun x_2 _ => ?_)
    refine V.istore_n (pc := 73) C dJ6_numberOfTrailingZeros_0f7a4_73 (L2 := [(0, .int x_2), (1, .int (y1 + 2))]) (by decide) rfl ?_
    refine V.wk [0, 1] rfl ?_
    exact v_J6_numberOfTrailingZeros_0f7a4_b74 C  x_2 (y1 + 2) m
set_option maxRecDepth 100000 in
set_option maxHeartbeats 4000000 in
theorem v_J6_numberOfTrailingZeros_0f7a4_b49 {l : Launch} {p : Program} {e : Env} {s : State} {mt : MethodId} {args : Array Value} {below : List Frame} {meth : Method} {c : Code} {A : Nat → Prop} {ad0 : Nat → Nat} {G : Gt} {S : Nat → Sh} {N : Nat} {R : Rf} (C : Cx G p s mt args meth c RJ6 cJ6_numberOfTrailingZeros_0f7a4 2 (some .int) "numberOfTrailingZeros" A)  (y0 : Int32) (y1 : Int32) (m : Mem) : V G S oI l p e s mt args below meth c 2 1 A ad0 N N R N R 49 [(0, .int y0), (1, .int y1)] [] m (J6_numberOfTrailingZeros_0f7a4_b49  y0 y1 m) := by
  rw [J6_numberOfTrailingZeros_0f7a4_b49]
  refine V.iload_n (pc := 49) C dJ6_numberOfTrailingZeros_0f7a4_49 0 rfl ?_
  refine V.bipush (pc := 50) C dJ6_numberOfTrailingZeros_0f7a4_50 (v := 16) (by decide) ?_
  refine V.icmp_le (pc := 52) C dJ6_numberOfTrailingZeros_0f7a4_52 62 (by decide) (fun _ => ?_) (fun _ => ?_)
  · refine V.wk [0, 1] rfl ?_
    exact v_J6_numberOfTrailingZeros_0f7a4_b62 C  y0 y1 m
  · refine V.iinc (pc := 55) C dJ6_numberOfTrailingZeros_0f7a4_55 (v := 4) (L2 := [(1, .int (y1 + 4)), (0, .int y0)]) 1 rfl (by decide) (by decide) rfl ?_
    refine V.iload_n (pc := 58) C dJ6_numberOfTrailingZeros_0f7a4_58 1 rfl ?_
    refine V.iconst (pc := 59) C dJ6_numberOfTrailingZeros_0f7a4_59 (v := 4) (by decide) ?_
    refine V.iushr (pc := 60) C dJ6_numberOfTrailingZeros_0f7a4_60 ?_
    refine V.lti (fun x_3 _ => ?_)
    refine V.istore_n (pc := 61) C dJ6_numberOfTrailingZeros_0f7a4_61 (L2 := [(0, .int x_3), (1, .int (y1 + 4))]) (by decide) rfl ?_
    refine V.wk [0, 1] rfl ?_
    exact v_J6_numberOfTrailingZeros_0f7a4_b62 C  x_3 (y1 + 4) m
set_option maxRecDepth 100000 in
set_option maxHeartbeats 4000000 in
theorem v_J6_numberOfTrailingZeros_0f7a4_b34 {l : Launch} {p : Program} {e : Env} {s : State} {mt : MethodId} {args : Array Value} {below : List Frame} {meth : Method} {c : Code} {A : Nat → Prop} {ad0 : Nat → Nat} {G : Gt} {S : Nat → Sh} {N : Nat} {R : Rf} (C : Cx G p s mt args meth c RJ6 cJ6_numberOfTrailingZeros_0f7a4 2 (some .int) "numberOfTrailingZeros" A)  (y0 : Int32) (y1 : Int32) (m : Mem) : V G S oI l p e s mt args below meth c 2 1 A ad0 N N R N R 34 [(0, .int y0), (1, .int y1)] [] m (J6_numberOfTrailingZeros_0f7a4_b34  y0 y1 m) := by
  rw [J6_numberOfTrailingZeros_0f7a4_b34]
  refine V.iload_n (pc := 34) C dJ6_numberOfTrailingZeros_0f7a4_34 0 rfl ?_
  refine V.sipush (pc := 35) C dJ6_numberOfTrailingZeros_0f7a4_35 (v := 256) (by decide) ?_
  refine V.icmp_le (pc := 38) C dJ6_numberOfTrailingZeros_0f7a4_38 49 (by decide) (fun _ => ?_) (fun _ => ?_)
  · refine V.wk [0, 1] rfl ?_
    exact v_J6_numberOfTrailingZeros_0f7a4_b49 C  y0 y1 m
  · refine V.iinc (pc := 41) C dJ6_numberOfTrailingZeros_0f7a4_41 (v := 8) (L2 := [(1, .int (y1 + 8)), (0, .int y0)]) 1 rfl (by decide) (by decide) rfl ?_
    refine V.iload_n (pc := 44) C dJ6_numberOfTrailingZeros_0f7a4_44 1 rfl ?_
    refine V.bipush (pc := 45) C dJ6_numberOfTrailingZeros_0f7a4_45 (v := 8) (by decide) ?_
    refine V.iushr (pc := 47) C dJ6_numberOfTrailingZeros_0f7a4_47 ?_
    refine V.lti (fun x_4 _ => ?_)
    refine V.istore_n (pc := 48) C dJ6_numberOfTrailingZeros_0f7a4_48 (L2 := [(0, .int x_4), (1, .int (y1 + 8))]) (by decide) rfl ?_
    refine V.wk [0, 1] rfl ?_
    exact v_J6_numberOfTrailingZeros_0f7a4_b49 C  x_4 (y1 + 8) m
set_option maxRecDepth 100000 in
set_option maxHeartbeats 4000000 in
theorem v_J6_numberOfTrailingZeros_0f7a4 {l : Launch} {p : Program} {e : Env} {s : State} {mt : MethodId} {args : Array Value} {below : List Frame} {meth : Method} {c : Code} {A : Nat → Prop} {ad0 : Nat → Nat} {G : Gt} {S : Nat → Sh} {N : Nat} {R : Rf} (C : Cx G p s mt args meth c RJ6 cJ6_numberOfTrailingZeros_0f7a4 2 (some .int) "numberOfTrailingZeros" A)  (x1 : Int32) (m : Mem) : V G S oI l p e s mt args below meth c 2 1 A ad0 N N R N R 0 [(0, .int x1)] [] m (J6_numberOfTrailingZeros_0f7a4  x1 m) := by
  rw [J6_numberOfTrailingZeros_0f7a4]
  refine V.iload_n (pc := 0) C dJ6_numberOfTrailingZeros_0f7a4_0 0 rfl ?_
  refine V.iconst (pc := 1) C dJ6_numberOfTrailingZeros_0f7a4_1 (v := (-1)) (by decide) ?_
  refine V.ixor (pc := 2) C dJ6_numberOfTrailingZeros_0f7a4_2 ?_
  refine V.iload_n (pc := 3) C dJ6_numberOfTrailingZeros_0f7a4_3 0 rfl ?_
  refine V.iconst (pc := 4) C dJ6_numberOfTrailingZeros_0f7a4_4 (v := 1) (by decide) ?_
  refine V.isub (pc := 5) C dJ6_numberOfTrailingZeros_0f7a4_5 ?_
  refine V.iand (pc := 6) C dJ6_numberOfTrailingZeros_0f7a4_6 ?_
  refine V.lti (fun x_1 _ => ?_)
  refine V.istore_n (pc := 7) C dJ6_numberOfTrailingZeros_0f7a4_7 (L2 := [(0, .int x_1)]) (by decide) rfl ?_
  refine V.iload_n (pc := 8) C dJ6_numberOfTrailingZeros_0f7a4_8 0 rfl ?_
  refine V.if_gt (pc := 9) C dJ6_numberOfTrailingZeros_0f7a4_9 17 (by decide) (fun _ => ?_) (fun _ => ?_)
  · refine V.iconst (pc := 17) C dJ6_numberOfTrailingZeros_0f7a4_17 (v := 1) (by decide) ?_
    refine V.istore_n (pc := 18) C dJ6_numberOfTrailingZeros_0f7a4_18 (L2 := [(1, .int 1), (0, .int x_1)]) (by decide) rfl ?_
    refine V.iload_n (pc := 19) C dJ6_numberOfTrailingZeros_0f7a4_19 1 rfl ?_
    refine V.ldcw (pc := 20) C dJ6_numberOfTrailingZeros_0f7a4_20 (v := 65536) cn_RJ6_264 ?_
    refine V.icmp_le (pc := 23) C dJ6_numberOfTrailingZeros_0f7a4_23 34 (by decide) (fun _ => ?_) (fun _ => ?_)
    · refine V.wk [1, 0] rfl ?_
      exact v_J6_numberOfTrailingZeros_0f7a4_b34 C  x_1 1 m
    · refine V.iinc (pc := 26) C dJ6_numberOfTrailingZeros_0f7a4_26 (v := 16) (L2 := [(1, .int (1 + 16)), (0, .int x_1)]) 0 rfl (by decide) (by decide) rfl ?_
      refine V.iload_n (pc := 29) C dJ6_numberOfTrailingZeros_0f7a4_29 1 rfl ?_
      refine V.bipush (pc := 30) C dJ6_numberOfTrailingZeros_0f7a4_30 (v := 16) (by decide) ?_
      refine V.iushr (pc := 32) C dJ6_numberOfTrailingZeros_0f7a4_32 ?_
      refine V.lti (fun x_5 _ => ?_)
      refine V.istore_n (pc := 33) C dJ6_numberOfTrailingZeros_0f7a4_33 (L2 := [(0, .int x_5), (1, .int (1 + 16))]) (by decide) rfl ?_
      refine V.wk [0, 1] rfl ?_
      exact v_J6_numberOfTrailingZeros_0f7a4_b34 C  x_5 (1 + 16) m
  · refine V.iload_n (pc := 12) C dJ6_numberOfTrailingZeros_0f7a4_12 0 rfl ?_
    refine V.bipush (pc := 13) C dJ6_numberOfTrailingZeros_0f7a4_13 (v := 32) (by decide) ?_
    refine V.iand (pc := 15) C dJ6_numberOfTrailingZeros_0f7a4_15 ?_
    exact V.iret C dJ6_numberOfTrailingZeros_0f7a4_16
theorem c_J6_numberOfTrailingZeros_0f7a4 (l : Launch) {S : Nat → Sh} {N : Nat} {R : Rf}  (x1 : Int32) (m : Mem) : Ct l yJ6_numberOfTrailingZeros_0f7a4 cJ6_numberOfTrailingZeros_0f7a4 2 (some .int) 1 S oI N N R R [.int x1] m (J6_numberOfTrailingZeros_0f7a4  x1 m) :=
  Ct.of (own := RJ6) (nm := "numberOfTrailingZeros") (by decide) rfl rfl (Nat.le_of_ble_eq_true rfl) (fun _ _ _ _ _ _ _ _ _ _ _ C => v_J6_numberOfTrailingZeros_0f7a4 C  x1 m)
theorem dX0_join_0 : decode cX0_join 0 = .ok (.iload_n 0, 1) := by decide +kernel
theorem dX0_join_1 : decode cX0_join 1 = .ok (.tableswitch 99 (-15) (-8) #[95, 99, 83, 71, 59, 55, 51, 47], 47) := by decide +kernel
theorem dX0_join_48 : decode cX0_join 48 = .ok (.lload_n 1, 1) := by decide +kernel
theorem dX0_join_49 : decode cX0_join 49 = .ok (.lload_n 3, 1) := by decide +kernel
theorem dX0_join_50 : decode cX0_join 50 = .ok (.ladd, 1) := by decide +kernel
theorem dX0_join_51 : decode cX0_join 51 = .ok (.lreturn, 1) := by decide +kernel
theorem dX0_join_52 : decode cX0_join 52 = .ok (.lload_n 1, 1) := by decide +kernel
theorem dX0_join_53 : decode cX0_join 53 = .ok (.lload_n 3, 1) := by decide +kernel
theorem dX0_join_54 : decode cX0_join 54 = .ok (.lsub, 1) := by decide +kernel
theorem dX0_join_55 : decode cX0_join 55 = .ok (.lreturn, 1) := by decide +kernel
theorem dX0_join_56 : decode cX0_join 56 = .ok (.lload_n 1, 1) := by decide +kernel
theorem dX0_join_57 : decode cX0_join 57 = .ok (.lload_n 3, 1) := by decide +kernel
theorem dX0_join_58 : decode cX0_join 58 = .ok (.lmul, 1) := by decide +kernel
theorem dX0_join_59 : decode cX0_join 59 = .ok (.lreturn, 1) := by decide +kernel
theorem dX0_join_60 : decode cX0_join 60 = .ok (.lload_n 1, 1) := by decide +kernel
theorem dX0_join_61 : decode cX0_join 61 = .ok (.lload_n 3, 1) := by decide +kernel
theorem dX0_join_62 : decode cX0_join 62 = .ok (.lcmp, 1) := by decide +kernel
theorem dX0_join_63 : decode cX0_join 63 = .ok (.ifCond .ne 7, 3) := by decide +kernel
theorem dX0_join_66 : decode cX0_join 66 = .ok (.lconst 1, 1) := by decide +kernel
theorem dX0_join_67 : decode cX0_join 67 = .ok (.goto 4, 3) := by decide +kernel
theorem dX0_join_70 : decode cX0_join 70 = .ok (.lconst 0, 1) := by decide +kernel
theorem dX0_join_71 : decode cX0_join 71 = .ok (.lreturn, 1) := by decide +kernel
theorem dX0_join_72 : decode cX0_join 72 = .ok (.lload_n 1, 1) := by decide +kernel
theorem dX0_join_73 : decode cX0_join 73 = .ok (.lload_n 3, 1) := by decide +kernel
theorem dX0_join_74 : decode cX0_join 74 = .ok (.lcmp, 1) := by decide +kernel
theorem dX0_join_75 : decode cX0_join 75 = .ok (.ifCond .ge 7, 3) := by decide +kernel
theorem dX0_join_78 : decode cX0_join 78 = .ok (.lconst 1, 1) := by decide +kernel
theorem dX0_join_79 : decode cX0_join 79 = .ok (.goto 4, 3) := by decide +kernel
theorem dX0_join_82 : decode cX0_join 82 = .ok (.lconst 0, 1) := by decide +kernel
theorem dX0_join_83 : decode cX0_join 83 = .ok (.lreturn, 1) := by decide +kernel
theorem dX0_join_84 : decode cX0_join 84 = .ok (.lload_n 1, 1) := by decide +kernel
theorem dX0_join_85 : decode cX0_join 85 = .ok (.lload_n 3, 1) := by decide +kernel
theorem dX0_join_86 : decode cX0_join 86 = .ok (.lcmp, 1) := by decide +kernel
theorem dX0_join_87 : decode cX0_join 87 = .ok (.ifCond .le 7, 3) := by decide +kernel
theorem dX0_join_90 : decode cX0_join 90 = .ok (.lconst 1, 1) := by decide +kernel
theorem dX0_join_91 : decode cX0_join 91 = .ok (.goto 4, 3) := by decide +kernel
theorem dX0_join_94 : decode cX0_join 94 = .ok (.lconst 0, 1) := by decide +kernel
theorem dX0_join_95 : decode cX0_join 95 = .ok (.lreturn, 1) := by decide +kernel
theorem dX0_join_96 : decode cX0_join 96 = .ok (.lload_n 1, 1) := by decide +kernel
theorem dX0_join_97 : decode cX0_join 97 = .ok (.lload_n 3, 1) := by decide +kernel
theorem dX0_join_98 : decode cX0_join 98 = .ok (.land, 1) := by decide +kernel
theorem dX0_join_99 : decode cX0_join 99 = .ok (.lreturn, 1) := by decide +kernel
theorem dX0_join_100 : decode cX0_join 100 = .ok (.lload_n 1, 1) := by decide +kernel
theorem dX0_join_101 : decode cX0_join 101 = .ok (.lload_n 3, 1) := by decide +kernel
theorem dX0_join_102 : decode cX0_join 102 = .ok (.lor, 1) := by decide +kernel
theorem dX0_join_103 : decode cX0_join 103 = .ok (.lreturn, 1) := by decide +kernel
set_option maxRecDepth 100000 in
set_option maxHeartbeats 4000000 in
theorem v_X0_join {l : Launch} {p : Program} {e : Env} {s : State} {mt : MethodId} {args : Array Value} {below : List Frame} {meth : Method} {c : Code} {A : Nat → Prop} {ad0 : Nat → Nat} {G : Gt} {N : Nat} (C : Cx G p s mt args meth c RX0 cX0_join 5 (some .long) "join" A) (hN : 109 ≤ N) (x1 : Int32) (x2 : Int64) (x3 : Int64) (m : Mem) : V G SX oL l p e s mt args below meth c 5 1 A ad0 N N RX N RX 0 [(0, .int x1), (1, .long x2), (3, .long x3)] [] m (X0_join  x1 x2 x3 m) := by
  rw [X0_join]
  refine V.iload_n (pc := 0) C dX0_join_0 0 rfl ?_
  refine V.br (fun h_1 => ?_) (fun h_1 => ?_)
  · refine V.tin (pc := 1) (x := x1) (j := (-15)) (tgt := 96) C dX0_join_1 h_1 (by decide) (by decide) rfl (by decide) ?_
    refine V.lload_n (pc := 96) C dX0_join_96 1 rfl ?_
    refine V.lload_n (pc := 97) C dX0_join_97 2 rfl ?_
    refine V.land (pc := 98) C dX0_join_98 ?_
    exact V.lret C dX0_join_99
  · refine V.br (fun h_2 => ?_) (fun h_2 => ?_)
    · refine V.tin (pc := 1) (x := x1) (j := (-14)) (tgt := 100) C dX0_join_1 h_2 (by decide) (by decide) rfl (by decide) ?_
      refine V.lload_n (pc := 100) C dX0_join_100 1 rfl ?_
      refine V.lload_n (pc := 101) C dX0_join_101 2 rfl ?_
      refine V.lor (pc := 102) C dX0_join_102 ?_
      exact V.lret C dX0_join_103
    · refine V.br (fun h_3 => ?_) (fun h_3 => ?_)
      · refine V.tin (pc := 1) (x := x1) (j := (-13)) (tgt := 84) C dX0_join_1 h_3 (by decide) (by decide) rfl (by decide) ?_
        refine V.lload_n (pc := 84) C dX0_join_84 1 rfl ?_
        refine V.lload_n (pc := 85) C dX0_join_85 2 rfl ?_
        refine V.lcmp (pc := 86) C dX0_join_86 ?_
        refine V.if_le (pc := 87) C dX0_join_87 94 (by decide) (fun _ => ?_) (fun _ => ?_)
        · refine V.lconst (pc := 94) C dX0_join_94 (v := 0) (by decide) ?_
          exact V.lret C dX0_join_95
        · refine V.lconst (pc := 90) C dX0_join_90 (v := 1) (by decide) ?_
          refine V.goto (pc := 91) C dX0_join_91 95 (by decide) ?_
          exact V.lret C dX0_join_95
      · refine V.br (fun h_4 => ?_) (fun h_4 => ?_)
        · refine V.tin (pc := 1) (x := x1) (j := (-12)) (tgt := 72) C dX0_join_1 h_4 (by decide) (by decide) rfl (by decide) ?_
          refine V.lload_n (pc := 72) C dX0_join_72 1 rfl ?_
          refine V.lload_n (pc := 73) C dX0_join_73 2 rfl ?_
          refine V.lcmp (pc := 74) C dX0_join_74 ?_
          refine V.if_ge (pc := 75) C dX0_join_75 82 (by decide) (fun _ => ?_) (fun _ => ?_)
          · refine V.lconst (pc := 82) C dX0_join_82 (v := 0) (by decide) ?_
            exact V.lret C dX0_join_83
          · refine V.lconst (pc := 78) C dX0_join_78 (v := 1) (by decide) ?_
            refine V.goto (pc := 79) C dX0_join_79 83 (by decide) ?_
            exact V.lret C dX0_join_83
        · refine V.br (fun h_5 => ?_) (fun h_5 => ?_)
          · refine V.tin (pc := 1) (x := x1) (j := (-11)) (tgt := 60) C dX0_join_1 h_5 (by decide) (by decide) rfl (by decide) ?_
            refine V.lload_n (pc := 60) C dX0_join_60 1 rfl ?_
            refine V.lload_n (pc := 61) C dX0_join_61 2 rfl ?_
            refine V.lcmp (pc := 62) C dX0_join_62 ?_
            refine V.if_ne (pc := 63) C dX0_join_63 70 (by decide) (fun _ => ?_) (fun _ => ?_)
            · refine V.lconst (pc := 70) C dX0_join_70 (v := 0) (by decide) ?_
              exact V.lret C dX0_join_71
            · refine V.lconst (pc := 66) C dX0_join_66 (v := 1) (by decide) ?_
              refine V.goto (pc := 67) C dX0_join_67 71 (by decide) ?_
              exact V.lret C dX0_join_71
          · refine V.br (fun h_6 => ?_) (fun h_6 => ?_)
            · refine V.tin (pc := 1) (x := x1) (j := (-10)) (tgt := 56) C dX0_join_1 h_6 (by decide) (by decide) rfl (by decide) ?_
              refine V.lload_n (pc := 56) C dX0_join_56 1 rfl ?_
              refine V.lload_n (pc := 57) C dX0_join_57 2 rfl ?_
              refine V.lmul (pc := 58) C dX0_join_58 ?_
              exact V.lret C dX0_join_59
            · refine V.br (fun h_7 => ?_) (fun h_7 => ?_)
              · refine V.tin (pc := 1) (x := x1) (j := (-9)) (tgt := 52) C dX0_join_1 h_7 (by decide) (by decide) rfl (by decide) ?_
                refine V.lload_n (pc := 52) C dX0_join_52 1 rfl ?_
                refine V.lload_n (pc := 53) C dX0_join_53 2 rfl ?_
                refine V.lsub (pc := 54) C dX0_join_54 ?_
                exact V.lret C dX0_join_55
              · refine V.br (fun h_8 => ?_) (fun h_8 => ?_)
                · refine V.tin (pc := 1) (x := x1) (j := (-8)) (tgt := 48) C dX0_join_1 h_8 (by decide) (by decide) rfl (by decide) ?_
                  refine V.lload_n (pc := 48) C dX0_join_48 1 rfl ?_
                  refine V.lload_n (pc := 49) C dX0_join_49 2 rfl ?_
                  refine V.ladd (pc := 50) C dX0_join_50 ?_
                  exact V.lret C dX0_join_51
                · have g0 := lv_neT h_1 (show ((-15) : Int32).toInt = (-15) from by decide)
                  have g1 := lv_neT h_2 (show ((-14) : Int32).toInt = (-14) from by decide)
                  have g2 := lv_neT h_3 (show ((-13) : Int32).toInt = (-13) from by decide)
                  have g3 := lv_neT h_4 (show ((-12) : Int32).toInt = (-12) from by decide)
                  have g4 := lv_neT h_5 (show ((-11) : Int32).toInt = (-11) from by decide)
                  have g5 := lv_neT h_6 (show ((-10) : Int32).toInt = (-10) from by decide)
                  have g6 := lv_neT h_7 (show ((-9) : Int32).toInt = (-9) from by decide)
                  have g7 := lv_neT h_8 (show ((-8) : Int32).toInt = (-8) from by decide)
                  refine V.tout (pc := 1) (x := x1) (tgt := 100) C dX0_join_1 (by omega) (by decide) ?_
                  refine V.lload_n (pc := 100) C dX0_join_100 1 rfl ?_
                  refine V.lload_n (pc := 101) C dX0_join_101 2 rfl ?_
                  refine V.lor (pc := 102) C dX0_join_102 ?_
                  exact V.lret C dX0_join_103
theorem c_X0_join (l : Launch) {N : Nat} (hN : 109 ≤ N) (x1 : Int32) (x2 : Int64) (x3 : Int64) (m : Mem) : Ct l yX0_join cX0_join 5 (some .long) 1 SX oL N N RX RX [.int x1, .long x2, .long x3] m (X0_join  x1 x2 x3 m) :=
  Ct.of (own := RX0) (nm := "join") (by decide) rfl rfl (Nat.le_of_ble_eq_true rfl) (fun _ _ _ _ _ _ _ _ _ _ _ C => v_X0_join C hN x1 x2 x3 m)
theorem dX0_keepWithin_0 : decode cX0_keepWithin 0 = .ok (.lload_n 0, 1) := by decide +kernel
theorem dX0_keepWithin_1 : decode cX0_keepWithin 1 = .ok (.ldc2_w 33, 3) := by decide +kernel
theorem dX0_keepWithin_4 : decode cX0_keepWithin 4 = .ok (.lcmp, 1) := by decide +kernel
theorem dX0_keepWithin_5 : decode cX0_keepWithin 5 = .ok (.ifCond .le 8, 3) := by decide +kernel
theorem dX0_keepWithin_8 : decode cX0_keepWithin 8 = .ok (.ldc 35, 2) := by decide +kernel
theorem dX0_keepWithin_10 : decode cX0_keepWithin 10 = .ok (.goto 18, 3) := by decide +kernel
theorem dX0_keepWithin_13 : decode cX0_keepWithin 13 = .ok (.lload_n 0, 1) := by decide +kernel
theorem dX0_keepWithin_14 : decode cX0_keepWithin 14 = .ok (.ldc2_w 36, 3) := by decide +kernel
theorem dX0_keepWithin_17 : decode cX0_keepWithin 17 = .ok (.lcmp, 1) := by decide +kernel
theorem dX0_keepWithin_18 : decode cX0_keepWithin 18 = .ok (.ifCond .ge 8, 3) := by decide +kernel
theorem dX0_keepWithin_21 : decode cX0_keepWithin 21 = .ok (.ldc 38, 2) := by decide +kernel
theorem dX0_keepWithin_23 : decode cX0_keepWithin 23 = .ok (.goto 5, 3) := by decide +kernel
theorem dX0_keepWithin_26 : decode cX0_keepWithin 26 = .ok (.lload_n 0, 1) := by decide +kernel
theorem dX0_keepWithin_27 : decode cX0_keepWithin 27 = .ok (.l2i, 1) := by decide +kernel
theorem dX0_keepWithin_28 : decode cX0_keepWithin 28 = .ok (.ireturn, 1) := by decide +kernel
set_option maxRecDepth 100000 in
set_option maxHeartbeats 4000000 in
theorem v_X0_keepWithin {l : Launch} {p : Program} {e : Env} {s : State} {mt : MethodId} {args : Array Value} {below : List Frame} {meth : Method} {c : Code} {A : Nat → Prop} {ad0 : Nat → Nat} {G : Gt} {N : Nat} (C : Cx G p s mt args meth c RX0 cX0_keepWithin 2 (some .int) "keepWithin" A) (hN : 109 ≤ N) (x1 : Int64) (m : Mem) : V G SX oI l p e s mt args below meth c 2 1 A ad0 N N RX N RX 0 [(0, .long x1)] [] m (X0_keepWithin  x1 m) := by
  rw [X0_keepWithin]
  refine V.lload_n (pc := 0) C dX0_keepWithin_0 0 rfl ?_
  refine V.ldc2 (pc := 1) C dX0_keepWithin_1 (v := 1000000) cl_RX0_33 ?_
  refine V.lcmp (pc := 4) C dX0_keepWithin_4 ?_
  refine V.if_le (pc := 5) C dX0_keepWithin_5 13 (by decide) (fun _ => ?_) (fun _ => ?_)
  · refine V.lload_n (pc := 13) C dX0_keepWithin_13 0 rfl ?_
    refine V.ldc2 (pc := 14) C dX0_keepWithin_14 (v := (-1000000)) cl_RX0_36 ?_
    refine V.lcmp (pc := 17) C dX0_keepWithin_17 ?_
    refine V.if_ge (pc := 18) C dX0_keepWithin_18 26 (by decide) (fun _ => ?_) (fun _ => ?_)
    · refine V.lload_n (pc := 26) C dX0_keepWithin_26 0 rfl ?_
      refine V.l2i (pc := 27) C dX0_keepWithin_27 ?_
      exact V.iret C dX0_keepWithin_28
    · refine V.ldc (pc := 21) C dX0_keepWithin_21 (v := (-1000000)) cn_RX0_38 ?_
      refine V.goto (pc := 23) C dX0_keepWithin_23 28 (by decide) ?_
      exact V.iret C dX0_keepWithin_28
  · refine V.ldc (pc := 8) C dX0_keepWithin_8 (v := 1000000) cn_RX0_35 ?_
    refine V.goto (pc := 10) C dX0_keepWithin_10 28 (by decide) ?_
    exact V.iret C dX0_keepWithin_28
theorem c_X0_keepWithin (l : Launch) {N : Nat} (hN : 109 ≤ N) (x1 : Int64) (m : Mem) : Ct l yX0_keepWithin cX0_keepWithin 2 (some .int) 1 SX oI N N RX RX [.long x1] m (X0_keepWithin  x1 m) :=
  Ct.of (own := RX0) (nm := "keepWithin") (by decide) rfl rfl (Nat.le_of_ble_eq_true rfl) (fun _ _ _ _ _ _ _ _ _ _ _ C => v_X0_keepWithin C hN x1 m)
theorem dX0_reckon_0 : decode cX0_reckon 0 = .ok (.iconst 0, 1) := by decide +kernel
theorem dX0_reckon_1 : decode cX0_reckon 1 = .ok (.istore_n 2, 1) := by decide +kernel
theorem dX0_reckon_2 : decode cX0_reckon 2 = .ok (.iconst 0, 1) := by decide +kernel
theorem dX0_reckon_3 : decode cX0_reckon 3 = .ok (.istore_n 3, 1) := by decide +kernel
theorem dX0_reckon_4 : decode cX0_reckon 4 = .ok (.iload_n 3, 1) := by decide +kernel
theorem dX0_reckon_5 : decode cX0_reckon 5 = .ok (.aload_n 1, 1) := by decide +kernel
theorem dX0_reckon_6 : decode cX0_reckon 6 = .ok (.getfield 16, 3) := by decide +kernel
theorem dX0_reckon_9 : decode cX0_reckon 9 = .ok (.if_icmp .ge 133, 3) := by decide +kernel
theorem dX0_reckon_12 : decode cX0_reckon 12 = .ok (.aload_n 1, 1) := by decide +kernel
theorem dX0_reckon_13 : decode cX0_reckon 13 = .ok (.getfield 22, 3) := by decide +kernel
theorem dX0_reckon_16 : decode cX0_reckon 16 = .ok (.iload_n 3, 1) := by decide +kernel
theorem dX0_reckon_17 : decode cX0_reckon 17 = .ok (.iaload, 1) := by decide +kernel
theorem dX0_reckon_18 : decode cX0_reckon 18 = .ok (.istore 4, 2) := by decide +kernel
theorem dX0_reckon_20 : decode cX0_reckon 20 = .ok (.iload 4, 2) := by decide +kernel
theorem dX0_reckon_22 : decode cX0_reckon 22 = .ok (.bipush (-7), 2) := by decide +kernel
theorem dX0_reckon_24 : decode cX0_reckon 24 = .ok (.if_icmp .lt 40, 3) := by decide +kernel
theorem dX0_reckon_27 : decode cX0_reckon 27 = .ok (.iload_n 2, 1) := by decide +kernel
theorem dX0_reckon_28 : decode cX0_reckon 28 = .ok (.bipush 32, 2) := by decide +kernel
theorem dX0_reckon_30 : decode cX0_reckon 30 = .ok (.if_icmp .ge 106, 3) := by decide +kernel
theorem dX0_reckon_33 : decode cX0_reckon 33 = .ok (.aload_n 0, 1) := by decide +kernel
theorem dX0_reckon_34 : decode cX0_reckon 34 = .ok (.getfield 13, 3) := by decide +kernel
theorem dX0_reckon_37 : decode cX0_reckon 37 = .ok (.iload_n 2, 1) := by decide +kernel
theorem dX0_reckon_38 : decode cX0_reckon 38 = .ok (.iload 4, 2) := by decide +kernel
theorem dX0_reckon_40 : decode cX0_reckon 40 = .ok (.ifCond .lt 8, 3) := by decide +kernel
theorem dX0_reckon_43 : decode cX0_reckon 43 = .ok (.iload 4, 2) := by decide +kernel
theorem dX0_reckon_45 : decode cX0_reckon 45 = .ok (.goto 12, 3) := by decide +kernel
theorem dX0_reckon_48 : decode cX0_reckon 48 = .ok (.aload_n 0, 1) := by decide +kernel
theorem dX0_reckon_49 : decode cX0_reckon 49 = .ok (.getfield 9, 3) := by decide +kernel
theorem dX0_reckon_52 : decode cX0_reckon 52 = .ok (.iconst (-1), 1) := by decide +kernel
theorem dX0_reckon_53 : decode cX0_reckon 53 = .ok (.iload 4, 2) := by decide +kernel
theorem dX0_reckon_55 : decode cX0_reckon 55 = .ok (.isub, 1) := by decide +kernel
theorem dX0_reckon_56 : decode cX0_reckon 56 = .ok (.iaload, 1) := by decide +kernel
theorem dX0_reckon_57 : decode cX0_reckon 57 = .ok (.iastore, 1) := by decide +kernel
theorem dX0_reckon_58 : decode cX0_reckon 58 = .ok (.iinc 2 1, 3) := by decide +kernel
theorem dX0_reckon_61 : decode cX0_reckon 61 = .ok (.goto 75, 3) := by decide +kernel
theorem dX0_reckon_64 : decode cX0_reckon 64 = .ok (.iload 4, 2) := by decide +kernel
theorem dX0_reckon_66 : decode cX0_reckon 66 = .ok (.bipush (-14), 2) := by decide +kernel
theorem dX0_reckon_68 : decode cX0_reckon 68 = .ok (.if_icmp .ne 28, 3) := by decide +kernel
theorem dX0_reckon_71 : decode cX0_reckon 71 = .ok (.iload_n 2, 1) := by decide +kernel
theorem dX0_reckon_72 : decode cX0_reckon 72 = .ok (.ifCond .le 64, 3) := by decide +kernel
theorem dX0_reckon_75 : decode cX0_reckon 75 = .ok (.aload_n 0, 1) := by decide +kernel
theorem dX0_reckon_76 : decode cX0_reckon 76 = .ok (.getfield 13, 3) := by decide +kernel
theorem dX0_reckon_79 : decode cX0_reckon 79 = .ok (.iload_n 2, 1) := by decide +kernel
theorem dX0_reckon_80 : decode cX0_reckon 80 = .ok (.iconst 1, 1) := by decide +kernel
theorem dX0_reckon_81 : decode cX0_reckon 81 = .ok (.isub, 1) := by decide +kernel
theorem dX0_reckon_82 : decode cX0_reckon 82 = .ok (.iconst 1, 1) := by decide +kernel
theorem dX0_reckon_83 : decode cX0_reckon 83 = .ok (.aload_n 0, 1) := by decide +kernel
theorem dX0_reckon_84 : decode cX0_reckon 84 = .ok (.getfield 13, 3) := by decide +kernel
theorem dX0_reckon_87 : decode cX0_reckon 87 = .ok (.iload_n 2, 1) := by decide +kernel
theorem dX0_reckon_88 : decode cX0_reckon 88 = .ok (.iconst 1, 1) := by decide +kernel
theorem dX0_reckon_89 : decode cX0_reckon 89 = .ok (.isub, 1) := by decide +kernel
theorem dX0_reckon_90 : decode cX0_reckon 90 = .ok (.iaload, 1) := by decide +kernel
theorem dX0_reckon_91 : decode cX0_reckon 91 = .ok (.isub, 1) := by decide +kernel
theorem dX0_reckon_92 : decode cX0_reckon 92 = .ok (.iastore, 1) := by decide +kernel
theorem dX0_reckon_93 : decode cX0_reckon 93 = .ok (.goto 43, 3) := by decide +kernel
theorem dX0_reckon_96 : decode cX0_reckon 96 = .ok (.iload_n 2, 1) := by decide +kernel
theorem dX0_reckon_97 : decode cX0_reckon 97 = .ok (.iconst 1, 1) := by decide +kernel
theorem dX0_reckon_98 : decode cX0_reckon 98 = .ok (.if_icmp .le 38, 3) := by decide +kernel
theorem dX0_reckon_101 : decode cX0_reckon 101 = .ok (.iinc 2 (-1), 3) := by decide +kernel
theorem dX0_reckon_104 : decode cX0_reckon 104 = .ok (.aload_n 0, 1) := by decide +kernel
theorem dX0_reckon_105 : decode cX0_reckon 105 = .ok (.getfield 13, 3) := by decide +kernel
theorem dX0_reckon_108 : decode cX0_reckon 108 = .ok (.iload_n 2, 1) := by decide +kernel
theorem dX0_reckon_109 : decode cX0_reckon 109 = .ok (.iconst 1, 1) := by decide +kernel
theorem dX0_reckon_110 : decode cX0_reckon 110 = .ok (.isub, 1) := by decide +kernel
theorem dX0_reckon_111 : decode cX0_reckon 111 = .ok (.iload 4, 2) := by decide +kernel
theorem dX0_reckon_113 : decode cX0_reckon 113 = .ok (.aload_n 0, 1) := by decide +kernel
theorem dX0_reckon_114 : decode cX0_reckon 114 = .ok (.getfield 13, 3) := by decide +kernel
theorem dX0_reckon_117 : decode cX0_reckon 117 = .ok (.iload_n 2, 1) := by decide +kernel
theorem dX0_reckon_118 : decode cX0_reckon 118 = .ok (.iconst 1, 1) := by decide +kernel
theorem dX0_reckon_119 : decode cX0_reckon 119 = .ok (.isub, 1) := by decide +kernel
theorem dX0_reckon_120 : decode cX0_reckon 120 = .ok (.iaload, 1) := by decide +kernel
theorem dX0_reckon_121 : decode cX0_reckon 121 = .ok (.i2l, 1) := by decide +kernel
theorem dX0_reckon_122 : decode cX0_reckon 122 = .ok (.aload_n 0, 1) := by decide +kernel
theorem dX0_reckon_123 : decode cX0_reckon 123 = .ok (.getfield 13, 3) := by decide +kernel
theorem dX0_reckon_126 : decode cX0_reckon 126 = .ok (.iload_n 2, 1) := by decide +kernel
theorem dX0_reckon_127 : decode cX0_reckon 127 = .ok (.iaload, 1) := by decide +kernel
theorem dX0_reckon_128 : decode cX0_reckon 128 = .ok (.i2l, 1) := by decide +kernel
theorem dX0_reckon_129 : decode cX0_reckon 129 = .ok (.invokestatic 25, 3) := by decide +kernel
theorem dX0_reckon_132 : decode cX0_reckon 132 = .ok (.invokestatic 29, 3) := by decide +kernel
theorem dX0_reckon_135 : decode cX0_reckon 135 = .ok (.iastore, 1) := by decide +kernel
theorem dX0_reckon_136 : decode cX0_reckon 136 = .ok (.iinc 3 1, 3) := by decide +kernel
theorem dX0_reckon_139 : decode cX0_reckon 139 = .ok (.goto (-135), 3) := by decide +kernel
theorem dX0_reckon_142 : decode cX0_reckon 142 = .ok (.aload_n 0, 1) := by decide +kernel
theorem dX0_reckon_143 : decode cX0_reckon 143 = .ok (.getfield 13, 3) := by decide +kernel
theorem dX0_reckon_146 : decode cX0_reckon 146 = .ok (.iconst 0, 1) := by decide +kernel
theorem dX0_reckon_147 : decode cX0_reckon 147 = .ok (.iaload, 1) := by decide +kernel
theorem dX0_reckon_148 : decode cX0_reckon 148 = .ok (.ireturn, 1) := by decide +kernel
set_option maxRecDepth 100000 in
set_option maxHeartbeats 4000000 in
theorem v_X0_reckon_b57 {l : Launch} {p : Program} {e : Env} {s : State} {mt : MethodId} {args : Array Value} {below : List Frame} {meth : Method} {c : Code} {A : Nat → Prop} {ad0 : Nat → Nat} {G : Gt} {N : Nat} (C : Cx G p s mt args meth c RX0 cX0_reckon 5 (some .int) "reckon" A) (hN : 109 ≤ N) (b1 : Nat) (hb1 : isLaw N b1) (k4 : Int32 → Int32 → Mem → Option (Int32 × Mem)) (h4 : ∀ (y2 : Int32) (y3 : Int32) (m : Mem), V G SX oI l p e s mt args below meth c 5 2 A ad0 N N RX N RX 4 [(0, .ref 22), (1, .ref b1), (2, .int y2), (3, .int y3)] [] m (k4 y2 y3 m)) (y2 : Int32) (y3 : Int32) (z0 : Int32) (z1 : Int32) (m : Mem) : V G SX oI l p e s mt args below meth c 5 2 A ad0 N N RX N RX 57 [(0, .ref 22), (1, .ref b1), (2, .int y2), (3, .int y3)] [.int z0, .int z1, .ref 24] m (X0_reckon_b57 b1 k4 y2 y3 z0 z1 m) := by
  rw [X0_reckon_b57]
  refine V.iast (pc := 57) C sX24 (kX24 hN) dX0_reckon_57 (fun _ => ?_)
  refine V.ltm (fun m_8 => ?_)
  refine V.iinc (pc := 58) C dX0_reckon_58 (v := 1) (L2 := [(2, .int (y2 + 1)), (0, .ref 22), (1, .ref b1), (3, .int y3)]) 2 rfl (by decide) (by decide) rfl ?_
  refine V.goto (pc := 61) C dX0_reckon_61 136 (by decide) ?_
  refine V.iinc (pc := 136) C dX0_reckon_136 (v := 1) (L2 := [(3, .int (y3 + 1)), (2, .int (y2 + 1)), (0, .ref 22), (1, .ref b1)]) 3 rfl (by decide) (by decide) rfl ?_
  refine V.goto (pc := 139) C dX0_reckon_139 4 (by decide) ?_
  refine V.wk [2, 3, 1, 0] rfl ?_
  exact h4 (y2 + 1) (y3 + 1) m_8
set_option maxRecDepth 100000 in
set_option maxHeartbeats 4000000 in
theorem v_X0_reckon_b4 {l : Launch} {p : Program} {e : Env} {s : State} {mt : MethodId} {args : Array Value} {below : List Frame} {meth : Method} {c : Code} {A : Nat → Prop} {ad0 : Nat → Nat} {G : Gt} {N : Nat} (C : Cx G p s mt args meth c RX0 cX0_reckon 5 (some .int) "reckon" A) (hN : 109 ≤ N) (b1 : Nat) (hb1 : isLaw N b1) : ∀ (n : Nat) (y2 : Int32) (y3 : Int32) (m : Mem), V G SX oI l p e s mt args below meth c 5 2 A ad0 N N RX N RX 4 [(0, .ref 22), (1, .ref b1), (2, .int y2), (3, .int y3)] [] m (X0_reckon_b4 b1 n y2 y3 m) := by
  intro n
  induction n with
  | zero =>
    intro y2 y3 m
    rw [X0_reckon_b4]
    exact V.nil
  | succ n ih =>
    intro y2 y3 m
    rw [X0_reckon_b4]
    refine V.iload_n (pc := 4) C dX0_reckon_4 3 rfl ?_
    refine V.aload_n (pc := 5) C dX0_reckon_5 1 rfl ?_
    refine V.geti (pc := 6) C fl_RX0_16 hb1.s hb1.k rfl dX0_reckon_6 ?_
    refine V.icmp_ge (pc := 9) C dX0_reckon_9 142 (by decide) (fun _ => ?_) (fun _ => ?_)
    · refine V.aload_n (pc := 142) C dX0_reckon_142 0 rfl ?_
      refine V.getr (pc := 143) C fl_RX0_13 sX22 (kX22 hN) rfl rX22_1 dX0_reckon_143 ?_
      refine V.iconst (pc := 146) C dX0_reckon_146 (v := 0) (by decide) ?_
      refine V.iald (pc := 147) C sX24 (kX24 hN) dX0_reckon_147 (fun _ => ?_)
      exact V.iret C dX0_reckon_148
    · refine V.aload_n (pc := 12) C dX0_reckon_12 1 rfl ?_
      refine V.getr (pc := 13) C fl_RX0_22 hb1.s hb1.k rfl hb1.r0 dX0_reckon_13 ?_
      refine V.iload_n (pc := 16) C dX0_reckon_16 3 rfl ?_
      refine V.iald (pc := 17) C hb1.s1 hb1.k1 dX0_reckon_17 (fun _ => ?_)
      refine V.lti (fun x_1 _ => ?_)
      refine V.istore (pc := 18) C dX0_reckon_18 (L2 := [(4, .int x_1), (0, .ref 22), (1, .ref b1), (2, .int y2), (3, .int y3)]) (by decide) rfl ?_
      refine V.iload (pc := 20) C dX0_reckon_20 0 rfl ?_
      refine V.bipush (pc := 22) C dX0_reckon_22 (v := (-7)) (by decide) ?_
      refine V.icmp_lt (pc := 24) C dX0_reckon_24 64 (by decide) (fun _ => ?_) (fun _ => ?_)
      · refine V.iload (pc := 64) C dX0_reckon_64 0 rfl ?_
        refine V.bipush (pc := 66) C dX0_reckon_66 (v := (-14)) (by decide) ?_
        refine V.icmp_ne (pc := 68) C dX0_reckon_68 96 (by decide) (fun _ => ?_) (fun _ => ?_)
        · refine V.iload_n (pc := 96) C dX0_reckon_96 3 rfl ?_
          refine V.iconst (pc := 97) C dX0_reckon_97 (v := 1) (by decide) ?_
          refine V.icmp_le (pc := 98) C dX0_reckon_98 136 (by decide) (fun _ => ?_) (fun _ => ?_)
          · refine V.iinc (pc := 136) C dX0_reckon_136 (v := 1) (L2 := [(3, .int (y3 + 1)), (4, .int x_1), (0, .ref 22), (1, .ref b1), (2, .int y2)]) 4 rfl (by decide) (by decide) rfl ?_
            refine V.goto (pc := 139) C dX0_reckon_139 4 (by decide) ?_
            refine V.wk [2, 3, 4, 0] rfl ?_
            exact ih y2 (y3 + 1) m
          · refine V.iinc (pc := 101) C dX0_reckon_101 (v := (-1)) (L2 := [(2, .int (y2 + (-1))), (4, .int x_1), (0, .ref 22), (1, .ref b1), (3, .int y3)]) 3 rfl (by decide) (by decide) rfl ?_
            refine V.aload_n (pc := 104) C dX0_reckon_104 2 rfl ?_
            refine V.getr (pc := 105) C fl_RX0_13 sX22 (kX22 hN) rfl rX22_1 dX0_reckon_105 ?_
            refine V.iload_n (pc := 108) C dX0_reckon_108 0 rfl ?_
            refine V.iconst (pc := 109) C dX0_reckon_109 (v := 1) (by decide) ?_
            refine V.isub (pc := 110) C dX0_reckon_110 ?_
            refine V.iload (pc := 111) C dX0_reckon_111 1 rfl ?_
            refine V.aload_n (pc := 113) C dX0_reckon_113 2 rfl ?_
            refine V.getr (pc := 114) C fl_RX0_13 sX22 (kX22 hN) rfl rX22_1 dX0_reckon_114 ?_
            refine V.iload_n (pc := 117) C dX0_reckon_117 0 rfl ?_
            refine V.iconst (pc := 118) C dX0_reckon_118 (v := 1) (by decide) ?_
            refine V.isub (pc := 119) C dX0_reckon_119 ?_
            refine V.iald (pc := 120) C sX24 (kX24 hN) dX0_reckon_120 (fun _ => ?_)
            refine V.i2l (pc := 121) C dX0_reckon_121 ?_
            refine V.aload_n (pc := 122) C dX0_reckon_122 2 rfl ?_
            refine V.getr (pc := 123) C fl_RX0_13 sX22 (kX22 hN) rfl rX22_1 dX0_reckon_123 ?_
            refine V.iload_n (pc := 126) C dX0_reckon_126 0 rfl ?_
            refine V.iald (pc := 127) C sX24 (kX24 hN) dX0_reckon_127 (fun _ => ?_)
            refine V.i2l (pc := 128) C dX0_reckon_128 ?_
            refine V.callS (pc := 129) (st := [.int ((y2 + (-1)) - 1), .ref 24]) C (c_X0_join l hN x_1 (Int32.toInt64 (gi m 24 (ix ((y2 + (-1)) - 1)))) (Int32.toInt64 (gi m 24 (ix (y2 + (-1))))) m) obL ck_X0_join ml_RX0_25 rfl rfl (Nat.le_of_ble_eq_true rfl) ⟨by decide, by decide⟩ dX0_reckon_129 (fun r_2 m_3 _ => ?_)
            refine V.callS (pc := 132) (st := [.int ((y2 + (-1)) - 1), .ref 24]) C (c_X0_keepWithin l hN r_2 m_3) obI ck_X0_keepWithin ml_RX0_29 rfl rfl (Nat.le_of_ble_eq_true rfl) ⟨by decide, by decide⟩ dX0_reckon_132 (fun r_4 m_5 _ => ?_)
            refine V.iast (pc := 135) C sX24 (kX24 hN) dX0_reckon_135 (fun _ => ?_)
            refine V.ltm (fun m_6 => ?_)
            refine V.iinc (pc := 136) C dX0_reckon_136 (v := 1) (L2 := [(3, .int (y3 + 1)), (2, .int (y2 + (-1))), (4, .int x_1), (0, .ref 22), (1, .ref b1)]) 4 rfl (by decide) (by decide) rfl ?_
            refine V.goto (pc := 139) C dX0_reckon_139 4 (by decide) ?_
            refine V.wk [3, 4, 1, 0] rfl ?_
            exact ih (y2 + (-1)) (y3 + 1) m_6
        · refine V.iload_n (pc := 71) C dX0_reckon_71 3 rfl ?_
          refine V.if_le (pc := 72) C dX0_reckon_72 136 (by decide) (fun _ => ?_) (fun _ => ?_)
          · refine V.iinc (pc := 136) C dX0_reckon_136 (v := 1) (L2 := [(3, .int (y3 + 1)), (4, .int x_1), (0, .ref 22), (1, .ref b1), (2, .int y2)]) 4 rfl (by decide) (by decide) rfl ?_
            refine V.goto (pc := 139) C dX0_reckon_139 4 (by decide) ?_
            refine V.wk [2, 3, 4, 0] rfl ?_
            exact ih y2 (y3 + 1) m
          · refine V.aload_n (pc := 75) C dX0_reckon_75 1 rfl ?_
            refine V.getr (pc := 76) C fl_RX0_13 sX22 (kX22 hN) rfl rX22_1 dX0_reckon_76 ?_
            refine V.iload_n (pc := 79) C dX0_reckon_79 3 rfl ?_
            refine V.iconst (pc := 80) C dX0_reckon_80 (v := 1) (by decide) ?_
            refine V.isub (pc := 81) C dX0_reckon_81 ?_
            refine V.iconst (pc := 82) C dX0_reckon_82 (v := 1) (by decide) ?_
            refine V.aload_n (pc := 83) C dX0_reckon_83 1 rfl ?_
            refine V.getr (pc := 84) C fl_RX0_13 sX22 (kX22 hN) rfl rX22_1 dX0_reckon_84 ?_
            refine V.iload_n (pc := 87) C dX0_reckon_87 3 rfl ?_
            refine V.iconst (pc := 88) C dX0_reckon_88 (v := 1) (by decide) ?_
            refine V.isub (pc := 89) C dX0_reckon_89 ?_
            refine V.iald (pc := 90) C sX24 (kX24 hN) dX0_reckon_90 (fun _ => ?_)
            refine V.isub (pc := 91) C dX0_reckon_91 ?_
            refine V.iast (pc := 92) C sX24 (kX24 hN) dX0_reckon_92 (fun _ => ?_)
            refine V.ltm (fun m_7 => ?_)
            refine V.goto (pc := 93) C dX0_reckon_93 136 (by decide) ?_
            refine V.iinc (pc := 136) C dX0_reckon_136 (v := 1) (L2 := [(3, .int (y3 + 1)), (4, .int x_1), (0, .ref 22), (1, .ref b1), (2, .int y2)]) 4 rfl (by decide) (by decide) rfl ?_
            refine V.goto (pc := 139) C dX0_reckon_139 4 (by decide) ?_
            refine V.wk [2, 3, 4, 0] rfl ?_
            exact ih y2 (y3 + 1) m_7
      · refine V.iload_n (pc := 27) C dX0_reckon_27 3 rfl ?_
        refine V.bipush (pc := 28) C dX0_reckon_28 (v := 32) (by decide) ?_
        refine V.icmp_ge (pc := 30) C dX0_reckon_30 136 (by decide) (fun _ => ?_) (fun _ => ?_)
        · refine V.iinc (pc := 136) C dX0_reckon_136 (v := 1) (L2 := [(3, .int (y3 + 1)), (4, .int x_1), (0, .ref 22), (1, .ref b1), (2, .int y2)]) 4 rfl (by decide) (by decide) rfl ?_
          refine V.goto (pc := 139) C dX0_reckon_139 4 (by decide) ?_
          refine V.wk [2, 3, 4, 0] rfl ?_
          exact ih y2 (y3 + 1) m
        · refine V.aload_n (pc := 33) C dX0_reckon_33 1 rfl ?_
          refine V.getr (pc := 34) C fl_RX0_13 sX22 (kX22 hN) rfl rX22_1 dX0_reckon_34 ?_
          refine V.iload_n (pc := 37) C dX0_reckon_37 3 rfl ?_
          refine V.iload (pc := 38) C dX0_reckon_38 0 rfl ?_
          refine V.if_lt (pc := 40) C dX0_reckon_40 48 (by decide) (fun _ => ?_) (fun _ => ?_)
          · refine V.aload_n (pc := 48) C dX0_reckon_48 1 rfl ?_
            refine V.getr (pc := 49) C fl_RX0_9 sX22 (kX22 hN) rfl rX22_0 dX0_reckon_49 ?_
            refine V.iconst (pc := 52) C dX0_reckon_52 (v := (-1)) (by decide) ?_
            refine V.iload (pc := 53) C dX0_reckon_53 0 rfl ?_
            refine V.isub (pc := 55) C dX0_reckon_55 ?_
            refine V.iald (pc := 56) C sX23 (kX23 hN) dX0_reckon_56 (fun _ => ?_)
            refine V.wk [1, 2, 3, 4] rfl ?_
            exact v_X0_reckon_b57 C hN b1 hb1 (X0_reckon_b4 b1 n) ih y2 y3 (gi m 23 (ix ((-1) - x_1))) y2 m
          · refine V.iload (pc := 43) C dX0_reckon_43 0 rfl ?_
            refine V.goto (pc := 45) C dX0_reckon_45 57 (by decide) ?_
            refine V.wk [1, 2, 3, 4] rfl ?_
            exact v_X0_reckon_b57 C hN b1 hb1 (X0_reckon_b4 b1 n) ih y2 y3 x_1 y2 m
set_option maxRecDepth 100000 in
set_option maxHeartbeats 4000000 in
theorem v_X0_reckon {l : Launch} {p : Program} {e : Env} {s : State} {mt : MethodId} {args : Array Value} {below : List Frame} {meth : Method} {c : Code} {A : Nat → Prop} {ad0 : Nat → Nat} {G : Gt} {N : Nat} (C : Cx G p s mt args meth c RX0 cX0_reckon 5 (some .int) "reckon" A) (hN : 109 ≤ N) (b1 : Nat) (hb1 : isLaw N b1) (m : Mem) : V G SX oI l p e s mt args below meth c 5 2 A ad0 N N RX N RX 0 [(0, .ref 22), (1, .ref b1)] [] m (X0_reckon b1  m) := by
  rw [X0_reckon]
  refine V.iconst (pc := 0) C dX0_reckon_0 (v := 0) (by decide) ?_
  refine V.istore_n (pc := 1) C dX0_reckon_1 (L2 := [(2, .int 0), (0, .ref 22), (1, .ref b1)]) (by decide) rfl ?_
  refine V.iconst (pc := 2) C dX0_reckon_2 (v := 0) (by decide) ?_
  refine V.istore_n (pc := 3) C dX0_reckon_3 (L2 := [(3, .int 0), (2, .int 0), (0, .ref 22), (1, .ref b1)]) (by decide) rfl ?_
  refine V.wk [2, 3, 1, 0] rfl ?_
  exact v_X0_reckon_b4 C hN b1 hb1 FU 0 0 m
theorem c_X0_reckon (l : Launch) {N : Nat} (hN : 109 ≤ N) (b1 : Nat) (hb1 : isLaw N b1) (m : Mem) : Ct l yX0_reckon cX0_reckon 5 (some .int) 2 SX oI N N RX RX [.ref 22, .ref b1] m (X0_reckon b1  m) :=
  Ct.of (own := RX0) (nm := "reckon") (by decide) rfl rfl (Nat.le_of_ble_eq_true rfl) (fun _ _ _ _ _ _ _ _ _ _ _ C => v_X0_reckon C hN b1 hb1  m)
