theorem dX4_init_0 : decode cX4_init 0 = .ok (.aload_n 0, 1) := by decide +kernel
theorem dX4_init_1 : decode cX4_init 1 = .ok (.invokespecial 3, 3) := by decide +kernel
theorem dX4_init_4 : decode cX4_init 4 = .ok (.aload_n 0, 1) := by decide +kernel
theorem dX4_init_5 : decode cX4_init 5 = .ok (.sipush 900, 3) := by decide +kernel
theorem dX4_init_8 : decode cX4_init 8 = .ok (.newarray .int, 2) := by decide +kernel
theorem dX4_init_10 : decode cX4_init 10 = .ok (.putfield 9, 3) := by decide +kernel
theorem dX4_init_13 : decode cX4_init 13 = .ok (.return_, 1) := by decide +kernel
def X4_init (a : Nat) (m : Mem) : Option (Unit × Mem) :=
  some ((), (nw m (a + 1)))
def rX4 (R : Rf) (a : Nat) : Rf := (up2 (rnw R (a + 1)) a 0 (some (a + 1)))
set_option maxRecDepth 100000 in
set_option maxHeartbeats 4000000 in
theorem vi_X4 {l : Launch} {p : Program} {e : Env} {s : State} {mt : MethodId} {args : Array Value} {below : List Frame} {meth : Method} {c : Code} {A : Nat → Prop} {ad0 : Nat → Nat} {G : Gt} (C : Cx G p s mt args meth c RX4 cX4_init 1 none "<init>" A) {Nx : Nat} (a : Nat) (ha : isLaw Nx a) (R : Rf) (m : Mem) (hk : NK SX (a + 1) R m) : V G SX oV l p e s mt args below meth c 1 2 A ad0 (a + 1) (a + 2) (rX4 R a) (a + 1) R 0 [(0, .ref a)] [] m (X4_init a m) := by
  rw [X4_init]
  refine V.aload_n (pc := 0) C dX4_init_0 0 rfl ?_
  refine V.obj (pc := 1) (st := []) C oj_RX4_3 oj_i oj_c (by decide) (Nat.le_of_ble_eq_true rfl) dX4_init_1 ?_
  refine V.aload_n (pc := 4) C dX4_init_4 0 rfl ?_
  refine V.sipush (pc := 5) C dX4_init_5 (v := 900) (by decide) ?_
  refine V.newi (pc := 8) (n := 900) (st := [.ref a]) C ac_int ha.s1 (by decide) (by decide) (by decide) hk (List.forall_mem_cons.mpr ⟨okR (by omega), (fun _ h => absurd h List.not_mem_nil)⟩) (List.forall_mem_cons.mpr ⟨okR (by omega), (fun _ h => absurd h List.not_mem_nil)⟩) dX4_init_8 ?_
  refine V.putr (pc := 10) C fp_RX4_9 rfl rfl ha.s (by omega) rfl rfl dX4_init_10 ?_
  exact V.vret C dX4_init_13
theorem ci_X4 (l : Launch) {Nx : Nat} (a : Nat) (ha : isLaw Nx a) (R : Rf) (m : Mem) (hk : NK SX (a + 1) R m) : Ct l yX4_init cX4_init 1 none 2 SX oV (a + 1) (a + 2) R (rX4 R a) [.ref a] m (X4_init a m) :=
  Ct.of (own := RX4) (nm := "<init>") (by decide) rfl rfl (Nat.le_of_ble_eq_true rfl) (fun _ _ _ _ _ _ _ _ _ _ _ C => vi_X4 C a ha R m hk)
theorem nk_X4 {Nx : Nat} (a : Nat) (ha : isLaw Nx a) {R : Rf} {m mF : Mem} {r : Unit} (hk : NK SX (a + 1) R m) (hf : X4_init a m = some (r, mF)) : NK SX (a + 2) (rX4 R a) mF := by
  rw [X4_init] at hf
  cases hf
  exact (NK.up (a := a) (j := 0) (b := (a + 1)) (NK.new hk) (by omega))
theorem dX8_init_0 : decode cX8_init 0 = .ok (.aload_n 0, 1) := by decide +kernel
theorem dX8_init_1 : decode cX8_init 1 = .ok (.invokespecial 3, 3) := by decide +kernel
theorem dX8_init_4 : decode cX8_init 4 = .ok (.aload_n 0, 1) := by decide +kernel
theorem dX8_init_5 : decode cX8_init 5 = .ok (.bipush 14, 2) := by decide +kernel
theorem dX8_init_7 : decode cX8_init 7 = .ok (.newarray .int, 2) := by decide +kernel
theorem dX8_init_9 : decode cX8_init 9 = .ok (.putfield 9, 3) := by decide +kernel
theorem dX8_init_12 : decode cX8_init 12 = .ok (.aload_n 0, 1) := by decide +kernel
theorem dX8_init_13 : decode cX8_init 13 = .ok (.bipush 8, 2) := by decide +kernel
theorem dX8_init_15 : decode cX8_init 15 = .ok (.newarray .int, 2) := by decide +kernel
theorem dX8_init_17 : decode cX8_init 17 = .ok (.putfield 15, 3) := by decide +kernel
theorem dX8_init_20 : decode cX8_init 20 = .ok (.aload_n 0, 1) := by decide +kernel
theorem dX8_init_21 : decode cX8_init 21 = .ok (.new 18, 3) := by decide +kernel
theorem dX8_init_24 : decode cX8_init 24 = .ok (.dup, 1) := by decide +kernel
theorem dX8_init_25 : decode cX8_init 25 = .ok (.invokespecial 20, 3) := by decide +kernel
theorem dX8_init_28 : decode cX8_init 28 = .ok (.putfield 21, 3) := by decide +kernel
theorem dX8_init_31 : decode cX8_init 31 = .ok (.aload_n 0, 1) := by decide +kernel
theorem dX8_init_32 : decode cX8_init 32 = .ok (.new 18, 3) := by decide +kernel
theorem dX8_init_35 : decode cX8_init 35 = .ok (.dup, 1) := by decide +kernel
theorem dX8_init_36 : decode cX8_init 36 = .ok (.invokespecial 20, 3) := by decide +kernel
theorem dX8_init_39 : decode cX8_init 39 = .ok (.putfield 25, 3) := by decide +kernel
theorem dX8_init_42 : decode cX8_init 42 = .ok (.aload_n 0, 1) := by decide +kernel
theorem dX8_init_43 : decode cX8_init 43 = .ok (.bipush 10, 2) := by decide +kernel
theorem dX8_init_45 : decode cX8_init 45 = .ok (.putfield 28, 3) := by decide +kernel
theorem dX8_init_48 : decode cX8_init 48 = .ok (.aload_n 0, 1) := by decide +kernel
theorem dX8_init_49 : decode cX8_init 49 = .ok (.bipush 14, 2) := by decide +kernel
theorem dX8_init_51 : decode cX8_init 51 = .ok (.putfield 32, 3) := by decide +kernel
theorem dX8_init_54 : decode cX8_init 54 = .ok (.aload_n 0, 1) := by decide +kernel
theorem dX8_init_55 : decode cX8_init 55 = .ok (.invokevirtual 35, 3) := by decide +kernel
theorem dX8_init_58 : decode cX8_init 58 = .ok (.return_, 1) := by decide +kernel
def X8_init (a : Nat) (m : Mem) : Option (Unit × Mem) :=
  bnd (X4_init (a + 3) (nw (nw (nw m (a + 1)) (a + 2)) (a + 3))) fun _ m_1 =>
  bnd (X4_init (a + 5) (nw m_1 (a + 5))) fun _ m_2 =>
  bnd (X8_setFirstLaws a (si (si m_2 a 2 10) a 3 14)) fun _ m_3 =>
  some ((), m_3)
def rX8 (R : Rf) (a : Nat) : Rf := (up2 (rX4 (rnw (up2 (rX4 (rnw (up2 (rnw (up2 (rnw R (a + 1)) a 5 (some (a + 1))) (a + 2)) a 6 (some (a + 2))) (a + 3)) (a + 3)) a 7 (some (a + 3))) (a + 5)) (a + 5)) a 8 (some (a + 5)))
set_option maxRecDepth 100000 in
set_option maxHeartbeats 4000000 in
theorem vi_X8 {l : Launch} {p : Program} {e : Env} {s : State} {mt : MethodId} {args : Array Value} {below : List Frame} {meth : Method} {c : Code} {A : Nat → Prop} {ad0 : Nat → Nat} {G : Gt} (C : Cx G p s mt args meth c RX8 cX8_init 1 none "<init>" A) {Nx : Nat} (a : Nat) (ha : isRules Nx a) (R : Rf) (m : Mem) (hk : NK SX (a + 1) R m) : V G SX oV l p e s mt args below meth c 1 3 A ad0 (a + 1) (a + 7) (rX8 R a) (a + 1) R 0 [(0, .ref a)] [] m (X8_init a m) := by
  rw [X8_init]
  refine V.aload_n (pc := 0) C dX8_init_0 0 rfl ?_
  refine V.obj (pc := 1) (st := []) C oj_RX8_3 oj_i oj_c (by decide) (Nat.le_of_ble_eq_true rfl) dX8_init_1 ?_
  refine V.aload_n (pc := 4) C dX8_init_4 0 rfl ?_
  refine V.bipush (pc := 5) C dX8_init_5 (v := 14) (by decide) ?_
  refine V.newi (pc := 7) (n := 14) (st := [.ref a]) C ac_int ha.s1 (by decide) (by decide) (by decide) hk (List.forall_mem_cons.mpr ⟨okR (by omega), (fun _ h => absurd h List.not_mem_nil)⟩) (List.forall_mem_cons.mpr ⟨okR (by omega), (fun _ h => absurd h List.not_mem_nil)⟩) dX8_init_7 ?_
  refine V.putr (pc := 9) C fp_RX8_9 rfl rfl ha.s (by omega) rfl rfl dX8_init_9 ?_
  refine V.aload_n (pc := 12) C dX8_init_12 0 rfl ?_
  refine V.bipush (pc := 13) C dX8_init_13 (v := 8) (by decide) ?_
  refine V.newi (pc := 15) (n := 8) (st := [.ref a]) C ac_int ha.s2 (by decide) (by decide) (by decide) (NK.up (a := a) (j := 5) (b := (a + 1)) (NK.new hk) (by omega)) (List.forall_mem_cons.mpr ⟨okR (by omega), (fun _ h => absurd h List.not_mem_nil)⟩) (List.forall_mem_cons.mpr ⟨okR (by omega), (fun _ h => absurd h List.not_mem_nil)⟩) dX8_init_15 ?_
  refine V.putr (pc := 17) C fp_RX8_15 rfl rfl ha.s (by omega) rfl rfl dX8_init_17 ?_
  refine V.aload_n (pc := 20) C dX8_init_20 0 rfl ?_
  refine V.new (pc := 21) (st := [.ref a]) C (RX4, TX4, 2) okX4 nwX4 nc_RX8_18 ni_4 nz_4 ha.l7.s (NK.up (a := a) (j := 6) (b := (a + 2)) (NK.new (NK.up (a := a) (j := 5) (b := (a + 1)) (NK.new hk) (by omega))) (by omega)) (List.forall_mem_cons.mpr ⟨okR (by omega), (fun _ h => absurd h List.not_mem_nil)⟩) (List.forall_mem_cons.mpr ⟨okR (by omega), (fun _ h => absurd h List.not_mem_nil)⟩) dX8_init_21 ?_
  refine V.dup (pc := 24) C dX8_init_24 rfl ?_
  refine V.callI (pc := 25) (st := [.ref (a + 3), .ref a]) C (ci_X4 l (a + 3) ha.l7  _ (nw (nw (nw m (a + 1)) (a + 2)) (a + 3)) (NK.new (NK.up (a := a) (j := 6) (b := (a + 2)) (NK.new (NK.up (a := a) (j := 5) (b := (a + 1)) (NK.new hk) (by omega))) (by omega)))) ck_X4_init rfl in_X4_init (Or.inr (by decide)) (by omega) (List.forall_mem_cons.mpr ⟨okR (by omega), (fun _ h => absurd h List.not_mem_nil)⟩) (List.forall_mem_cons.mpr ⟨okR (by omega), (List.forall_mem_cons.mpr ⟨okR (by omega), (fun _ h => absurd h List.not_mem_nil)⟩)⟩) rfl rfl (Nat.le_of_ble_eq_true rfl) ⟨by decide, by decide⟩ dX8_init_25 (fun m_1 hf_1 => ?_)
  have hk_1 := nk_X4 (a + 3) ha.l7 (NK.new (NK.up (a := a) (j := 6) (b := (a + 2)) (NK.new (NK.up (a := a) (j := 5) (b := (a + 1)) (NK.new hk) (by omega))) (by omega))) hf_1
  refine V.putr (pc := 28) C fp_RX8_21 rfl rfl ha.s (by omega) rfl rfl dX8_init_28 ?_
  refine V.aload_n (pc := 31) C dX8_init_31 0 rfl ?_
  refine V.new (pc := 32) (st := [.ref a]) C (RX4, TX4, 2) okX4 nwX4 nc_RX8_18 ni_4 nz_4 ha.l8.s (NK.up (a := a) (j := 7) (b := (a + 3)) hk_1 (by omega)) (List.forall_mem_cons.mpr ⟨okR (by omega), (fun _ h => absurd h List.not_mem_nil)⟩) (List.forall_mem_cons.mpr ⟨okR (by omega), (fun _ h => absurd h List.not_mem_nil)⟩) dX8_init_32 ?_
  refine V.dup (pc := 35) C dX8_init_35 rfl ?_
  refine V.callI (pc := 36) (st := [.ref (a + 5), .ref a]) C (ci_X4 l (a + 5) ha.l8  _ (nw m_1 (a + 5)) (NK.new (NK.up (a := a) (j := 7) (b := (a + 3)) hk_1 (by omega)))) ck_X4_init rfl in_X4_init (Or.inr (by decide)) (by omega) (List.forall_mem_cons.mpr ⟨okR (by omega), (fun _ h => absurd h List.not_mem_nil)⟩) (List.forall_mem_cons.mpr ⟨okR (by omega), (List.forall_mem_cons.mpr ⟨okR (by omega), (fun _ h => absurd h List.not_mem_nil)⟩)⟩) rfl rfl (Nat.le_of_ble_eq_true rfl) ⟨by decide, by decide⟩ dX8_init_36 (fun m_2 hf_2 => ?_)
  have hk_2 := nk_X4 (a + 5) ha.l8 (NK.new (NK.up (a := a) (j := 7) (b := (a + 3)) hk_1 (by omega))) hf_2
  refine V.putr (pc := 39) C fp_RX8_25 rfl rfl ha.s (by omega) rfl rfl dX8_init_39 ?_
  refine V.aload_n (pc := 42) C dX8_init_42 0 rfl ?_
  refine V.bipush (pc := 43) C dX8_init_43 (v := 10) (by decide) ?_
  refine V.puti (pc := 45) C fp_RX8_28 ha.s (by omega) rfl dX8_init_45 ?_
  refine V.aload_n (pc := 48) C dX8_init_48 0 rfl ?_
  refine V.bipush (pc := 49) C dX8_init_49 (v := 14) (by decide) ?_
  refine V.puti (pc := 51) C fp_RX8_32 ha.s (by omega) rfl dX8_init_51 ?_
  refine V.aload_n (pc := 54) C dX8_init_54 0 rfl ?_
  have hrr : isRulesR (up2 (rX4 (rnw (up2 (rX4 (rnw (up2 (rnw (up2 (rnw R (a + 1)) a 5 (some (a + 1))) (a + 2)) a 6 (some (a + 2))) (a + 3)) (a + 3)) a 7 (some (a + 3))) (a + 5)) (a + 5)) a 8 (some (a + 5))) (a + 7) a := ⟨by omega, ha.s, ha.s1, ha.s2, by simp [up2, rnw, rX4] <;> omega, by simp [up2, rnw, rX4] <;> omega, by simp [up2, rnw, rX4] <;> omega, by simp [up2, rnw, rX4] <;> omega, ⟨by omega, ha.l7.s, ha.l7.s1, by simp [up2, rnw, rX4] <;> omega⟩, ⟨by omega, ha.l8.s, ha.l8.s1, by simp [up2, rnw, rX4] <;> omega⟩⟩
  refine V.callV (pc := 55) (st := []) C (cY_X8_setFirstLaws l a hrr (si (si m_2 a 2 10) a 3 14)) obV ck_X8_setFirstLaws ml_RX8_35 rfl rfl ha.s (by omega) rfl rfl (Nat.le_of_ble_eq_true rfl) ⟨by decide, by decide⟩ dX8_init_55 (fun _ m_3 hf_3 => ?_)
  have hk_3 := nk_setFirst ha (NK.si (a := a) (j := 3) (v := 14) (NK.si (a := a) (j := 2) (v := 10) (NK.up (a := a) (j := 8) (b := (a + 5)) hk_2 (by omega)) (by rw [ha.s]; exact fun q => q.1 rfl)) (by rw [ha.s]; exact fun q => q.1 rfl)) hf_3
  exact V.vret C dX8_init_58
theorem ci_X8 (l : Launch) {Nx : Nat} (a : Nat) (ha : isRules Nx a) (R : Rf) (m : Mem) (hk : NK SX (a + 1) R m) : Ct l yX8_init cX8_init 1 none 3 SX oV (a + 1) (a + 7) R (rX8 R a) [.ref a] m (X8_init a m) :=
  Ct.of (own := RX8) (nm := "<init>") (by decide) rfl rfl (Nat.le_of_ble_eq_true rfl) (fun _ _ _ _ _ _ _ _ _ _ _ C => vi_X8 C a ha R m hk)
theorem nk_X8 {Nx : Nat} (a : Nat) (ha : isRules Nx a) {R : Rf} {m mF : Mem} {r : Unit} (hk : NK SX (a + 1) R m) (hf : X8_init a m = some (r, mF)) : NK SX (a + 7) (rX8 R a) mF := by
  rw [X8_init] at hf
  obtain ⟨_, m_1, hf_1, hf⟩ := bnd_some hf
  have hk_1 := nk_X4 (a + 3) ha.l7 (NK.new (NK.up (a := a) (j := 6) (b := (a + 2)) (NK.new (NK.up (a := a) (j := 5) (b := (a + 1)) (NK.new hk) (by omega))) (by omega))) hf_1
  obtain ⟨_, m_2, hf_2, hf⟩ := bnd_some hf
  have hk_2 := nk_X4 (a + 5) ha.l8 (NK.new (NK.up (a := a) (j := 7) (b := (a + 3)) hk_1 (by omega))) hf_2
  obtain ⟨_, m_3, hf_3, hf⟩ := bnd_some hf
  have hk_3 := nk_setFirst ha (NK.si (a := a) (j := 3) (v := 14) (NK.si (a := a) (j := 2) (v := 10) (NK.up (a := a) (j := 8) (b := (a + 5)) hk_2 (by omega)) (by rw [ha.s]; exact fun q => q.1 rfl)) (by rw [ha.s]; exact fun q => q.1 rfl)) hf_3
  cases hf
  exact hk_3
theorem dX5_init_0 : decode cX5_init 0 = .ok (.aload_n 0, 1) := by decide +kernel
theorem dX5_init_1 : decode cX5_init 1 = .ok (.invokespecial 3, 3) := by decide +kernel
theorem dX5_init_4 : decode cX5_init 4 = .ok (.aload_n 0, 1) := by decide +kernel
theorem dX5_init_5 : decode cX5_init 5 = .ok (.bipush 8, 2) := by decide +kernel
theorem dX5_init_7 : decode cX5_init 7 = .ok (.newarray .int, 2) := by decide +kernel
theorem dX5_init_9 : decode cX5_init 9 = .ok (.putfield 9, 3) := by decide +kernel
theorem dX5_init_12 : decode cX5_init 12 = .ok (.aload_n 0, 1) := by decide +kernel
theorem dX5_init_13 : decode cX5_init 13 = .ok (.bipush 8, 2) := by decide +kernel
theorem dX5_init_15 : decode cX5_init 15 = .ok (.newarray .int, 2) := by decide +kernel
theorem dX5_init_17 : decode cX5_init 17 = .ok (.putfield 15, 3) := by decide +kernel
theorem dX5_init_20 : decode cX5_init 20 = .ok (.aload_n 0, 1) := by decide +kernel
theorem dX5_init_21 : decode cX5_init 21 = .ok (.bipush 8, 2) := by decide +kernel
theorem dX5_init_23 : decode cX5_init 23 = .ok (.newarray .int, 2) := by decide +kernel
theorem dX5_init_25 : decode cX5_init 25 = .ok (.putfield 18, 3) := by decide +kernel
theorem dX5_init_28 : decode cX5_init 28 = .ok (.aload_n 0, 1) := by decide +kernel
theorem dX5_init_29 : decode cX5_init 29 = .ok (.bipush 14, 2) := by decide +kernel
theorem dX5_init_31 : decode cX5_init 31 = .ok (.newarray .int, 2) := by decide +kernel
theorem dX5_init_33 : decode cX5_init 33 = .ok (.putfield 21, 3) := by decide +kernel
theorem dX5_init_36 : decode cX5_init 36 = .ok (.aload_n 0, 1) := by decide +kernel
theorem dX5_init_37 : decode cX5_init 37 = .ok (.bipush 112, 2) := by decide +kernel
theorem dX5_init_39 : decode cX5_init 39 = .ok (.newarray .int, 2) := by decide +kernel
theorem dX5_init_41 : decode cX5_init 41 = .ok (.putfield 24, 3) := by decide +kernel
theorem dX5_init_44 : decode cX5_init 44 = .ok (.iconst 0, 1) := by decide +kernel
theorem dX5_init_45 : decode cX5_init 45 = .ok (.istore_n 1, 1) := by decide +kernel
theorem dX5_init_46 : decode cX5_init 46 = .ok (.iload_n 1, 1) := by decide +kernel
theorem dX5_init_47 : decode cX5_init 47 = .ok (.bipush 8, 2) := by decide +kernel
theorem dX5_init_49 : decode cX5_init 49 = .ok (.if_icmp .ge 16, 3) := by decide +kernel
theorem dX5_init_52 : decode cX5_init 52 = .ok (.aload_n 0, 1) := by decide +kernel
theorem dX5_init_53 : decode cX5_init 53 = .ok (.getfield 15, 3) := by decide +kernel
theorem dX5_init_56 : decode cX5_init 56 = .ok (.iload_n 1, 1) := by decide +kernel
theorem dX5_init_57 : decode cX5_init 57 = .ok (.iconst (-1), 1) := by decide +kernel
theorem dX5_init_58 : decode cX5_init 58 = .ok (.iastore, 1) := by decide +kernel
theorem dX5_init_59 : decode cX5_init 59 = .ok (.iinc 1 1, 3) := by decide +kernel
theorem dX5_init_62 : decode cX5_init 62 = .ok (.goto (-16), 3) := by decide +kernel
theorem dX5_init_65 : decode cX5_init 65 = .ok (.return_, 1) := by decide +kernel
def X5_init (a : Nat) (m : Mem) : Option (Unit × Mem) :=
  some ((), (si (si (si (si (si (si (si (si (nw (nw (nw (nw (nw m (a + 1)) (a + 2)) (a + 3)) (a + 4)) (a + 5)) (a + 2) (ix 0) (-1)) (a + 2) (ix 1) (-1)) (a + 2) (ix 2) (-1)) (a + 2) (ix 3) (-1)) (a + 2) (ix 4) (-1)) (a + 2) (ix 5) (-1)) (a + 2) (ix 6) (-1)) (a + 2) (ix 7) (-1)))
def rX5 (R : Rf) (a : Nat) : Rf := (up2 (rnw (up2 (rnw (up2 (rnw (up2 (rnw (up2 (rnw R (a + 1)) a 1 (some (a + 1))) (a + 2)) a 2 (some (a + 2))) (a + 3)) a 3 (some (a + 3))) (a + 4)) a 4 (some (a + 4))) (a + 5)) a 5 (some (a + 5)))
set_option maxRecDepth 100000 in
set_option maxHeartbeats 4000000 in
theorem vi_X5 {l : Launch} {p : Program} {e : Env} {s : State} {mt : MethodId} {args : Array Value} {below : List Frame} {meth : Method} {c : Code} {A : Nat → Prop} {ad0 : Nat → Nat} {G : Gt} (C : Cx G p s mt args meth c RX5 cX5_init 2 none "<init>" A) {Nx : Nat} (a : Nat) (ha : isLife Nx a) (R : Rf) (m : Mem) (hk : NK SX (a + 1) R m) : V G SX oV l p e s mt args below meth c 2 2 A ad0 (a + 1) (a + 6) (rX5 R a) (a + 1) R 0 [(0, .ref a)] [] m (X5_init a m) := by
  rw [X5_init]
  refine V.aload_n (pc := 0) C dX5_init_0 0 rfl ?_
  refine V.obj (pc := 1) (st := []) C oj_RX5_3 oj_i oj_c (by decide) (Nat.le_of_ble_eq_true rfl) dX5_init_1 ?_
  refine V.aload_n (pc := 4) C dX5_init_4 0 rfl ?_
  refine V.bipush (pc := 5) C dX5_init_5 (v := 8) (by decide) ?_
  refine V.newi (pc := 7) (n := 8) (st := [.ref a]) C ac_int ha.s1 (by decide) (by decide) (by decide) hk (List.forall_mem_cons.mpr ⟨okR (by omega), (fun _ h => absurd h List.not_mem_nil)⟩) (List.forall_mem_cons.mpr ⟨okR (by omega), (fun _ h => absurd h List.not_mem_nil)⟩) dX5_init_7 ?_
  refine V.putr (pc := 9) C fp_RX5_9 rfl rfl ha.s (by omega) rfl rfl dX5_init_9 ?_
  refine V.aload_n (pc := 12) C dX5_init_12 0 rfl ?_
  refine V.bipush (pc := 13) C dX5_init_13 (v := 8) (by decide) ?_
  refine V.newi (pc := 15) (n := 8) (st := [.ref a]) C ac_int ha.s2 (by decide) (by decide) (by decide) (NK.up (a := a) (j := 1) (b := (a + 1)) (NK.new hk) (by omega)) (List.forall_mem_cons.mpr ⟨okR (by omega), (fun _ h => absurd h List.not_mem_nil)⟩) (List.forall_mem_cons.mpr ⟨okR (by omega), (fun _ h => absurd h List.not_mem_nil)⟩) dX5_init_15 ?_
  refine V.putr (pc := 17) C fp_RX5_15 rfl rfl ha.s (by omega) rfl rfl dX5_init_17 ?_
  refine V.aload_n (pc := 20) C dX5_init_20 0 rfl ?_
  refine V.bipush (pc := 21) C dX5_init_21 (v := 8) (by decide) ?_
  refine V.newi (pc := 23) (n := 8) (st := [.ref a]) C ac_int ha.s3 (by decide) (by decide) (by decide) (NK.up (a := a) (j := 2) (b := (a + 2)) (NK.new (NK.up (a := a) (j := 1) (b := (a + 1)) (NK.new hk) (by omega))) (by omega)) (List.forall_mem_cons.mpr ⟨okR (by omega), (fun _ h => absurd h List.not_mem_nil)⟩) (List.forall_mem_cons.mpr ⟨okR (by omega), (fun _ h => absurd h List.not_mem_nil)⟩) dX5_init_23 ?_
  refine V.putr (pc := 25) C fp_RX5_18 rfl rfl ha.s (by omega) rfl rfl dX5_init_25 ?_
  refine V.aload_n (pc := 28) C dX5_init_28 0 rfl ?_
  refine V.bipush (pc := 29) C dX5_init_29 (v := 14) (by decide) ?_
  refine V.newi (pc := 31) (n := 14) (st := [.ref a]) C ac_int ha.s4 (by decide) (by decide) (by decide) (NK.up (a := a) (j := 3) (b := (a + 3)) (NK.new (NK.up (a := a) (j := 2) (b := (a + 2)) (NK.new (NK.up (a := a) (j := 1) (b := (a + 1)) (NK.new hk) (by omega))) (by omega))) (by omega)) (List.forall_mem_cons.mpr ⟨okR (by omega), (fun _ h => absurd h List.not_mem_nil)⟩) (List.forall_mem_cons.mpr ⟨okR (by omega), (fun _ h => absurd h List.not_mem_nil)⟩) dX5_init_31 ?_
  refine V.putr (pc := 33) C fp_RX5_21 rfl rfl ha.s (by omega) rfl rfl dX5_init_33 ?_
  refine V.aload_n (pc := 36) C dX5_init_36 0 rfl ?_
  refine V.bipush (pc := 37) C dX5_init_37 (v := 112) (by decide) ?_
  refine V.newi (pc := 39) (n := 112) (st := [.ref a]) C ac_int ha.s5 (by decide) (by decide) (by decide) (NK.up (a := a) (j := 4) (b := (a + 4)) (NK.new (NK.up (a := a) (j := 3) (b := (a + 3)) (NK.new (NK.up (a := a) (j := 2) (b := (a + 2)) (NK.new (NK.up (a := a) (j := 1) (b := (a + 1)) (NK.new hk) (by omega))) (by omega))) (by omega))) (by omega)) (List.forall_mem_cons.mpr ⟨okR (by omega), (fun _ h => absurd h List.not_mem_nil)⟩) (List.forall_mem_cons.mpr ⟨okR (by omega), (fun _ h => absurd h List.not_mem_nil)⟩) dX5_init_39 ?_
  refine V.putr (pc := 41) C fp_RX5_24 rfl rfl ha.s (by omega) rfl rfl dX5_init_41 ?_
  refine V.iconst (pc := 44) C dX5_init_44 (v := 0) (by decide) ?_
  refine V.istore_n (pc := 45) C dX5_init_45 (L2 := [(1, .int 0), (0, .ref a)]) (by decide) rfl ?_
  refine V.iload_n (pc := 46) C dX5_init_46 0 rfl ?_
  refine V.bipush (pc := 47) C dX5_init_47 (v := 8) (by decide) ?_
  refine V.igeF (pc := 49) C dX5_init_49 65 (by decide) (by decide) ?_
  refine V.aload_n (pc := 52) C dX5_init_52 1 rfl ?_
  refine V.getr (pc := 53) (b := (a + 2)) C fl_RX5_15 ha.s (by omega) rfl (by simp [up2, rnw] <;> omega) dX5_init_53 ?_
  refine V.iload_n (pc := 56) C dX5_init_56 0 rfl ?_
  refine V.iconst (pc := 57) C dX5_init_57 (v := (-1)) (by decide) ?_
  refine V.iastC (pc := 58) C ha.s2 (by omega) (by decide) dX5_init_58 ?_
  refine V.iinc (pc := 59) C dX5_init_59 (v := 1) (L2 := [(1, .int 1), (0, .ref a)]) 0 rfl (by decide) (by decide) rfl ?_
  refine V.goto (pc := 62) C dX5_init_62 46 (by decide) ?_
  refine V.iload_n (pc := 46) C dX5_init_46 0 rfl ?_
  refine V.bipush (pc := 47) C dX5_init_47 (v := 8) (by decide) ?_
  refine V.igeF (pc := 49) C dX5_init_49 65 (by decide) (by decide) ?_
  refine V.aload_n (pc := 52) C dX5_init_52 1 rfl ?_
  refine V.getr (pc := 53) (b := (a + 2)) C fl_RX5_15 ha.s (by omega) rfl (by simp [up2, rnw] <;> omega) dX5_init_53 ?_
  refine V.iload_n (pc := 56) C dX5_init_56 0 rfl ?_
  refine V.iconst (pc := 57) C dX5_init_57 (v := (-1)) (by decide) ?_
  refine V.iastC (pc := 58) C ha.s2 (by omega) (by decide) dX5_init_58 ?_
  refine V.iinc (pc := 59) C dX5_init_59 (v := 1) (L2 := [(1, .int 2), (0, .ref a)]) 0 rfl (by decide) (by decide) rfl ?_
  refine V.goto (pc := 62) C dX5_init_62 46 (by decide) ?_
  refine V.iload_n (pc := 46) C dX5_init_46 0 rfl ?_
  refine V.bipush (pc := 47) C dX5_init_47 (v := 8) (by decide) ?_
  refine V.igeF (pc := 49) C dX5_init_49 65 (by decide) (by decide) ?_
  refine V.aload_n (pc := 52) C dX5_init_52 1 rfl ?_
  refine V.getr (pc := 53) (b := (a + 2)) C fl_RX5_15 ha.s (by omega) rfl (by simp [up2, rnw] <;> omega) dX5_init_53 ?_
  refine V.iload_n (pc := 56) C dX5_init_56 0 rfl ?_
  refine V.iconst (pc := 57) C dX5_init_57 (v := (-1)) (by decide) ?_
  refine V.iastC (pc := 58) C ha.s2 (by omega) (by decide) dX5_init_58 ?_
  refine V.iinc (pc := 59) C dX5_init_59 (v := 1) (L2 := [(1, .int 3), (0, .ref a)]) 0 rfl (by decide) (by decide) rfl ?_
  refine V.goto (pc := 62) C dX5_init_62 46 (by decide) ?_
  refine V.iload_n (pc := 46) C dX5_init_46 0 rfl ?_
  refine V.bipush (pc := 47) C dX5_init_47 (v := 8) (by decide) ?_
  refine V.igeF (pc := 49) C dX5_init_49 65 (by decide) (by decide) ?_
  refine V.aload_n (pc := 52) C dX5_init_52 1 rfl ?_
  refine V.getr (pc := 53) (b := (a + 2)) C fl_RX5_15 ha.s (by omega) rfl (by simp [up2, rnw] <;> omega) dX5_init_53 ?_
  refine V.iload_n (pc := 56) C dX5_init_56 0 rfl ?_
  refine V.iconst (pc := 57) C dX5_init_57 (v := (-1)) (by decide) ?_
  refine V.iastC (pc := 58) C ha.s2 (by omega) (by decide) dX5_init_58 ?_
  refine V.iinc (pc := 59) C dX5_init_59 (v := 1) (L2 := [(1, .int 4), (0, .ref a)]) 0 rfl (by decide) (by decide) rfl ?_
  refine V.goto (pc := 62) C dX5_init_62 46 (by decide) ?_
  refine V.iload_n (pc := 46) C dX5_init_46 0 rfl ?_
  refine V.bipush (pc := 47) C dX5_init_47 (v := 8) (by decide) ?_
  refine V.igeF (pc := 49) C dX5_init_49 65 (by decide) (by decide) ?_
  refine V.aload_n (pc := 52) C dX5_init_52 1 rfl ?_
  refine V.getr (pc := 53) (b := (a + 2)) C fl_RX5_15 ha.s (by omega) rfl (by simp [up2, rnw] <;> omega) dX5_init_53 ?_
  refine V.iload_n (pc := 56) C dX5_init_56 0 rfl ?_
  refine V.iconst (pc := 57) C dX5_init_57 (v := (-1)) (by decide) ?_
  refine V.iastC (pc := 58) C ha.s2 (by omega) (by decide) dX5_init_58 ?_
  refine V.iinc (pc := 59) C dX5_init_59 (v := 1) (L2 := [(1, .int 5), (0, .ref a)]) 0 rfl (by decide) (by decide) rfl ?_
  refine V.goto (pc := 62) C dX5_init_62 46 (by decide) ?_
  refine V.iload_n (pc := 46) C dX5_init_46 0 rfl ?_
  refine V.bipush (pc := 47) C dX5_init_47 (v := 8) (by decide) ?_
  refine V.igeF (pc := 49) C dX5_init_49 65 (by decide) (by decide) ?_
  refine V.aload_n (pc := 52) C dX5_init_52 1 rfl ?_
  refine V.getr (pc := 53) (b := (a + 2)) C fl_RX5_15 ha.s (by omega) rfl (by simp [up2, rnw] <;> omega) dX5_init_53 ?_
  refine V.iload_n (pc := 56) C dX5_init_56 0 rfl ?_
  refine V.iconst (pc := 57) C dX5_init_57 (v := (-1)) (by decide) ?_
  refine V.iastC (pc := 58) C ha.s2 (by omega) (by decide) dX5_init_58 ?_
  refine V.iinc (pc := 59) C dX5_init_59 (v := 1) (L2 := [(1, .int 6), (0, .ref a)]) 0 rfl (by decide) (by decide) rfl ?_
  refine V.goto (pc := 62) C dX5_init_62 46 (by decide) ?_
  refine V.iload_n (pc := 46) C dX5_init_46 0 rfl ?_
  refine V.bipush (pc := 47) C dX5_init_47 (v := 8) (by decide) ?_
  refine V.igeF (pc := 49) C dX5_init_49 65 (by decide) (by decide) ?_
  refine V.aload_n (pc := 52) C dX5_init_52 1 rfl ?_
  refine V.getr (pc := 53) (b := (a + 2)) C fl_RX5_15 ha.s (by omega) rfl (by simp [up2, rnw] <;> omega) dX5_init_53 ?_
  refine V.iload_n (pc := 56) C dX5_init_56 0 rfl ?_
  refine V.iconst (pc := 57) C dX5_init_57 (v := (-1)) (by decide) ?_
  refine V.iastC (pc := 58) C ha.s2 (by omega) (by decide) dX5_init_58 ?_
  refine V.iinc (pc := 59) C dX5_init_59 (v := 1) (L2 := [(1, .int 7), (0, .ref a)]) 0 rfl (by decide) (by decide) rfl ?_
  refine V.goto (pc := 62) C dX5_init_62 46 (by decide) ?_
  refine V.iload_n (pc := 46) C dX5_init_46 0 rfl ?_
  refine V.bipush (pc := 47) C dX5_init_47 (v := 8) (by decide) ?_
  refine V.igeF (pc := 49) C dX5_init_49 65 (by decide) (by decide) ?_
  refine V.aload_n (pc := 52) C dX5_init_52 1 rfl ?_
  refine V.getr (pc := 53) (b := (a + 2)) C fl_RX5_15 ha.s (by omega) rfl (by simp [up2, rnw] <;> omega) dX5_init_53 ?_
  refine V.iload_n (pc := 56) C dX5_init_56 0 rfl ?_
  refine V.iconst (pc := 57) C dX5_init_57 (v := (-1)) (by decide) ?_
  refine V.iastC (pc := 58) C ha.s2 (by omega) (by decide) dX5_init_58 ?_
  refine V.iinc (pc := 59) C dX5_init_59 (v := 1) (L2 := [(1, .int 8), (0, .ref a)]) 0 rfl (by decide) (by decide) rfl ?_
  refine V.goto (pc := 62) C dX5_init_62 46 (by decide) ?_
  refine V.iload_n (pc := 46) C dX5_init_46 0 rfl ?_
  refine V.bipush (pc := 47) C dX5_init_47 (v := 8) (by decide) ?_
  refine V.igeT (pc := 49) C dX5_init_49 65 (by decide) (by decide) ?_
  exact V.vret C dX5_init_65
theorem ci_X5 (l : Launch) {Nx : Nat} (a : Nat) (ha : isLife Nx a) (R : Rf) (m : Mem) (hk : NK SX (a + 1) R m) : Ct l yX5_init cX5_init 2 none 2 SX oV (a + 1) (a + 6) R (rX5 R a) [.ref a] m (X5_init a m) :=
  Ct.of (own := RX5) (nm := "<init>") (by decide) rfl rfl (Nat.le_of_ble_eq_true rfl) (fun _ _ _ _ _ _ _ _ _ _ _ C => vi_X5 C a ha R m hk)
theorem nk_X5 {Nx : Nat} (a : Nat) (ha : isLife Nx a) {R : Rf} {m mF : Mem} {r : Unit} (hk : NK SX (a + 1) R m) (hf : X5_init a m = some (r, mF)) : NK SX (a + 6) (rX5 R a) mF := by
  rw [X5_init] at hf
  cases hf
  exact (NK.si (a := (a + 2)) (j := (ix 7)) (v := (-1)) (NK.si (a := (a + 2)) (j := (ix 6)) (v := (-1)) (NK.si (a := (a + 2)) (j := (ix 5)) (v := (-1)) (NK.si (a := (a + 2)) (j := (ix 4)) (v := (-1)) (NK.si (a := (a + 2)) (j := (ix 3)) (v := (-1)) (NK.si (a := (a + 2)) (j := (ix 2)) (v := (-1)) (NK.si (a := (a + 2)) (j := (ix 1)) (v := (-1)) (NK.si (a := (a + 2)) (j := (ix 0)) (v := (-1)) (NK.up (a := a) (j := 5) (b := (a + 5)) (NK.new (NK.up (a := a) (j := 4) (b := (a + 4)) (NK.new (NK.up (a := a) (j := 3) (b := (a + 3)) (NK.new (NK.up (a := a) (j := 2) (b := (a + 2)) (NK.new (NK.up (a := a) (j := 1) (b := (a + 1)) (NK.new hk) (by omega))) (by omega))) (by omega))) (by omega))) (by omega)) (by rw [ha.s2]; exact fun q => q (by decide))) (by rw [ha.s2]; exact fun q => q (by decide))) (by rw [ha.s2]; exact fun q => q (by decide))) (by rw [ha.s2]; exact fun q => q (by decide))) (by rw [ha.s2]; exact fun q => q (by decide))) (by rw [ha.s2]; exact fun q => q (by decide))) (by rw [ha.s2]; exact fun q => q (by decide))) (by rw [ha.s2]; exact fun q => q (by decide)))
theorem dX0_init_0 : decode cX0_init 0 = .ok (.aload_n 0, 1) := by decide +kernel
theorem dX0_init_1 : decode cX0_init 1 = .ok (.invokespecial 1, 3) := by decide +kernel
theorem dX0_init_4 : decode cX0_init 4 = .ok (.aload_n 0, 1) := by decide +kernel
theorem dX0_init_5 : decode cX0_init 5 = .ok (.bipush 7, 2) := by decide +kernel
theorem dX0_init_7 : decode cX0_init 7 = .ok (.newarray .int, 2) := by decide +kernel
theorem dX0_init_9 : decode cX0_init 9 = .ok (.putfield 9, 3) := by decide +kernel
theorem dX0_init_12 : decode cX0_init 12 = .ok (.aload_n 0, 1) := by decide +kernel
theorem dX0_init_13 : decode cX0_init 13 = .ok (.bipush 32, 2) := by decide +kernel
theorem dX0_init_15 : decode cX0_init 15 = .ok (.newarray .int, 2) := by decide +kernel
theorem dX0_init_17 : decode cX0_init 17 = .ok (.putfield 13, 3) := by decide +kernel
theorem dX0_init_20 : decode cX0_init 20 = .ok (.return_, 1) := by decide +kernel
def X0_init (m : Mem) : Option (Unit × Mem) :=
  some ((), (nw (nw m 23) 24))
def rX0 (R : Rf) : Rf := (up2 (rnw (up2 (rnw R 23) 22 0 (some 23)) 24) 22 1 (some 24))
set_option maxRecDepth 100000 in
set_option maxHeartbeats 4000000 in
theorem vi_X0 {l : Launch} {p : Program} {e : Env} {s : State} {mt : MethodId} {args : Array Value} {below : List Frame} {meth : Method} {c : Code} {A : Nat → Prop} {ad0 : Nat → Nat} {G : Gt} (C : Cx G p s mt args meth c RX0 cX0_init 1 none "<init>" A) (R : Rf) (m : Mem) (hk : NK SX 23 R m) : V G SX oV l p e s mt args below meth c 1 2 A ad0 23 25 (rX0 R) 23 R 0 [(0, .ref 22)] [] m (X0_init m) := by
  rw [X0_init]
  refine V.aload_n (pc := 0) C dX0_init_0 0 rfl ?_
  refine V.obj (pc := 1) (st := []) C oj_RX0_1 oj_i oj_c (by decide) (Nat.le_of_ble_eq_true rfl) dX0_init_1 ?_
  refine V.aload_n (pc := 4) C dX0_init_4 0 rfl ?_
  refine V.bipush (pc := 5) C dX0_init_5 (v := 7) (by decide) ?_
  refine V.newi (pc := 7) (n := 7) (st := [.ref 22]) C ac_int sX23 (by decide) (by decide) (by decide) hk (List.forall_mem_cons.mpr ⟨okR (by omega), (fun _ h => absurd h List.not_mem_nil)⟩) (List.forall_mem_cons.mpr ⟨okR (by omega), (fun _ h => absurd h List.not_mem_nil)⟩) dX0_init_7 ?_
  refine V.putr (pc := 9) C fp_RX0_9 rfl rfl sX22 (by omega) rfl rfl dX0_init_9 ?_
  refine V.aload_n (pc := 12) C dX0_init_12 0 rfl ?_
  refine V.bipush (pc := 13) C dX0_init_13 (v := 32) (by decide) ?_
  refine V.newi (pc := 15) (n := 32) (st := [.ref 22]) C ac_int sX24 (by decide) (by decide) (by decide) (NK.up (a := 22) (j := 0) (b := 23) (NK.new hk) (by omega)) (List.forall_mem_cons.mpr ⟨okR (by omega), (fun _ h => absurd h List.not_mem_nil)⟩) (List.forall_mem_cons.mpr ⟨okR (by omega), (fun _ h => absurd h List.not_mem_nil)⟩) dX0_init_15 ?_
  refine V.putr (pc := 17) C fp_RX0_13 rfl rfl sX22 (by omega) rfl rfl dX0_init_17 ?_
  exact V.vret C dX0_init_20
theorem ci_X0 (l : Launch) (R : Rf) (m : Mem) (hk : NK SX 23 R m) : Ct l yX0_init cX0_init 1 none 2 SX oV 23 25 R (rX0 R) [.ref 22] m (X0_init m) :=
  Ct.of (own := RX0) (nm := "<init>") (by decide) rfl rfl (Nat.le_of_ble_eq_true rfl) (fun _ _ _ _ _ _ _ _ _ _ _ C => vi_X0 C R m hk)
theorem nk_X0 {R : Rf} {m mF : Mem} {r : Unit} (hk : NK SX 23 R m) (hf : X0_init m = some (r, mF)) : NK SX 25 (rX0 R) mF := by
  rw [X0_init] at hf
  cases hf
  exact (NK.up (a := 22) (j := 1) (b := 24) (NK.new (NK.up (a := 22) (j := 0) (b := 23) (NK.new hk) (by omega))) (by omega))
theorem dX10_init_0 : decode cX10_init 0 = .ok (.aload_n 0, 1) := by decide +kernel
theorem dX10_init_1 : decode cX10_init 1 = .ok (.invokespecial 3, 3) := by decide +kernel
theorem dX10_init_4 : decode cX10_init 4 = .ok (.aload_n 0, 1) := by decide +kernel
theorem dX10_init_5 : decode cX10_init 5 = .ok (.aload_n 1, 1) := by decide +kernel
theorem dX10_init_6 : decode cX10_init 6 = .ok (.putfield 9, 3) := by decide +kernel
theorem dX10_init_9 : decode cX10_init 9 = .ok (.aload_n 0, 1) := by decide +kernel
theorem dX10_init_10 : decode cX10_init 10 = .ok (.aload_n 2, 1) := by decide +kernel
theorem dX10_init_11 : decode cX10_init 11 = .ok (.putfield 15, 3) := by decide +kernel
theorem dX10_init_14 : decode cX10_init 14 = .ok (.aload_n 0, 1) := by decide +kernel
theorem dX10_init_15 : decode cX10_init 15 = .ok (.new 19, 3) := by decide +kernel
theorem dX10_init_18 : decode cX10_init 18 = .ok (.dup, 1) := by decide +kernel
theorem dX10_init_19 : decode cX10_init 19 = .ok (.invokespecial 21, 3) := by decide +kernel
theorem dX10_init_22 : decode cX10_init 22 = .ok (.putfield 22, 3) := by decide +kernel
theorem dX10_init_25 : decode cX10_init 25 = .ok (.return_, 1) := by decide +kernel
def X10_init (a : Nat) (m : Mem) : Option (Unit × Mem) :=
  bnd (X5_init (a + 1) (nw m (a + 1))) fun _ m_1 =>
  some ((), m_1)
def rX10 (R : Rf) (a : Nat) : Rf := (up2 (rX5 (rnw (up2 (up2 R a 0 (some 2)) a 1 (some 22)) (a + 1)) (a + 1)) a 2 (some (a + 1)))
set_option maxRecDepth 100000 in
set_option maxHeartbeats 4000000 in
theorem vi_X10 {l : Launch} {p : Program} {e : Env} {s : State} {mt : MethodId} {args : Array Value} {below : List Frame} {meth : Method} {c : Code} {A : Nat → Prop} {ad0 : Nat → Nat} {G : Gt} (C : Cx G p s mt args meth c RX10 cX10_init 3 none "<init>" A) {Nx : Nat} (a : Nat) (ha : isWorld Nx a) (hw : 22 < a) (R : Rf) (m : Mem) (hk : NK SX (a + 1) R m) : V G SX oV l p e s mt args below meth c 3 3 A ad0 (a + 1) (a + 7) (rX10 R a) (a + 1) R 0 [(0, .ref a), (1, .ref 2), (2, .ref 22)] [] m (X10_init a m) := by
  rw [X10_init]
  refine V.aload_n (pc := 0) C dX10_init_0 0 rfl ?_
  refine V.obj (pc := 1) (st := []) C oj_RX10_3 oj_i oj_c (by decide) (Nat.le_of_ble_eq_true rfl) dX10_init_1 ?_
  refine V.aload_n (pc := 4) C dX10_init_4 0 rfl ?_
  refine V.aload_n (pc := 5) C dX10_init_5 1 rfl ?_
  refine V.putr (pc := 6) C fp_RX10_9 rfl rfl ha.s (by omega) rfl rfl dX10_init_6 ?_
  refine V.aload_n (pc := 9) C dX10_init_9 0 rfl ?_
  refine V.aload_n (pc := 10) C dX10_init_10 2 rfl ?_
  refine V.putr (pc := 11) C fp_RX10_15 rfl rfl ha.s (by omega) rfl rfl dX10_init_11 ?_
  refine V.aload_n (pc := 14) C dX10_init_14 0 rfl ?_
  refine V.new (pc := 15) (st := [.ref a]) C (RX5, TX5, 6) okX5 nwX5 nc_RX10_19 ni_5 nz_5 ha.life.s (NK.up (a := a) (j := 1) (b := 22) (NK.up (a := a) (j := 0) (b := 2) hk (by omega)) (by omega)) (List.forall_mem_cons.mpr ⟨okR (by omega), (List.forall_mem_cons.mpr ⟨okR (by omega), (List.forall_mem_cons.mpr ⟨okR (by omega), (fun _ h => absurd h List.not_mem_nil)⟩)⟩)⟩) (List.forall_mem_cons.mpr ⟨okR (by omega), (fun _ h => absurd h List.not_mem_nil)⟩) dX10_init_15 ?_
  refine V.dup (pc := 18) C dX10_init_18 rfl ?_
  refine V.callI (pc := 19) (st := [.ref (a + 1), .ref a]) C (ci_X5 l (a + 1) ha.life  _ (nw m (a + 1)) (NK.new (NK.up (a := a) (j := 1) (b := 22) (NK.up (a := a) (j := 0) (b := 2) hk (by omega)) (by omega)))) ck_X5_init rfl in_X5_init (Or.inl ml_RX10_21) (by omega) (List.forall_mem_cons.mpr ⟨okR (by omega), (List.forall_mem_cons.mpr ⟨okR (by omega), (List.forall_mem_cons.mpr ⟨okR (by omega), (fun _ h => absurd h List.not_mem_nil)⟩)⟩)⟩) (List.forall_mem_cons.mpr ⟨okR (by omega), (List.forall_mem_cons.mpr ⟨okR (by omega), (fun _ h => absurd h List.not_mem_nil)⟩)⟩) rfl rfl (Nat.le_of_ble_eq_true rfl) ⟨by decide, by decide⟩ dX10_init_19 (fun m_1 hf_1 => ?_)
  have hk_1 := nk_X5 (a + 1) ha.life (NK.new (NK.up (a := a) (j := 1) (b := 22) (NK.up (a := a) (j := 0) (b := 2) hk (by omega)) (by omega))) hf_1
  refine V.putr (pc := 22) C fp_RX10_22 rfl rfl ha.s (by omega) rfl rfl dX10_init_22 ?_
  exact V.vret C dX10_init_25
theorem ci_X10 (l : Launch) {Nx : Nat} (a : Nat) (ha : isWorld Nx a) (hw : 22 < a) (R : Rf) (m : Mem) (hk : NK SX (a + 1) R m) : Ct l yX10_init cX10_init 3 none 3 SX oV (a + 1) (a + 7) R (rX10 R a) [.ref a, .ref 2, .ref 22] m (X10_init a m) :=
  Ct.of (own := RX10) (nm := "<init>") (by decide) rfl rfl (Nat.le_of_ble_eq_true rfl) (fun _ _ _ _ _ _ _ _ _ _ _ C => vi_X10 C a ha hw R m hk)
theorem nk_X10 {Nx : Nat} (a : Nat) (ha : isWorld Nx a) (hw : 22 < a) {R : Rf} {m mF : Mem} {r : Unit} (hk : NK SX (a + 1) R m) (hf : X10_init a m = some (r, mF)) : NK SX (a + 7) (rX10 R a) mF := by
  rw [X10_init] at hf
  obtain ⟨_, m_1, hf_1, hf⟩ := bnd_some hf
  have hk_1 := nk_X5 (a + 1) ha.life (NK.new (NK.up (a := a) (j := 1) (b := 22) (NK.up (a := a) (j := 0) (b := 2) hk (by omega)) (by omega))) hf_1
  cases hf
  exact (NK.up (a := a) (j := 2) (b := (a + 1)) hk_1 (by omega))
theorem dX7_init_0 : decode cX7_init 0 = .ok (.aload_n 0, 1) := by decide +kernel
theorem dX7_init_1 : decode cX7_init 1 = .ok (.invokespecial 3, 3) := by decide +kernel
theorem dX7_init_4 : decode cX7_init 4 = .ok (.aload_n 0, 1) := by decide +kernel
theorem dX7_init_5 : decode cX7_init 5 = .ok (.aload_n 1, 1) := by decide +kernel
theorem dX7_init_6 : decode cX7_init 6 = .ok (.putfield 9, 3) := by decide +kernel
theorem dX7_init_9 : decode cX7_init 9 = .ok (.aload_n 0, 1) := by decide +kernel
theorem dX7_init_10 : decode cX7_init 10 = .ok (.aload_n 2, 1) := by decide +kernel
theorem dX7_init_11 : decode cX7_init 11 = .ok (.putfield 15, 3) := by decide +kernel
theorem dX7_init_14 : decode cX7_init 14 = .ok (.aload_n 0, 1) := by decide +kernel
theorem dX7_init_15 : decode cX7_init 15 = .ok (.aload_n 3, 1) := by decide +kernel
theorem dX7_init_16 : decode cX7_init 16 = .ok (.putfield 19, 3) := by decide +kernel
theorem dX7_init_19 : decode cX7_init 19 = .ok (.aload_n 0, 1) := by decide +kernel
theorem dX7_init_20 : decode cX7_init 20 = .ok (.aload_n 2, 1) := by decide +kernel
theorem dX7_init_21 : decode cX7_init 21 = .ok (.getfield 23, 3) := by decide +kernel
theorem dX7_init_24 : decode cX7_init 24 = .ok (.putfield 29, 3) := by decide +kernel
theorem dX7_init_27 : decode cX7_init 27 = .ok (.aload_n 0, 1) := by decide +kernel
theorem dX7_init_28 : decode cX7_init 28 = .ok (.iconst (-1), 1) := by decide +kernel
theorem dX7_init_29 : decode cX7_init 29 = .ok (.putfield 32, 3) := by decide +kernel
theorem dX7_init_32 : decode cX7_init 32 = .ok (.return_, 1) := by decide +kernel
def X7_init (m : Mem) : Option (Unit × Mem) :=
  some ((), (si (si m 39 3 (nI 12)) 39 9 (-1)))
def rX7 (R : Rf) : Rf := (up2 (up2 (up2 R 39 0 (some 1)) 39 1 (some 9)) 39 2 (some 16))
set_option maxRecDepth 100000 in
set_option maxHeartbeats 4000000 in
theorem vi_X7 {l : Launch} {p : Program} {e : Env} {s : State} {mt : MethodId} {args : Array Value} {below : List Frame} {meth : Method} {c : Code} {A : Nat → Prop} {ad0 : Nat → Nat} {G : Gt} (C : Cx G p s mt args meth c RX7 cX7_init 4 none "<init>" A) (R : Rf) (m : Mem) (hg : R 9 7 = some 12) (hk : NK SX 40 R m) : V G SX oV l p e s mt args below meth c 4 2 A ad0 40 40 (rX7 R) 40 R 0 [(0, .ref 39), (1, .ref 1), (2, .ref 9), (3, .ref 16)] [] m (X7_init m) := by
  rw [X7_init]
  refine V.aload_n (pc := 0) C dX7_init_0 0 rfl ?_
  refine V.obj (pc := 1) (st := []) C oj_RX7_3 oj_i oj_c (by decide) (Nat.le_of_ble_eq_true rfl) dX7_init_1 ?_
  refine V.aload_n (pc := 4) C dX7_init_4 0 rfl ?_
  refine V.aload_n (pc := 5) C dX7_init_5 1 rfl ?_
  refine V.putr (pc := 6) C fp_RX7_9 rfl rfl sX39 (by omega) rfl rfl dX7_init_6 ?_
  refine V.aload_n (pc := 9) C dX7_init_9 0 rfl ?_
  refine V.aload_n (pc := 10) C dX7_init_10 2 rfl ?_
  refine V.putr (pc := 11) C fp_RX7_15 rfl rfl sX39 (by omega) rfl rfl dX7_init_11 ?_
  refine V.aload_n (pc := 14) C dX7_init_14 0 rfl ?_
  refine V.aload_n (pc := 15) C dX7_init_15 3 rfl ?_
  refine V.putr (pc := 16) C fp_RX7_19 rfl rfl sX39 (by omega) rfl rfl dX7_init_16 ?_
  refine V.aload_n (pc := 19) C dX7_init_19 0 rfl ?_
  refine V.aload_n (pc := 20) C dX7_init_20 2 rfl ?_
  refine V.getr (pc := 21) (b := 12) C fl_RX7_23 sX9 (by omega) rfl hg dX7_init_21 ?_
  refine V.putd (pc := 24) C fp_RX7_29 sX39 (by omega) rfl rfl rfl dX7_init_24 ?_
  refine V.aload_n (pc := 27) C dX7_init_27 0 rfl ?_
  refine V.iconst (pc := 28) C dX7_init_28 (v := (-1)) (by decide) ?_
  refine V.puti (pc := 29) C fp_RX7_32 sX39 (by omega) rfl dX7_init_29 ?_
  exact V.vret C dX7_init_32
theorem ci_X7 (l : Launch) (R : Rf) (m : Mem) (hg : R 9 7 = some 12) (hk : NK SX 40 R m) : Ct l yX7_init cX7_init 4 none 2 SX oV 40 40 R (rX7 R) [.ref 39, .ref 1, .ref 9, .ref 16] m (X7_init m) :=
  Ct.of (own := RX7) (nm := "<init>") (by decide) rfl rfl (Nat.le_of_ble_eq_true rfl) (fun _ _ _ _ _ _ _ _ _ _ _ C => vi_X7 C R m hg hk)
theorem nk_X7 {R : Rf} {m mF : Mem} {r : Unit} (hk : NK SX 40 R m) (hf : X7_init m = some (r, mF)) : NK SX 40 (rX7 R) mF := by
  rw [X7_init] at hf
  cases hf
  exact (NK.si (a := 39) (j := 9) (v := (-1)) (NK.sd (a := 39) (j := 3) (b := 12) (NK.up (a := 39) (j := 2) (b := 16) (NK.up (a := 39) (j := 1) (b := 9) (NK.up (a := 39) (j := 0) (b := 1) hk (by omega)) (by omega)) (by omega)) (by omega) rfl) (by rw [sX39]; exact fun q => q.1 rfl))
theorem dX2_init_0 : decode cX2_init 0 = .ok (.aload_n 0, 1) := by decide +kernel
theorem dX2_init_1 : decode cX2_init 1 = .ok (.invokespecial 3, 3) := by decide +kernel
theorem dX2_init_4 : decode cX2_init 4 = .ok (.aload_n 0, 1) := by decide +kernel
theorem dX2_init_5 : decode cX2_init 5 = .ok (.bipush 8, 2) := by decide +kernel
theorem dX2_init_7 : decode cX2_init 7 = .ok (.anewarray 9, 3) := by decide +kernel
theorem dX2_init_10 : decode cX2_init 10 = .ok (.putfield 11, 3) := by decide +kernel
theorem dX2_init_13 : decode cX2_init 13 = .ok (.iconst 0, 1) := by decide +kernel
theorem dX2_init_14 : decode cX2_init 14 = .ok (.istore_n 1, 1) := by decide +kernel
theorem dX2_init_15 : decode cX2_init 15 = .ok (.iload_n 1, 1) := by decide +kernel
theorem dX2_init_16 : decode cX2_init 16 = .ok (.bipush 8, 2) := by decide +kernel
theorem dX2_init_18 : decode cX2_init 18 = .ok (.if_icmp .ge 22, 3) := by decide +kernel
theorem dX2_init_21 : decode cX2_init 21 = .ok (.aload_n 0, 1) := by decide +kernel
theorem dX2_init_22 : decode cX2_init 22 = .ok (.getfield 11, 3) := by decide +kernel
theorem dX2_init_25 : decode cX2_init 25 = .ok (.iload_n 1, 1) := by decide +kernel
theorem dX2_init_26 : decode cX2_init 26 = .ok (.new 9, 3) := by decide +kernel
theorem dX2_init_29 : decode cX2_init 29 = .ok (.dup, 1) := by decide +kernel
theorem dX2_init_30 : decode cX2_init 30 = .ok (.invokespecial 17, 3) := by decide +kernel
theorem dX2_init_33 : decode cX2_init 33 = .ok (.aastore, 1) := by decide +kernel
theorem dX2_init_34 : decode cX2_init 34 = .ok (.iinc 1 1, 3) := by decide +kernel
theorem dX2_init_37 : decode cX2_init 37 = .ok (.goto (-22), 3) := by decide +kernel
theorem dX2_init_40 : decode cX2_init 40 = .ok (.return_, 1) := by decide +kernel
def X2_init (m : Mem) : Option (Unit × Mem) :=
  bnd (X5_init 42 (nw (nw m 41) 42)) fun _ m_1 =>
  bnd (X5_init 48 (nw m_1 48)) fun _ m_2 =>
  bnd (X5_init 54 (nw m_2 54)) fun _ m_3 =>
  bnd (X5_init 60 (nw m_3 60)) fun _ m_4 =>
  bnd (X5_init 66 (nw m_4 66)) fun _ m_5 =>
  bnd (X5_init 72 (nw m_5 72)) fun _ m_6 =>
  bnd (X5_init 78 (nw m_6 78)) fun _ m_7 =>
  bnd (X5_init 84 (nw m_7 84)) fun _ m_8 =>
  some ((), m_8)
def rX2 (R : Rf) : Rf := (up2 (rX5 (rnw (up2 (rX5 (rnw (up2 (rX5 (rnw (up2 (rX5 (rnw (up2 (rX5 (rnw (up2 (rX5 (rnw (up2 (rX5 (rnw (up2 (rX5 (rnw (up2 (rnw R 41) 40 0 (some 41)) 42) 42) 41 (ix 0) (some 42)) 48) 48) 41 (ix 1) (some 48)) 54) 54) 41 (ix 2) (some 54)) 60) 60) 41 (ix 3) (some 60)) 66) 66) 41 (ix 4) (some 66)) 72) 72) 41 (ix 5) (some 72)) 78) 78) 41 (ix 6) (some 78)) 84) 84) 41 (ix 7) (some 84))
set_option maxRecDepth 100000 in
set_option maxHeartbeats 4000000 in
theorem vi_X2 {l : Launch} {p : Program} {e : Env} {s : State} {mt : MethodId} {args : Array Value} {below : List Frame} {meth : Method} {c : Code} {A : Nat → Prop} {ad0 : Nat → Nat} {G : Gt} (C : Cx G p s mt args meth c RX2 cX2_init 2 none "<init>" A) (R : Rf) (m : Mem) (hk : NK SX 41 R m) : V G SX oV l p e s mt args below meth c 2 3 A ad0 41 90 (rX2 R) 41 R 0 [(0, .ref 40)] [] m (X2_init m) := by
  rw [X2_init]
  refine V.aload_n (pc := 0) C dX2_init_0 0 rfl ?_
  refine V.obj (pc := 1) (st := []) C oj_RX2_3 oj_i oj_c (by decide) (Nat.le_of_ble_eq_true rfl) dX2_init_1 ?_
  refine V.aload_n (pc := 4) C dX2_init_4 0 rfl ?_
  refine V.bipush (pc := 5) C dX2_init_5 (v := 8) (by decide) ?_
  refine V.anewL (pc := 7) (n := 8) (st := [.ref 40]) C nc_RX2_9 sX41 (by decide) (by decide) (by decide) hk (List.forall_mem_cons.mpr ⟨okR (by omega), (fun _ h => absurd h List.not_mem_nil)⟩) (List.forall_mem_cons.mpr ⟨okR (by omega), (fun _ h => absurd h List.not_mem_nil)⟩) dX2_init_7 ?_
  refine V.putr (pc := 10) C fp_RX2_11 rfl rfl sX40 (by omega) rfl rfl dX2_init_10 ?_
  refine V.iconst (pc := 13) C dX2_init_13 (v := 0) (by decide) ?_
  refine V.istore_n (pc := 14) C dX2_init_14 (L2 := [(1, .int 0), (0, .ref 40)]) (by decide) rfl ?_
  refine V.iload_n (pc := 15) C dX2_init_15 0 rfl ?_
  refine V.bipush (pc := 16) C dX2_init_16 (v := 8) (by decide) ?_
  refine V.igeF (pc := 18) C dX2_init_18 40 (by decide) (by decide) ?_
  refine V.aload_n (pc := 21) C dX2_init_21 1 rfl ?_
  refine V.getr (pc := 22) (b := 41) C fl_RX2_11 sX40 (by omega) rfl rfl dX2_init_22 ?_
  refine V.iload_n (pc := 25) C dX2_init_25 0 rfl ?_
  refine V.new (pc := 26) (st := [.int 0, .ref 41]) C (RX5, TX5, 6) okX5 nwX5 nc_RX2_9 ni_5 nz_5 sX42 (NK.up (a := 40) (j := 0) (b := 41) (NK.new hk) (by omega)) (List.forall_mem_cons.mpr ⟨trivial, (List.forall_mem_cons.mpr ⟨okR (by omega), (fun _ h => absurd h List.not_mem_nil)⟩)⟩) (List.forall_mem_cons.mpr ⟨trivial, (List.forall_mem_cons.mpr ⟨okR (by omega), (fun _ h => absurd h List.not_mem_nil)⟩)⟩) dX2_init_26 ?_
  refine V.dup (pc := 29) C dX2_init_29 rfl ?_
  refine V.callI (pc := 30) (st := [.ref 42, .int 0, .ref 41]) C (ci_X5 l 42 (iX42 (Nat.le_refl 109))  _ (nw (nw m 41) 42) (NK.new (NK.up (a := 40) (j := 0) (b := 41) (NK.new hk) (by omega)))) ck_X5_init rfl in_X5_init (Or.inl ml_RX2_17) (by omega) (List.forall_mem_cons.mpr ⟨trivial, (List.forall_mem_cons.mpr ⟨okR (by omega), (fun _ h => absurd h List.not_mem_nil)⟩)⟩) (List.forall_mem_cons.mpr ⟨okR (by omega), (List.forall_mem_cons.mpr ⟨trivial, (List.forall_mem_cons.mpr ⟨okR (by omega), (fun _ h => absurd h List.not_mem_nil)⟩)⟩)⟩) rfl rfl (Nat.le_of_ble_eq_true rfl) ⟨by decide, by decide⟩ dX2_init_30 (fun m_1 hf_1 => ?_)
  have hk_1 := nk_X5 42 (iX42 (Nat.le_refl 109)) (NK.new (NK.up (a := 40) (j := 0) (b := 41) (NK.new hk) (by omega))) hf_1
  refine V.aastR (pc := 33) (q := (RX5, TX5, 6)) C sX41 (Or.inl ⟨rfl, rfl⟩) (by omega) sX42 (by omega) rfl (inb_in (by decide)) dX2_init_33 ?_
  refine V.iinc (pc := 34) C dX2_init_34 (v := 1) (L2 := [(1, .int 1), (0, .ref 40)]) 0 rfl (by decide) (by decide) rfl ?_
  refine V.goto (pc := 37) C dX2_init_37 15 (by decide) ?_
  refine V.iload_n (pc := 15) C dX2_init_15 0 rfl ?_
  refine V.bipush (pc := 16) C dX2_init_16 (v := 8) (by decide) ?_
  refine V.igeF (pc := 18) C dX2_init_18 40 (by decide) (by decide) ?_
  refine V.aload_n (pc := 21) C dX2_init_21 1 rfl ?_
  refine V.getr (pc := 22) (b := 41) C fl_RX2_11 sX40 (by omega) rfl rfl dX2_init_22 ?_
  refine V.iload_n (pc := 25) C dX2_init_25 0 rfl ?_
  refine V.new (pc := 26) (st := [.int 1, .ref 41]) C (RX5, TX5, 6) okX5 nwX5 nc_RX2_9 ni_5 nz_5 sX48 (NK.up (a := 41) (j := (ix 0)) (b := 42) hk_1 (by omega)) (List.forall_mem_cons.mpr ⟨trivial, (List.forall_mem_cons.mpr ⟨okR (by omega), (fun _ h => absurd h List.not_mem_nil)⟩)⟩) (List.forall_mem_cons.mpr ⟨trivial, (List.forall_mem_cons.mpr ⟨okR (by omega), (fun _ h => absurd h List.not_mem_nil)⟩)⟩) dX2_init_26 ?_
  refine V.dup (pc := 29) C dX2_init_29 rfl ?_
  refine V.callI (pc := 30) (st := [.ref 48, .int 1, .ref 41]) C (ci_X5 l 48 (iX48 (Nat.le_refl 109))  _ (nw m_1 48) (NK.new (NK.up (a := 41) (j := (ix 0)) (b := 42) hk_1 (by omega)))) ck_X5_init rfl in_X5_init (Or.inl ml_RX2_17) (by omega) (List.forall_mem_cons.mpr ⟨trivial, (List.forall_mem_cons.mpr ⟨okR (by omega), (fun _ h => absurd h List.not_mem_nil)⟩)⟩) (List.forall_mem_cons.mpr ⟨okR (by omega), (List.forall_mem_cons.mpr ⟨trivial, (List.forall_mem_cons.mpr ⟨okR (by omega), (fun _ h => absurd h List.not_mem_nil)⟩)⟩)⟩) rfl rfl (Nat.le_of_ble_eq_true rfl) ⟨by decide, by decide⟩ dX2_init_30 (fun m_2 hf_2 => ?_)
  have hk_2 := nk_X5 48 (iX48 (Nat.le_refl 109)) (NK.new (NK.up (a := 41) (j := (ix 0)) (b := 42) hk_1 (by omega))) hf_2
  refine V.aastR (pc := 33) (q := (RX5, TX5, 6)) C sX41 (Or.inl ⟨rfl, rfl⟩) (by omega) sX48 (by omega) rfl (inb_in (by decide)) dX2_init_33 ?_
  refine V.iinc (pc := 34) C dX2_init_34 (v := 1) (L2 := [(1, .int 2), (0, .ref 40)]) 0 rfl (by decide) (by decide) rfl ?_
  refine V.goto (pc := 37) C dX2_init_37 15 (by decide) ?_
  refine V.iload_n (pc := 15) C dX2_init_15 0 rfl ?_
  refine V.bipush (pc := 16) C dX2_init_16 (v := 8) (by decide) ?_
  refine V.igeF (pc := 18) C dX2_init_18 40 (by decide) (by decide) ?_
  refine V.aload_n (pc := 21) C dX2_init_21 1 rfl ?_
  refine V.getr (pc := 22) (b := 41) C fl_RX2_11 sX40 (by omega) rfl rfl dX2_init_22 ?_
  refine V.iload_n (pc := 25) C dX2_init_25 0 rfl ?_
  refine V.new (pc := 26) (st := [.int 2, .ref 41]) C (RX5, TX5, 6) okX5 nwX5 nc_RX2_9 ni_5 nz_5 sX54 (NK.up (a := 41) (j := (ix 1)) (b := 48) hk_2 (by omega)) (List.forall_mem_cons.mpr ⟨trivial, (List.forall_mem_cons.mpr ⟨okR (by omega), (fun _ h => absurd h List.not_mem_nil)⟩)⟩) (List.forall_mem_cons.mpr ⟨trivial, (List.forall_mem_cons.mpr ⟨okR (by omega), (fun _ h => absurd h List.not_mem_nil)⟩)⟩) dX2_init_26 ?_
  refine V.dup (pc := 29) C dX2_init_29 rfl ?_
  refine V.callI (pc := 30) (st := [.ref 54, .int 2, .ref 41]) C (ci_X5 l 54 (iX54 (Nat.le_refl 109))  _ (nw m_2 54) (NK.new (NK.up (a := 41) (j := (ix 1)) (b := 48) hk_2 (by omega)))) ck_X5_init rfl in_X5_init (Or.inl ml_RX2_17) (by omega) (List.forall_mem_cons.mpr ⟨trivial, (List.forall_mem_cons.mpr ⟨okR (by omega), (fun _ h => absurd h List.not_mem_nil)⟩)⟩) (List.forall_mem_cons.mpr ⟨okR (by omega), (List.forall_mem_cons.mpr ⟨trivial, (List.forall_mem_cons.mpr ⟨okR (by omega), (fun _ h => absurd h List.not_mem_nil)⟩)⟩)⟩) rfl rfl (Nat.le_of_ble_eq_true rfl) ⟨by decide, by decide⟩ dX2_init_30 (fun m_3 hf_3 => ?_)
  have hk_3 := nk_X5 54 (iX54 (Nat.le_refl 109)) (NK.new (NK.up (a := 41) (j := (ix 1)) (b := 48) hk_2 (by omega))) hf_3
  refine V.aastR (pc := 33) (q := (RX5, TX5, 6)) C sX41 (Or.inl ⟨rfl, rfl⟩) (by omega) sX54 (by omega) rfl (inb_in (by decide)) dX2_init_33 ?_
  refine V.iinc (pc := 34) C dX2_init_34 (v := 1) (L2 := [(1, .int 3), (0, .ref 40)]) 0 rfl (by decide) (by decide) rfl ?_
  refine V.goto (pc := 37) C dX2_init_37 15 (by decide) ?_
  refine V.iload_n (pc := 15) C dX2_init_15 0 rfl ?_
  refine V.bipush (pc := 16) C dX2_init_16 (v := 8) (by decide) ?_
  refine V.igeF (pc := 18) C dX2_init_18 40 (by decide) (by decide) ?_
  refine V.aload_n (pc := 21) C dX2_init_21 1 rfl ?_
  refine V.getr (pc := 22) (b := 41) C fl_RX2_11 sX40 (by omega) rfl rfl dX2_init_22 ?_
  refine V.iload_n (pc := 25) C dX2_init_25 0 rfl ?_
  refine V.new (pc := 26) (st := [.int 3, .ref 41]) C (RX5, TX5, 6) okX5 nwX5 nc_RX2_9 ni_5 nz_5 sX60 (NK.up (a := 41) (j := (ix 2)) (b := 54) hk_3 (by omega)) (List.forall_mem_cons.mpr ⟨trivial, (List.forall_mem_cons.mpr ⟨okR (by omega), (fun _ h => absurd h List.not_mem_nil)⟩)⟩) (List.forall_mem_cons.mpr ⟨trivial, (List.forall_mem_cons.mpr ⟨okR (by omega), (fun _ h => absurd h List.not_mem_nil)⟩)⟩) dX2_init_26 ?_
  refine V.dup (pc := 29) C dX2_init_29 rfl ?_
  refine V.callI (pc := 30) (st := [.ref 60, .int 3, .ref 41]) C (ci_X5 l 60 (iX60 (Nat.le_refl 109))  _ (nw m_3 60) (NK.new (NK.up (a := 41) (j := (ix 2)) (b := 54) hk_3 (by omega)))) ck_X5_init rfl in_X5_init (Or.inl ml_RX2_17) (by omega) (List.forall_mem_cons.mpr ⟨trivial, (List.forall_mem_cons.mpr ⟨okR (by omega), (fun _ h => absurd h List.not_mem_nil)⟩)⟩) (List.forall_mem_cons.mpr ⟨okR (by omega), (List.forall_mem_cons.mpr ⟨trivial, (List.forall_mem_cons.mpr ⟨okR (by omega), (fun _ h => absurd h List.not_mem_nil)⟩)⟩)⟩) rfl rfl (Nat.le_of_ble_eq_true rfl) ⟨by decide, by decide⟩ dX2_init_30 (fun m_4 hf_4 => ?_)
  have hk_4 := nk_X5 60 (iX60 (Nat.le_refl 109)) (NK.new (NK.up (a := 41) (j := (ix 2)) (b := 54) hk_3 (by omega))) hf_4
  refine V.aastR (pc := 33) (q := (RX5, TX5, 6)) C sX41 (Or.inl ⟨rfl, rfl⟩) (by omega) sX60 (by omega) rfl (inb_in (by decide)) dX2_init_33 ?_
  refine V.iinc (pc := 34) C dX2_init_34 (v := 1) (L2 := [(1, .int 4), (0, .ref 40)]) 0 rfl (by decide) (by decide) rfl ?_
  refine V.goto (pc := 37) C dX2_init_37 15 (by decide) ?_
  refine V.iload_n (pc := 15) C dX2_init_15 0 rfl ?_
  refine V.bipush (pc := 16) C dX2_init_16 (v := 8) (by decide) ?_
  refine V.igeF (pc := 18) C dX2_init_18 40 (by decide) (by decide) ?_
  refine V.aload_n (pc := 21) C dX2_init_21 1 rfl ?_
  refine V.getr (pc := 22) (b := 41) C fl_RX2_11 sX40 (by omega) rfl rfl dX2_init_22 ?_
  refine V.iload_n (pc := 25) C dX2_init_25 0 rfl ?_
  refine V.new (pc := 26) (st := [.int 4, .ref 41]) C (RX5, TX5, 6) okX5 nwX5 nc_RX2_9 ni_5 nz_5 sX66 (NK.up (a := 41) (j := (ix 3)) (b := 60) hk_4 (by omega)) (List.forall_mem_cons.mpr ⟨trivial, (List.forall_mem_cons.mpr ⟨okR (by omega), (fun _ h => absurd h List.not_mem_nil)⟩)⟩) (List.forall_mem_cons.mpr ⟨trivial, (List.forall_mem_cons.mpr ⟨okR (by omega), (fun _ h => absurd h List.not_mem_nil)⟩)⟩) dX2_init_26 ?_
  refine V.dup (pc := 29) C dX2_init_29 rfl ?_
  refine V.callI (pc := 30) (st := [.ref 66, .int 4, .ref 41]) C (ci_X5 l 66 (iX66 (Nat.le_refl 109))  _ (nw m_4 66) (NK.new (NK.up (a := 41) (j := (ix 3)) (b := 60) hk_4 (by omega)))) ck_X5_init rfl in_X5_init (Or.inl ml_RX2_17) (by omega) (List.forall_mem_cons.mpr ⟨trivial, (List.forall_mem_cons.mpr ⟨okR (by omega), (fun _ h => absurd h List.not_mem_nil)⟩)⟩) (List.forall_mem_cons.mpr ⟨okR (by omega), (List.forall_mem_cons.mpr ⟨trivial, (List.forall_mem_cons.mpr ⟨okR (by omega), (fun _ h => absurd h List.not_mem_nil)⟩)⟩)⟩) rfl rfl (Nat.le_of_ble_eq_true rfl) ⟨by decide, by decide⟩ dX2_init_30 (fun m_5 hf_5 => ?_)
  have hk_5 := nk_X5 66 (iX66 (Nat.le_refl 109)) (NK.new (NK.up (a := 41) (j := (ix 3)) (b := 60) hk_4 (by omega))) hf_5
  refine V.aastR (pc := 33) (q := (RX5, TX5, 6)) C sX41 (Or.inl ⟨rfl, rfl⟩) (by omega) sX66 (by omega) rfl (inb_in (by decide)) dX2_init_33 ?_
  refine V.iinc (pc := 34) C dX2_init_34 (v := 1) (L2 := [(1, .int 5), (0, .ref 40)]) 0 rfl (by decide) (by decide) rfl ?_
  refine V.goto (pc := 37) C dX2_init_37 15 (by decide) ?_
  refine V.iload_n (pc := 15) C dX2_init_15 0 rfl ?_
  refine V.bipush (pc := 16) C dX2_init_16 (v := 8) (by decide) ?_
  refine V.igeF (pc := 18) C dX2_init_18 40 (by decide) (by decide) ?_
  refine V.aload_n (pc := 21) C dX2_init_21 1 rfl ?_
  refine V.getr (pc := 22) (b := 41) C fl_RX2_11 sX40 (by omega) rfl rfl dX2_init_22 ?_
  refine V.iload_n (pc := 25) C dX2_init_25 0 rfl ?_
  refine V.new (pc := 26) (st := [.int 5, .ref 41]) C (RX5, TX5, 6) okX5 nwX5 nc_RX2_9 ni_5 nz_5 sX72 (NK.up (a := 41) (j := (ix 4)) (b := 66) hk_5 (by omega)) (List.forall_mem_cons.mpr ⟨trivial, (List.forall_mem_cons.mpr ⟨okR (by omega), (fun _ h => absurd h List.not_mem_nil)⟩)⟩) (List.forall_mem_cons.mpr ⟨trivial, (List.forall_mem_cons.mpr ⟨okR (by omega), (fun _ h => absurd h List.not_mem_nil)⟩)⟩) dX2_init_26 ?_
  refine V.dup (pc := 29) C dX2_init_29 rfl ?_
  refine V.callI (pc := 30) (st := [.ref 72, .int 5, .ref 41]) C (ci_X5 l 72 (iX72 (Nat.le_refl 109))  _ (nw m_5 72) (NK.new (NK.up (a := 41) (j := (ix 4)) (b := 66) hk_5 (by omega)))) ck_X5_init rfl in_X5_init (Or.inl ml_RX2_17) (by omega) (List.forall_mem_cons.mpr ⟨trivial, (List.forall_mem_cons.mpr ⟨okR (by omega), (fun _ h => absurd h List.not_mem_nil)⟩)⟩) (List.forall_mem_cons.mpr ⟨okR (by omega), (List.forall_mem_cons.mpr ⟨trivial, (List.forall_mem_cons.mpr ⟨okR (by omega), (fun _ h => absurd h List.not_mem_nil)⟩)⟩)⟩) rfl rfl (Nat.le_of_ble_eq_true rfl) ⟨by decide, by decide⟩ dX2_init_30 (fun m_6 hf_6 => ?_)
  have hk_6 := nk_X5 72 (iX72 (Nat.le_refl 109)) (NK.new (NK.up (a := 41) (j := (ix 4)) (b := 66) hk_5 (by omega))) hf_6
  refine V.aastR (pc := 33) (q := (RX5, TX5, 6)) C sX41 (Or.inl ⟨rfl, rfl⟩) (by omega) sX72 (by omega) rfl (inb_in (by decide)) dX2_init_33 ?_
  refine V.iinc (pc := 34) C dX2_init_34 (v := 1) (L2 := [(1, .int 6), (0, .ref 40)]) 0 rfl (by decide) (by decide) rfl ?_
  refine V.goto (pc := 37) C dX2_init_37 15 (by decide) ?_
  refine V.iload_n (pc := 15) C dX2_init_15 0 rfl ?_
  refine V.bipush (pc := 16) C dX2_init_16 (v := 8) (by decide) ?_
  refine V.igeF (pc := 18) C dX2_init_18 40 (by decide) (by decide) ?_
  refine V.aload_n (pc := 21) C dX2_init_21 1 rfl ?_
  refine V.getr (pc := 22) (b := 41) C fl_RX2_11 sX40 (by omega) rfl rfl dX2_init_22 ?_
  refine V.iload_n (pc := 25) C dX2_init_25 0 rfl ?_
  refine V.new (pc := 26) (st := [.int 6, .ref 41]) C (RX5, TX5, 6) okX5 nwX5 nc_RX2_9 ni_5 nz_5 sX78 (NK.up (a := 41) (j := (ix 5)) (b := 72) hk_6 (by omega)) (List.forall_mem_cons.mpr ⟨trivial, (List.forall_mem_cons.mpr ⟨okR (by omega), (fun _ h => absurd h List.not_mem_nil)⟩)⟩) (List.forall_mem_cons.mpr ⟨trivial, (List.forall_mem_cons.mpr ⟨okR (by omega), (fun _ h => absurd h List.not_mem_nil)⟩)⟩) dX2_init_26 ?_
  refine V.dup (pc := 29) C dX2_init_29 rfl ?_
  refine V.callI (pc := 30) (st := [.ref 78, .int 6, .ref 41]) C (ci_X5 l 78 (iX78 (Nat.le_refl 109))  _ (nw m_6 78) (NK.new (NK.up (a := 41) (j := (ix 5)) (b := 72) hk_6 (by omega)))) ck_X5_init rfl in_X5_init (Or.inl ml_RX2_17) (by omega) (List.forall_mem_cons.mpr ⟨trivial, (List.forall_mem_cons.mpr ⟨okR (by omega), (fun _ h => absurd h List.not_mem_nil)⟩)⟩) (List.forall_mem_cons.mpr ⟨okR (by omega), (List.forall_mem_cons.mpr ⟨trivial, (List.forall_mem_cons.mpr ⟨okR (by omega), (fun _ h => absurd h List.not_mem_nil)⟩)⟩)⟩) rfl rfl (Nat.le_of_ble_eq_true rfl) ⟨by decide, by decide⟩ dX2_init_30 (fun m_7 hf_7 => ?_)
  have hk_7 := nk_X5 78 (iX78 (Nat.le_refl 109)) (NK.new (NK.up (a := 41) (j := (ix 5)) (b := 72) hk_6 (by omega))) hf_7
  refine V.aastR (pc := 33) (q := (RX5, TX5, 6)) C sX41 (Or.inl ⟨rfl, rfl⟩) (by omega) sX78 (by omega) rfl (inb_in (by decide)) dX2_init_33 ?_
  refine V.iinc (pc := 34) C dX2_init_34 (v := 1) (L2 := [(1, .int 7), (0, .ref 40)]) 0 rfl (by decide) (by decide) rfl ?_
  refine V.goto (pc := 37) C dX2_init_37 15 (by decide) ?_
  refine V.iload_n (pc := 15) C dX2_init_15 0 rfl ?_
  refine V.bipush (pc := 16) C dX2_init_16 (v := 8) (by decide) ?_
  refine V.igeF (pc := 18) C dX2_init_18 40 (by decide) (by decide) ?_
  refine V.aload_n (pc := 21) C dX2_init_21 1 rfl ?_
  refine V.getr (pc := 22) (b := 41) C fl_RX2_11 sX40 (by omega) rfl rfl dX2_init_22 ?_
  refine V.iload_n (pc := 25) C dX2_init_25 0 rfl ?_
  refine V.new (pc := 26) (st := [.int 7, .ref 41]) C (RX5, TX5, 6) okX5 nwX5 nc_RX2_9 ni_5 nz_5 sX84 (NK.up (a := 41) (j := (ix 6)) (b := 78) hk_7 (by omega)) (List.forall_mem_cons.mpr ⟨trivial, (List.forall_mem_cons.mpr ⟨okR (by omega), (fun _ h => absurd h List.not_mem_nil)⟩)⟩) (List.forall_mem_cons.mpr ⟨trivial, (List.forall_mem_cons.mpr ⟨okR (by omega), (fun _ h => absurd h List.not_mem_nil)⟩)⟩) dX2_init_26 ?_
  refine V.dup (pc := 29) C dX2_init_29 rfl ?_
  refine V.callI (pc := 30) (st := [.ref 84, .int 7, .ref 41]) C (ci_X5 l 84 (iX84 (Nat.le_refl 109))  _ (nw m_7 84) (NK.new (NK.up (a := 41) (j := (ix 6)) (b := 78) hk_7 (by omega)))) ck_X5_init rfl in_X5_init (Or.inl ml_RX2_17) (by omega) (List.forall_mem_cons.mpr ⟨trivial, (List.forall_mem_cons.mpr ⟨okR (by omega), (fun _ h => absurd h List.not_mem_nil)⟩)⟩) (List.forall_mem_cons.mpr ⟨okR (by omega), (List.forall_mem_cons.mpr ⟨trivial, (List.forall_mem_cons.mpr ⟨okR (by omega), (fun _ h => absurd h List.not_mem_nil)⟩)⟩)⟩) rfl rfl (Nat.le_of_ble_eq_true rfl) ⟨by decide, by decide⟩ dX2_init_30 (fun m_8 hf_8 => ?_)
  have hk_8 := nk_X5 84 (iX84 (Nat.le_refl 109)) (NK.new (NK.up (a := 41) (j := (ix 6)) (b := 78) hk_7 (by omega))) hf_8
  refine V.aastR (pc := 33) (q := (RX5, TX5, 6)) C sX41 (Or.inl ⟨rfl, rfl⟩) (by omega) sX84 (by omega) rfl (inb_in (by decide)) dX2_init_33 ?_
  refine V.iinc (pc := 34) C dX2_init_34 (v := 1) (L2 := [(1, .int 8), (0, .ref 40)]) 0 rfl (by decide) (by decide) rfl ?_
  refine V.goto (pc := 37) C dX2_init_37 15 (by decide) ?_
  refine V.iload_n (pc := 15) C dX2_init_15 0 rfl ?_
  refine V.bipush (pc := 16) C dX2_init_16 (v := 8) (by decide) ?_
  refine V.igeT (pc := 18) C dX2_init_18 40 (by decide) (by decide) ?_
  exact V.vret C dX2_init_40
theorem ci_X2 (l : Launch) (R : Rf) (m : Mem) (hk : NK SX 41 R m) : Ct l yX2_init cX2_init 2 none 3 SX oV 41 90 R (rX2 R) [.ref 40] m (X2_init m) :=
  Ct.of (own := RX2) (nm := "<init>") (by decide) rfl rfl (Nat.le_of_ble_eq_true rfl) (fun _ _ _ _ _ _ _ _ _ _ _ C => vi_X2 C R m hk)
theorem nk_X2 {R : Rf} {m mF : Mem} {r : Unit} (hk : NK SX 41 R m) (hf : X2_init m = some (r, mF)) : NK SX 90 (rX2 R) mF := by
  rw [X2_init] at hf
  obtain ⟨_, m_1, hf_1, hf⟩ := bnd_some hf
  have hk_1 := nk_X5 42 (iX42 (Nat.le_refl 109)) (NK.new (NK.up (a := 40) (j := 0) (b := 41) (NK.new hk) (by omega))) hf_1
  obtain ⟨_, m_2, hf_2, hf⟩ := bnd_some hf
  have hk_2 := nk_X5 48 (iX48 (Nat.le_refl 109)) (NK.new (NK.up (a := 41) (j := (ix 0)) (b := 42) hk_1 (by omega))) hf_2
  obtain ⟨_, m_3, hf_3, hf⟩ := bnd_some hf
  have hk_3 := nk_X5 54 (iX54 (Nat.le_refl 109)) (NK.new (NK.up (a := 41) (j := (ix 1)) (b := 48) hk_2 (by omega))) hf_3
  obtain ⟨_, m_4, hf_4, hf⟩ := bnd_some hf
  have hk_4 := nk_X5 60 (iX60 (Nat.le_refl 109)) (NK.new (NK.up (a := 41) (j := (ix 2)) (b := 54) hk_3 (by omega))) hf_4
  obtain ⟨_, m_5, hf_5, hf⟩ := bnd_some hf
  have hk_5 := nk_X5 66 (iX66 (Nat.le_refl 109)) (NK.new (NK.up (a := 41) (j := (ix 3)) (b := 60) hk_4 (by omega))) hf_5
  obtain ⟨_, m_6, hf_6, hf⟩ := bnd_some hf
  have hk_6 := nk_X5 72 (iX72 (Nat.le_refl 109)) (NK.new (NK.up (a := 41) (j := (ix 4)) (b := 66) hk_5 (by omega))) hf_6
  obtain ⟨_, m_7, hf_7, hf⟩ := bnd_some hf
  have hk_7 := nk_X5 78 (iX78 (Nat.le_refl 109)) (NK.new (NK.up (a := 41) (j := (ix 5)) (b := 72) hk_6 (by omega))) hf_7
  obtain ⟨_, m_8, hf_8, hf⟩ := bnd_some hf
  have hk_8 := nk_X5 84 (iX84 (Nat.le_refl 109)) (NK.new (NK.up (a := 41) (j := (ix 6)) (b := 78) hk_7 (by omega))) hf_8
  cases hf
  exact (NK.up (a := 41) (j := (ix 7)) (b := 84) hk_8 (by omega))
theorem dX6_init_0 : decode cX6_init 0 = .ok (.aload_n 0, 1) := by decide +kernel
theorem dX6_init_1 : decode cX6_init 1 = .ok (.invokespecial 3, 3) := by decide +kernel
theorem dX6_init_4 : decode cX6_init 4 = .ok (.aload_n 0, 1) := by decide +kernel
theorem dX6_init_5 : decode cX6_init 5 = .ok (.bipush 64, 2) := by decide +kernel
theorem dX6_init_7 : decode cX6_init 7 = .ok (.newarray .boolean, 2) := by decide +kernel
theorem dX6_init_9 : decode cX6_init 9 = .ok (.putfield 9, 3) := by decide +kernel
theorem dX6_init_12 : decode cX6_init 12 = .ok (.aload_n 0, 1) := by decide +kernel
theorem dX6_init_13 : decode cX6_init 13 = .ok (.bipush 64, 2) := by decide +kernel
theorem dX6_init_15 : decode cX6_init 15 = .ok (.newarray .int, 2) := by decide +kernel
theorem dX6_init_17 : decode cX6_init 17 = .ok (.putfield 15, 3) := by decide +kernel
theorem dX6_init_20 : decode cX6_init 20 = .ok (.aload_n 0, 1) := by decide +kernel
theorem dX6_init_21 : decode cX6_init 21 = .ok (.sipush 256, 3) := by decide +kernel
theorem dX6_init_24 : decode cX6_init 24 = .ok (.newarray .int, 2) := by decide +kernel
theorem dX6_init_26 : decode cX6_init 26 = .ok (.putfield 19, 3) := by decide +kernel
theorem dX6_init_29 : decode cX6_init 29 = .ok (.aload_n 0, 1) := by decide +kernel
theorem dX6_init_30 : decode cX6_init 30 = .ok (.sipush 256, 3) := by decide +kernel
theorem dX6_init_33 : decode cX6_init 33 = .ok (.newarray .int, 2) := by decide +kernel
theorem dX6_init_35 : decode cX6_init 35 = .ok (.putfield 22, 3) := by decide +kernel
theorem dX6_init_38 : decode cX6_init 38 = .ok (.aload_n 0, 1) := by decide +kernel
theorem dX6_init_39 : decode cX6_init 39 = .ok (.bipush 8, 2) := by decide +kernel
theorem dX6_init_41 : decode cX6_init 41 = .ok (.newarray .int, 2) := by decide +kernel
theorem dX6_init_43 : decode cX6_init 43 = .ok (.putfield 25, 3) := by decide +kernel
theorem dX6_init_46 : decode cX6_init 46 = .ok (.return_, 1) := by decide +kernel
def X6_init (m : Mem) : Option (Unit × Mem) :=
  some ((), (nw (nw (nw (nw (nw m 91) 92) 93) 94) 95))
def rX6 (R : Rf) : Rf := (up2 (rnw (up2 (rnw (up2 (rnw (up2 (rnw (up2 (rnw R 91) 90 1 (some 91)) 92) 90 2 (some 92)) 93) 90 3 (some 93)) 94) 90 4 (some 94)) 95) 90 5 (some 95))
set_option maxRecDepth 100000 in
set_option maxHeartbeats 4000000 in
theorem vi_X6 {l : Launch} {p : Program} {e : Env} {s : State} {mt : MethodId} {args : Array Value} {below : List Frame} {meth : Method} {c : Code} {A : Nat → Prop} {ad0 : Nat → Nat} {G : Gt} (C : Cx G p s mt args meth c RX6 cX6_init 1 none "<init>" A) (R : Rf) (m : Mem) (hk : NK SX 91 R m) : V G SX oV l p e s mt args below meth c 1 2 A ad0 91 96 (rX6 R) 91 R 0 [(0, .ref 90)] [] m (X6_init m) := by
  rw [X6_init]
  refine V.aload_n (pc := 0) C dX6_init_0 0 rfl ?_
  refine V.obj (pc := 1) (st := []) C oj_RX6_3 oj_i oj_c (by decide) (Nat.le_of_ble_eq_true rfl) dX6_init_1 ?_
  refine V.aload_n (pc := 4) C dX6_init_4 0 rfl ?_
  refine V.bipush (pc := 5) C dX6_init_5 (v := 64) (by decide) ?_
  refine V.newz (pc := 7) (n := 64) (st := [.ref 90]) C ac_boolean sX91 (by decide) (by decide) (by decide) hk (List.forall_mem_cons.mpr ⟨okR (by omega), (fun _ h => absurd h List.not_mem_nil)⟩) (List.forall_mem_cons.mpr ⟨okR (by omega), (fun _ h => absurd h List.not_mem_nil)⟩) dX6_init_7 ?_
  refine V.putr (pc := 9) C fp_RX6_9 rfl rfl sX90 (by omega) rfl rfl dX6_init_9 ?_
  refine V.aload_n (pc := 12) C dX6_init_12 0 rfl ?_
  refine V.bipush (pc := 13) C dX6_init_13 (v := 64) (by decide) ?_
  refine V.newi (pc := 15) (n := 64) (st := [.ref 90]) C ac_int sX92 (by decide) (by decide) (by decide) (NK.up (a := 90) (j := 1) (b := 91) (NK.new hk) (by omega)) (List.forall_mem_cons.mpr ⟨okR (by omega), (fun _ h => absurd h List.not_mem_nil)⟩) (List.forall_mem_cons.mpr ⟨okR (by omega), (fun _ h => absurd h List.not_mem_nil)⟩) dX6_init_15 ?_
  refine V.putr (pc := 17) C fp_RX6_15 rfl rfl sX90 (by omega) rfl rfl dX6_init_17 ?_
  refine V.aload_n (pc := 20) C dX6_init_20 0 rfl ?_
  refine V.sipush (pc := 21) C dX6_init_21 (v := 256) (by decide) ?_
  refine V.newi (pc := 24) (n := 256) (st := [.ref 90]) C ac_int sX93 (by decide) (by decide) (by decide) (NK.up (a := 90) (j := 2) (b := 92) (NK.new (NK.up (a := 90) (j := 1) (b := 91) (NK.new hk) (by omega))) (by omega)) (List.forall_mem_cons.mpr ⟨okR (by omega), (fun _ h => absurd h List.not_mem_nil)⟩) (List.forall_mem_cons.mpr ⟨okR (by omega), (fun _ h => absurd h List.not_mem_nil)⟩) dX6_init_24 ?_
  refine V.putr (pc := 26) C fp_RX6_19 rfl rfl sX90 (by omega) rfl rfl dX6_init_26 ?_
  refine V.aload_n (pc := 29) C dX6_init_29 0 rfl ?_
  refine V.sipush (pc := 30) C dX6_init_30 (v := 256) (by decide) ?_
  refine V.newi (pc := 33) (n := 256) (st := [.ref 90]) C ac_int sX94 (by decide) (by decide) (by decide) (NK.up (a := 90) (j := 3) (b := 93) (NK.new (NK.up (a := 90) (j := 2) (b := 92) (NK.new (NK.up (a := 90) (j := 1) (b := 91) (NK.new hk) (by omega))) (by omega))) (by omega)) (List.forall_mem_cons.mpr ⟨okR (by omega), (fun _ h => absurd h List.not_mem_nil)⟩) (List.forall_mem_cons.mpr ⟨okR (by omega), (fun _ h => absurd h List.not_mem_nil)⟩) dX6_init_33 ?_
  refine V.putr (pc := 35) C fp_RX6_22 rfl rfl sX90 (by omega) rfl rfl dX6_init_35 ?_
  refine V.aload_n (pc := 38) C dX6_init_38 0 rfl ?_
  refine V.bipush (pc := 39) C dX6_init_39 (v := 8) (by decide) ?_
  refine V.newi (pc := 41) (n := 8) (st := [.ref 90]) C ac_int sX95 (by decide) (by decide) (by decide) (NK.up (a := 90) (j := 4) (b := 94) (NK.new (NK.up (a := 90) (j := 3) (b := 93) (NK.new (NK.up (a := 90) (j := 2) (b := 92) (NK.new (NK.up (a := 90) (j := 1) (b := 91) (NK.new hk) (by omega))) (by omega))) (by omega))) (by omega)) (List.forall_mem_cons.mpr ⟨okR (by omega), (fun _ h => absurd h List.not_mem_nil)⟩) (List.forall_mem_cons.mpr ⟨okR (by omega), (fun _ h => absurd h List.not_mem_nil)⟩) dX6_init_41 ?_
  refine V.putr (pc := 43) C fp_RX6_25 rfl rfl sX90 (by omega) rfl rfl dX6_init_43 ?_
  exact V.vret C dX6_init_46
theorem ci_X6 (l : Launch) (R : Rf) (m : Mem) (hk : NK SX 91 R m) : Ct l yX6_init cX6_init 1 none 2 SX oV 91 96 R (rX6 R) [.ref 90] m (X6_init m) :=
  Ct.of (own := RX6) (nm := "<init>") (by decide) rfl rfl (Nat.le_of_ble_eq_true rfl) (fun _ _ _ _ _ _ _ _ _ _ _ C => vi_X6 C R m hk)
theorem nk_X6 {R : Rf} {m mF : Mem} {r : Unit} (hk : NK SX 91 R m) (hf : X6_init m = some (r, mF)) : NK SX 96 (rX6 R) mF := by
  rw [X6_init] at hf
  cases hf
  exact (NK.up (a := 90) (j := 5) (b := 95) (NK.new (NK.up (a := 90) (j := 4) (b := 94) (NK.new (NK.up (a := 90) (j := 3) (b := 93) (NK.new (NK.up (a := 90) (j := 2) (b := 92) (NK.new (NK.up (a := 90) (j := 1) (b := 91) (NK.new hk) (by omega))) (by omega))) (by omega))) (by omega))) (by omega))
theorem dX1_init_0 : decode cX1_init 0 = .ok (.aload_n 0, 1) := by decide +kernel
theorem dX1_init_1 : decode cX1_init 1 = .ok (.invokespecial 3, 3) := by decide +kernel
theorem dX1_init_4 : decode cX1_init 4 = .ok (.aload_n 0, 1) := by decide +kernel
theorem dX1_init_5 : decode cX1_init 5 = .ok (.bipush 14, 2) := by decide +kernel
theorem dX1_init_7 : decode cX1_init 7 = .ok (.newarray .int, 2) := by decide +kernel
theorem dX1_init_9 : decode cX1_init 9 = .ok (.putfield 9, 3) := by decide +kernel
theorem dX1_init_12 : decode cX1_init 12 = .ok (.aload_n 0, 1) := by decide +kernel
theorem dX1_init_13 : decode cX1_init 13 = .ok (.bipush 14, 2) := by decide +kernel
theorem dX1_init_15 : decode cX1_init 15 = .ok (.newarray .int, 2) := by decide +kernel
theorem dX1_init_17 : decode cX1_init 17 = .ok (.putfield 15, 3) := by decide +kernel
theorem dX1_init_20 : decode cX1_init 20 = .ok (.aload_n 0, 1) := by decide +kernel
theorem dX1_init_21 : decode cX1_init 21 = .ok (.aload_n 1, 1) := by decide +kernel
theorem dX1_init_22 : decode cX1_init 22 = .ok (.putfield 18, 3) := by decide +kernel
theorem dX1_init_25 : decode cX1_init 25 = .ok (.return_, 1) := by decide +kernel
def X1_init (m : Mem) : Option (Unit × Mem) :=
  some ((), (nw (nw m 97) 98))
def rX1 (R : Rf) : Rf := (up2 (up2 (rnw (up2 (rnw R 97) 96 4 (some 97)) 98) 96 5 (some 98)) 96 0 (some 25))
set_option maxRecDepth 100000 in
set_option maxHeartbeats 4000000 in
theorem vi_X1 {l : Launch} {p : Program} {e : Env} {s : State} {mt : MethodId} {args : Array Value} {below : List Frame} {meth : Method} {c : Code} {A : Nat → Prop} {ad0 : Nat → Nat} {G : Gt} (C : Cx G p s mt args meth c RX1 cX1_init 2 none "<init>" A) (R : Rf) (m : Mem) (hk : NK SX 97 R m) : V G SX oV l p e s mt args below meth c 2 2 A ad0 97 99 (rX1 R) 97 R 0 [(0, .ref 96), (1, .ref 25)] [] m (X1_init m) := by
  rw [X1_init]
  refine V.aload_n (pc := 0) C dX1_init_0 0 rfl ?_
  refine V.obj (pc := 1) (st := []) C oj_RX1_3 oj_i oj_c (by decide) (Nat.le_of_ble_eq_true rfl) dX1_init_1 ?_
  refine V.aload_n (pc := 4) C dX1_init_4 0 rfl ?_
  refine V.bipush (pc := 5) C dX1_init_5 (v := 14) (by decide) ?_
  refine V.newi (pc := 7) (n := 14) (st := [.ref 96]) C ac_int sX97 (by decide) (by decide) (by decide) hk (List.forall_mem_cons.mpr ⟨okR (by omega), (List.forall_mem_cons.mpr ⟨okR (by omega), (fun _ h => absurd h List.not_mem_nil)⟩)⟩) (List.forall_mem_cons.mpr ⟨okR (by omega), (fun _ h => absurd h List.not_mem_nil)⟩) dX1_init_7 ?_
  refine V.putr (pc := 9) C fp_RX1_9 rfl rfl sX96 (by omega) rfl rfl dX1_init_9 ?_
  refine V.aload_n (pc := 12) C dX1_init_12 0 rfl ?_
  refine V.bipush (pc := 13) C dX1_init_13 (v := 14) (by decide) ?_
  refine V.newi (pc := 15) (n := 14) (st := [.ref 96]) C ac_int sX98 (by decide) (by decide) (by decide) (NK.up (a := 96) (j := 4) (b := 97) (NK.new hk) (by omega)) (List.forall_mem_cons.mpr ⟨okR (by omega), (List.forall_mem_cons.mpr ⟨okR (by omega), (fun _ h => absurd h List.not_mem_nil)⟩)⟩) (List.forall_mem_cons.mpr ⟨okR (by omega), (fun _ h => absurd h List.not_mem_nil)⟩) dX1_init_15 ?_
  refine V.putr (pc := 17) C fp_RX1_15 rfl rfl sX96 (by omega) rfl rfl dX1_init_17 ?_
  refine V.aload_n (pc := 20) C dX1_init_20 0 rfl ?_
  refine V.aload_n (pc := 21) C dX1_init_21 1 rfl ?_
  refine V.putr (pc := 22) C fp_RX1_18 rfl rfl sX96 (by omega) rfl rfl dX1_init_22 ?_
  exact V.vret C dX1_init_25
theorem ci_X1 (l : Launch) (R : Rf) (m : Mem) (hk : NK SX 97 R m) : Ct l yX1_init cX1_init 2 none 2 SX oV 97 99 R (rX1 R) [.ref 96, .ref 25] m (X1_init m) :=
  Ct.of (own := RX1) (nm := "<init>") (by decide) rfl rfl (Nat.le_of_ble_eq_true rfl) (fun _ _ _ _ _ _ _ _ _ _ _ C => vi_X1 C R m hk)
theorem nk_X1 {R : Rf} {m mF : Mem} {r : Unit} (hk : NK SX 97 R m) (hf : X1_init m = some (r, mF)) : NK SX 99 (rX1 R) mF := by
  rw [X1_init] at hf
  cases hf
  exact (NK.up (a := 96) (j := 0) (b := 25) (NK.up (a := 96) (j := 5) (b := 98) (NK.new (NK.up (a := 96) (j := 4) (b := 97) (NK.new hk) (by omega))) (by omega)) (by omega))
theorem dX9_init_0 : decode cX9_init 0 = .ok (.aload_n 0, 1) := by decide +kernel
theorem dX9_init_1 : decode cX9_init 1 = .ok (.invokespecial 3, 3) := by decide +kernel
theorem dX9_init_4 : decode cX9_init 4 = .ok (.aload_n 0, 1) := by decide +kernel
theorem dX9_init_5 : decode cX9_init 5 = .ok (.bipush 40, 2) := by decide +kernel
theorem dX9_init_7 : decode cX9_init 7 = .ok (.newarray .long, 2) := by decide +kernel
theorem dX9_init_9 : decode cX9_init 9 = .ok (.putfield 9, 3) := by decide +kernel
theorem dX9_init_12 : decode cX9_init 12 = .ok (.return_, 1) := by decide +kernel
def X9_init (a : Nat) (m : Mem) : Option (Unit × Mem) :=
  some ((), (nw m (a + 1)))
def rX9 (R : Rf) (a : Nat) : Rf := (up2 (rnw R (a + 1)) a 3 (some (a + 1)))
set_option maxRecDepth 100000 in
set_option maxHeartbeats 4000000 in
theorem vi_X9 {l : Launch} {p : Program} {e : Env} {s : State} {mt : MethodId} {args : Array Value} {below : List Frame} {meth : Method} {c : Code} {A : Nat → Prop} {ad0 : Nat → Nat} {G : Gt} (C : Cx G p s mt args meth c RX9 cX9_init 1 none "<init>" A) {Nx : Nat} (a : Nat) (ha : isTray Nx a) (R : Rf) (m : Mem) (hk : NK SX (a + 1) R m) : V G SX oV l p e s mt args below meth c 1 2 A ad0 (a + 1) (a + 2) (rX9 R a) (a + 1) R 0 [(0, .ref a)] [] m (X9_init a m) := by
  rw [X9_init]
  refine V.aload_n (pc := 0) C dX9_init_0 0 rfl ?_
  refine V.obj (pc := 1) (st := []) C oj_RX9_3 oj_i oj_c (by decide) (Nat.le_of_ble_eq_true rfl) dX9_init_1 ?_
  refine V.aload_n (pc := 4) C dX9_init_4 0 rfl ?_
  refine V.bipush (pc := 5) C dX9_init_5 (v := 40) (by decide) ?_
  refine V.newl (pc := 7) (n := 40) (st := [.ref a]) C ac_long ha.s1 (by decide) (by decide) (by decide) hk (List.forall_mem_cons.mpr ⟨okR (by omega), (fun _ h => absurd h List.not_mem_nil)⟩) (List.forall_mem_cons.mpr ⟨okR (by omega), (fun _ h => absurd h List.not_mem_nil)⟩) dX9_init_7 ?_
  refine V.putr (pc := 9) C fp_RX9_9 rfl rfl ha.s (by omega) rfl rfl dX9_init_9 ?_
  exact V.vret C dX9_init_12
theorem ci_X9 (l : Launch) {Nx : Nat} (a : Nat) (ha : isTray Nx a) (R : Rf) (m : Mem) (hk : NK SX (a + 1) R m) : Ct l yX9_init cX9_init 1 none 2 SX oV (a + 1) (a + 2) R (rX9 R a) [.ref a] m (X9_init a m) :=
  Ct.of (own := RX9) (nm := "<init>") (by decide) rfl rfl (Nat.le_of_ble_eq_true rfl) (fun _ _ _ _ _ _ _ _ _ _ _ C => vi_X9 C a ha R m hk)
theorem nk_X9 {Nx : Nat} (a : Nat) (ha : isTray Nx a) {R : Rf} {m mF : Mem} {r : Unit} (hk : NK SX (a + 1) R m) (hf : X9_init a m = some (r, mF)) : NK SX (a + 2) (rX9 R a) mF := by
  rw [X9_init] at hf
  cases hf
  exact (NK.up (a := a) (j := 3) (b := (a + 1)) (NK.new hk) (by omega))
theorem dX3_init_0 : decode cX3_init 0 = .ok (.aload_n 0, 1) := by decide +kernel
theorem dX3_init_1 : decode cX3_init 1 = .ok (.invokespecial 1, 3) := by decide +kernel
theorem dX3_init_4 : decode cX3_init 4 = .ok (.aload_n 0, 1) := by decide +kernel
theorem dX3_init_5 : decode cX3_init 5 = .ok (.new 7, 3) := by decide +kernel
theorem dX3_init_8 : decode cX3_init 8 = .ok (.dup, 1) := by decide +kernel
theorem dX3_init_9 : decode cX3_init 9 = .ok (.invokespecial 9, 3) := by decide +kernel
theorem dX3_init_12 : decode cX3_init 12 = .ok (.putfield 10, 3) := by decide +kernel
theorem dX3_init_15 : decode cX3_init 15 = .ok (.aload_n 0, 1) := by decide +kernel
theorem dX3_init_16 : decode cX3_init 16 = .ok (.new 16, 3) := by decide +kernel
theorem dX3_init_19 : decode cX3_init 19 = .ok (.dup, 1) := by decide +kernel
theorem dX3_init_20 : decode cX3_init 20 = .ok (.invokespecial 18, 3) := by decide +kernel
theorem dX3_init_23 : decode cX3_init 23 = .ok (.putfield 19, 3) := by decide +kernel
theorem dX3_init_26 : decode cX3_init 26 = .ok (.return_, 1) := by decide +kernel
def X3_init (a : Nat) (m : Mem) : Option (Unit × Mem) :=
  bnd (X8_init (a + 1) (nw m (a + 1))) fun _ m_1 =>
  bnd (X5_init (a + 8) (nw m_1 (a + 8))) fun _ m_2 =>
  some ((), m_2)
def rX3 (R : Rf) (a : Nat) : Rf := (up2 (rX5 (rnw (up2 (rX8 (rnw R (a + 1)) (a + 1)) a 0 (some (a + 1))) (a + 8)) (a + 8)) a 1 (some (a + 8)))
set_option maxRecDepth 100000 in
set_option maxHeartbeats 4000000 in
theorem vi_X3 {l : Launch} {p : Program} {e : Env} {s : State} {mt : MethodId} {args : Array Value} {below : List Frame} {meth : Method} {c : Code} {A : Nat → Prop} {ad0 : Nat → Nat} {G : Gt} (C : Cx G p s mt args meth c RX3 cX3_init 1 none "<init>" A) {Nx : Nat} (a : Nat) (ha : isImage Nx a) (R : Rf) (m : Mem) (hk : NK SX (a + 1) R m) : V G SX oV l p e s mt args below meth c 1 4 A ad0 (a + 1) (a + 14) (rX3 R a) (a + 1) R 0 [(0, .ref a)] [] m (X3_init a m) := by
  rw [X3_init]
  refine V.aload_n (pc := 0) C dX3_init_0 0 rfl ?_
  refine V.obj (pc := 1) (st := []) C oj_RX3_1 oj_i oj_c (by decide) (Nat.le_of_ble_eq_true rfl) dX3_init_1 ?_
  refine V.aload_n (pc := 4) C dX3_init_4 0 rfl ?_
  refine V.new (pc := 5) (st := [.ref a]) C (RX8, TX8, 9) okX8 nwX8 nc_RX3_7 ni_8 nz_8 ha.ru.s hk (List.forall_mem_cons.mpr ⟨okR (by omega), (fun _ h => absurd h List.not_mem_nil)⟩) (List.forall_mem_cons.mpr ⟨okR (by omega), (fun _ h => absurd h List.not_mem_nil)⟩) dX3_init_5 ?_
  refine V.dup (pc := 8) C dX3_init_8 rfl ?_
  refine V.callI (pc := 9) (st := [.ref (a + 1), .ref a]) C (ci_X8 l (a + 1) ha.ru  _ (nw m (a + 1)) (NK.new hk)) ck_X8_init rfl in_X8_init (Or.inl ml_RX3_9) (by omega) (List.forall_mem_cons.mpr ⟨okR (by omega), (fun _ h => absurd h List.not_mem_nil)⟩) (List.forall_mem_cons.mpr ⟨okR (by omega), (List.forall_mem_cons.mpr ⟨okR (by omega), (fun _ h => absurd h List.not_mem_nil)⟩)⟩) rfl rfl (Nat.le_of_ble_eq_true rfl) ⟨by decide, by decide⟩ dX3_init_9 (fun m_1 hf_1 => ?_)
  have hk_1 := nk_X8 (a + 1) ha.ru (NK.new hk) hf_1
  refine V.putr (pc := 12) C fp_RX3_10 rfl rfl ha.s (by omega) rfl rfl dX3_init_12 ?_
  refine V.aload_n (pc := 15) C dX3_init_15 0 rfl ?_
  refine V.new (pc := 16) (st := [.ref a]) C (RX5, TX5, 6) okX5 nwX5 nc_RX3_16 ni_5 nz_5 ha.li.s (NK.up (a := a) (j := 0) (b := (a + 1)) hk_1 (by omega)) (List.forall_mem_cons.mpr ⟨okR (by omega), (fun _ h => absurd h List.not_mem_nil)⟩) (List.forall_mem_cons.mpr ⟨okR (by omega), (fun _ h => absurd h List.not_mem_nil)⟩) dX3_init_16 ?_
  refine V.dup (pc := 19) C dX3_init_19 rfl ?_
  refine V.callI (pc := 20) (st := [.ref (a + 8), .ref a]) C (ci_X5 l (a + 8) ha.li  _ (nw m_1 (a + 8)) (NK.new (NK.up (a := a) (j := 0) (b := (a + 1)) hk_1 (by omega)))) ck_X5_init rfl in_X5_init (Or.inl ml_RX3_18) (by omega) (List.forall_mem_cons.mpr ⟨okR (by omega), (fun _ h => absurd h List.not_mem_nil)⟩) (List.forall_mem_cons.mpr ⟨okR (by omega), (List.forall_mem_cons.mpr ⟨okR (by omega), (fun _ h => absurd h List.not_mem_nil)⟩)⟩) rfl rfl (Nat.le_of_ble_eq_true rfl) ⟨by decide, by decide⟩ dX3_init_20 (fun m_2 hf_2 => ?_)
  have hk_2 := nk_X5 (a + 8) ha.li (NK.new (NK.up (a := a) (j := 0) (b := (a + 1)) hk_1 (by omega))) hf_2
  refine V.putr (pc := 23) C fp_RX3_19 rfl rfl ha.s (by omega) rfl rfl dX3_init_23 ?_
  exact V.vret C dX3_init_26
theorem ci_X3 (l : Launch) {Nx : Nat} (a : Nat) (ha : isImage Nx a) (R : Rf) (m : Mem) (hk : NK SX (a + 1) R m) : Ct l yX3_init cX3_init 1 none 4 SX oV (a + 1) (a + 14) R (rX3 R a) [.ref a] m (X3_init a m) :=
  Ct.of (own := RX3) (nm := "<init>") (by decide) rfl rfl (Nat.le_of_ble_eq_true rfl) (fun _ _ _ _ _ _ _ _ _ _ _ C => vi_X3 C a ha R m hk)
theorem nk_X3 {Nx : Nat} (a : Nat) (ha : isImage Nx a) {R : Rf} {m mF : Mem} {r : Unit} (hk : NK SX (a + 1) R m) (hf : X3_init a m = some (r, mF)) : NK SX (a + 14) (rX3 R a) mF := by
  rw [X3_init] at hf
  obtain ⟨_, m_1, hf_1, hf⟩ := bnd_some hf
  have hk_1 := nk_X8 (a + 1) ha.ru (NK.new hk) hf_1
  obtain ⟨_, m_2, hf_2, hf⟩ := bnd_some hf
  have hk_2 := nk_X5 (a + 8) ha.li (NK.new (NK.up (a := a) (j := 0) (b := (a + 1)) hk_1 (by omega))) hf_2
  cases hf
  exact (NK.up (a := a) (j := 1) (b := (a + 8)) hk_2 (by omega))
