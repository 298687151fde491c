theorem wl_refs {G : Gt} {S : Nat → Sh} {m : Mem} {R R2 : Rf} {N : Nat} (hf : ∀ k, k < N → ∀ c, S k = .inl c → ∀ j, j < nF c → R2 k j = R k j) (ha : ∀ k, k < N → ∀ ty n, S k = .inr (ty, n) → 3 < ty → ty < 6 → ∀ j, R2 k j = R k j) (ad : Nat → Nat) : wl G S ad N R2 m = wl G S ad N R m := by
  refine wl_cong (fun k hk => ⟨rfl, ?_⟩)
  cases hs : S k with
  | inl c =>
    show Sum.inr (c, (List.range (nF c)).map (fv ad R2 m k c)) = Sum.inr (c, (List.range (nF c)).map (fv ad R m k c))
    congr 2
    apply List.map_congr_left
    intro j hj
    unfold fv
    rw [hf k hk c hs j (List.mem_range.mp hj)]
  | inr q =>
    obtain ⟨ty, n⟩ := q
    simp only [entS]
    congr 3
    by_cases q0 : ty < 3
    · rw [if_pos q0, if_pos q0]
    · rw [if_neg q0, if_neg q0]
      by_cases q1 : ty = 3
      · rw [if_pos q1, if_pos q1]
      · rw [if_neg q1, if_neg q1]
        by_cases q2 : ty < 6
        · rw [if_pos q2, if_pos q2]
          simp only [ha k hk ty n hs (by omega) q2]
        · rw [if_neg q2, if_neg q2]
theorem wl_rm {G : Gt} {m : Mem} (ad : Nat → Nat) : wl G SM ad 17 RM m = wl G SM ad 17 (up2 (rnw (up2 (rnw (up2 (rnw (up2 (rnw (up2 (rnw (up2 (rnw (up2 (rnw (up2 (rnw (up2 (rnw (up2 (rnw (up2 (rnw (up2 (rnw (up2 (rnw (up2 (rnw (up2 (rnw (up2 (rnw (fun _ _ => none) 1) 0 1 (some 1)) 2) 0 2 (some 2)) 3) 0 3 (some 3)) 4) 0 4 (some 4)) 5) 0 15 (some 5)) 6) 0 16 (some 6)) 7) 0 17 (some 7)) 8) 0 18 (some 8)) 9) 0 21 (some 9)) 10) 0 22 (some 10)) 11) 0 23 (some 11)) 12) 0 24 (some 12)) 13) 0 29 (some 13)) 14) 0 30 (some 14)) 15) 0 31 (some 15)) 16) 0 32 (some 16)) m := by
  refine wl_refs (fun k hk c hs j hj => ?_) (fun k hk ty n hs h3 h6 j => ?_) ad
  · have h : ∀ k, k < 17 → ∀ j, j < 33 → RM k j = ((up2 (rnw (up2 (rnw (up2 (rnw (up2 (rnw (up2 (rnw (up2 (rnw (up2 (rnw (up2 (rnw (up2 (rnw (up2 (rnw (up2 (rnw (up2 (rnw (up2 (rnw (up2 (rnw (up2 (rnw (up2 (rnw (fun _ _ => none) 1) 0 1 (some 1)) 2) 0 2 (some 2)) 3) 0 3 (some 3)) 4) 0 4 (some 4)) 5) 0 15 (some 5)) 6) 0 16 (some 6)) 7) 0 17 (some 7)) 8) 0 18 (some 8)) 9) 0 21 (some 9)) 10) 0 22 (some 10)) 11) 0 23 (some 11)) 12) 0 24 (some 12)) 13) 0 29 (some 13)) 14) 0 30 (some 14)) 15) 0 31 (some 15)) 16) 0 32 (some 16)) : Rf) k j := by decide +kernel
    have hn : ∀ k, k < 17 → ∀ c, c < 13 → SM k = .inl c → nF c ≤ 33 := by decide +kernel
    have hc : ∀ k, k < 17 → (match SM k with | .inl c => c | .inr _ => 0) < 13 := by decide +kernel
    have hc2 := hc k hk
    rw [hs] at hc2
    exact h k hk j (Nat.lt_of_lt_of_le hj (hn k hk c hc2 hs))
  · exfalso
    have h : ∀ k, k < 17 → (match SM k with | .inl _ => 0 | .inr q => q.1) < 4 := by decide +kernel
    have h2 := h k hk
    rw [hs] at h2
    have h2 : ty < 4 := h2
    omega
theorem dX11_init_0 : decode cX11_init 0 = .ok (.aload_n 0, 1) := by decide +kernel
theorem dX11_init_1 : decode cX11_init 1 = .ok (.invokespecial 1, 3) := by decide +kernel
theorem dX11_init_4 : decode cX11_init 4 = .ok (.aload_n 0, 1) := by decide +kernel
theorem dX11_init_5 : decode cX11_init 5 = .ok (.sipush 900, 3) := by decide +kernel
theorem dX11_init_8 : decode cX11_init 8 = .ok (.newarray .byte, 2) := by decide +kernel
theorem dX11_init_10 : decode cX11_init 10 = .ok (.putfield 9, 3) := by decide +kernel
theorem dX11_init_13 : decode cX11_init 13 = .ok (.aload_n 0, 1) := by decide +kernel
theorem dX11_init_14 : decode cX11_init 14 = .ok (.new 13, 3) := by decide +kernel
theorem dX11_init_17 : decode cX11_init 17 = .ok (.dup, 1) := by decide +kernel
theorem dX11_init_18 : decode cX11_init 18 = .ok (.invokespecial 15, 3) := by decide +kernel
theorem dX11_init_21 : decode cX11_init 21 = .ok (.putfield 16, 3) := by decide +kernel
theorem dX11_init_24 : decode cX11_init 24 = .ok (.aload_n 0, 1) := by decide +kernel
theorem dX11_init_25 : decode cX11_init 25 = .ok (.new 13, 3) := by decide +kernel
theorem dX11_init_28 : decode cX11_init 28 = .ok (.dup, 1) := by decide +kernel
theorem dX11_init_29 : decode cX11_init 29 = .ok (.invokespecial 15, 3) := by decide +kernel
theorem dX11_init_32 : decode cX11_init 32 = .ok (.putfield 20, 3) := by decide +kernel
theorem dX11_init_35 : decode cX11_init 35 = .ok (.aload_n 0, 1) := by decide +kernel
theorem dX11_init_36 : decode cX11_init 36 = .ok (.new 23, 3) := by decide +kernel
theorem dX11_init_39 : decode cX11_init 39 = .ok (.dup, 1) := by decide +kernel
theorem dX11_init_40 : decode cX11_init 40 = .ok (.invokespecial 25, 3) := by decide +kernel
theorem dX11_init_43 : decode cX11_init 43 = .ok (.putfield 26, 3) := by decide +kernel
theorem dX11_init_46 : decode cX11_init 46 = .ok (.new 30, 3) := by decide +kernel
theorem dX11_init_49 : decode cX11_init 49 = .ok (.dup, 1) := by decide +kernel
theorem dX11_init_50 : decode cX11_init 50 = .ok (.invokespecial 32, 3) := by decide +kernel
theorem dX11_init_53 : decode cX11_init 53 = .ok (.astore_n 1, 1) := by decide +kernel
theorem dX11_init_54 : decode cX11_init 54 = .ok (.aload_n 0, 1) := by decide +kernel
theorem dX11_init_55 : decode cX11_init 55 = .ok (.new 33, 3) := by decide +kernel
theorem dX11_init_58 : decode cX11_init 58 = .ok (.dup, 1) := by decide +kernel
theorem dX11_init_59 : decode cX11_init 59 = .ok (.aload_n 0, 1) := by decide +kernel
theorem dX11_init_60 : decode cX11_init 60 = .ok (.getfield 16, 3) := by decide +kernel
theorem dX11_init_63 : decode cX11_init 63 = .ok (.aload_n 1, 1) := by decide +kernel
theorem dX11_init_64 : decode cX11_init 64 = .ok (.invokespecial 35, 3) := by decide +kernel
theorem dX11_init_67 : decode cX11_init 67 = .ok (.putfield 38, 3) := by decide +kernel
theorem dX11_init_70 : decode cX11_init 70 = .ok (.aload_n 0, 1) := by decide +kernel
theorem dX11_init_71 : decode cX11_init 71 = .ok (.new 33, 3) := by decide +kernel
theorem dX11_init_74 : decode cX11_init 74 = .ok (.dup, 1) := by decide +kernel
theorem dX11_init_75 : decode cX11_init 75 = .ok (.aload_n 0, 1) := by decide +kernel
theorem dX11_init_76 : decode cX11_init 76 = .ok (.getfield 16, 3) := by decide +kernel
theorem dX11_init_79 : decode cX11_init 79 = .ok (.aload_n 1, 1) := by decide +kernel
theorem dX11_init_80 : decode cX11_init 80 = .ok (.invokespecial 35, 3) := by decide +kernel
theorem dX11_init_83 : decode cX11_init 83 = .ok (.putfield 42, 3) := by decide +kernel
theorem dX11_init_86 : decode cX11_init 86 = .ok (.aload_n 0, 1) := by decide +kernel
theorem dX11_init_87 : decode cX11_init 87 = .ok (.new 45, 3) := by decide +kernel
theorem dX11_init_90 : decode cX11_init 90 = .ok (.dup, 1) := by decide +kernel
theorem dX11_init_91 : decode cX11_init 91 = .ok (.aload_n 0, 1) := by decide +kernel
theorem dX11_init_92 : decode cX11_init 92 = .ok (.getfield 9, 3) := by decide +kernel
theorem dX11_init_95 : decode cX11_init 95 = .ok (.aload_n 0, 1) := by decide +kernel
theorem dX11_init_96 : decode cX11_init 96 = .ok (.getfield 20, 3) := by decide +kernel
theorem dX11_init_99 : decode cX11_init 99 = .ok (.aload_n 0, 1) := by decide +kernel
theorem dX11_init_100 : decode cX11_init 100 = .ok (.getfield 26, 3) := by decide +kernel
theorem dX11_init_103 : decode cX11_init 103 = .ok (.invokespecial 47, 3) := by decide +kernel
theorem dX11_init_106 : decode cX11_init 106 = .ok (.putfield 50, 3) := by decide +kernel
theorem dX11_init_109 : decode cX11_init 109 = .ok (.aload_n 0, 1) := by decide +kernel
theorem dX11_init_110 : decode cX11_init 110 = .ok (.new 54, 3) := by decide +kernel
theorem dX11_init_113 : decode cX11_init 113 = .ok (.dup, 1) := by decide +kernel
theorem dX11_init_114 : decode cX11_init 114 = .ok (.invokespecial 56, 3) := by decide +kernel
theorem dX11_init_117 : decode cX11_init 117 = .ok (.putfield 57, 3) := by decide +kernel
theorem dX11_init_120 : decode cX11_init 120 = .ok (.aload_n 0, 1) := by decide +kernel
theorem dX11_init_121 : decode cX11_init 121 = .ok (.new 61, 3) := by decide +kernel
theorem dX11_init_124 : decode cX11_init 124 = .ok (.dup, 1) := by decide +kernel
theorem dX11_init_125 : decode cX11_init 125 = .ok (.invokespecial 63, 3) := by decide +kernel
theorem dX11_init_128 : decode cX11_init 128 = .ok (.putfield 64, 3) := by decide +kernel
theorem dX11_init_131 : decode cX11_init 131 = .ok (.aload_n 0, 1) := by decide +kernel
theorem dX11_init_132 : decode cX11_init 132 = .ok (.new 68, 3) := by decide +kernel
theorem dX11_init_135 : decode cX11_init 135 = .ok (.dup, 1) := by decide +kernel
theorem dX11_init_136 : decode cX11_init 136 = .ok (.aload_n 0, 1) := by decide +kernel
theorem dX11_init_137 : decode cX11_init 137 = .ok (.getfield 38, 3) := by decide +kernel
theorem dX11_init_140 : decode cX11_init 140 = .ok (.invokespecial 70, 3) := by decide +kernel
theorem dX11_init_143 : decode cX11_init 143 = .ok (.putfield 73, 3) := by decide +kernel
theorem dX11_init_146 : decode cX11_init 146 = .ok (.aload_n 0, 1) := by decide +kernel
theorem dX11_init_147 : decode cX11_init 147 = .ok (.iconst 4, 1) := by decide +kernel
theorem dX11_init_148 : decode cX11_init 148 = .ok (.anewarray 77, 3) := by decide +kernel
theorem dX11_init_151 : decode cX11_init 151 = .ok (.putfield 79, 3) := by decide +kernel
theorem dX11_init_154 : decode cX11_init 154 = .ok (.iconst 0, 1) := by decide +kernel
theorem dX11_init_155 : decode cX11_init 155 = .ok (.istore_n 2, 1) := by decide +kernel
theorem dX11_init_156 : decode cX11_init 156 = .ok (.iload_n 2, 1) := by decide +kernel
theorem dX11_init_157 : decode cX11_init 157 = .ok (.iconst 4, 1) := by decide +kernel
theorem dX11_init_158 : decode cX11_init 158 = .ok (.if_icmp .ge 22, 3) := by decide +kernel
theorem dX11_init_161 : decode cX11_init 161 = .ok (.aload_n 0, 1) := by decide +kernel
theorem dX11_init_162 : decode cX11_init 162 = .ok (.getfield 79, 3) := by decide +kernel
theorem dX11_init_165 : decode cX11_init 165 = .ok (.iload_n 2, 1) := by decide +kernel
theorem dX11_init_166 : decode cX11_init 166 = .ok (.new 77, 3) := by decide +kernel
theorem dX11_init_169 : decode cX11_init 169 = .ok (.dup, 1) := by decide +kernel
theorem dX11_init_170 : decode cX11_init 170 = .ok (.invokespecial 83, 3) := by decide +kernel
theorem dX11_init_173 : decode cX11_init 173 = .ok (.aastore, 1) := by decide +kernel
theorem dX11_init_174 : decode cX11_init 174 = .ok (.iinc 2 1, 3) := by decide +kernel
theorem dX11_init_177 : decode cX11_init 177 = .ok (.goto (-21), 3) := by decide +kernel
theorem dX11_init_180 : decode cX11_init 180 = .ok (.aload_n 0, 1) := by decide +kernel
theorem dX11_init_181 : decode cX11_init 181 = .ok (.iconst 2, 1) := by decide +kernel
theorem dX11_init_182 : decode cX11_init 182 = .ok (.anewarray 84, 3) := by decide +kernel
theorem dX11_init_185 : decode cX11_init 185 = .ok (.putfield 86, 3) := by decide +kernel
theorem dX11_init_188 : decode cX11_init 188 = .ok (.return_, 1) := by decide +kernel
def X11_init (m : Mem) : Option (Unit × Mem) :=
  bnd (X8_init 2 (nw (nw m 1) 2)) fun _ m_1 =>
  bnd (X8_init 9 (nw m_1 9)) fun _ m_2 =>
  bnd (X5_init 16 (nw m_2 16)) fun _ m_3 =>
  bnd (X0_init (nw m_3 22)) fun _ m_4 =>
  bnd (X10_init 25 (nw m_4 25)) fun _ m_5 =>
  bnd (X10_init 32 (nw m_5 32)) fun _ m_6 =>
  bnd (X7_init (nw m_6 39)) fun _ m_7 =>
  bnd (X2_init (nw m_7 40)) fun _ m_8 =>
  bnd (X6_init (nw m_8 90)) fun _ m_9 =>
  bnd (X1_init (nw m_9 96)) fun _ m_10 =>
  bnd (X9_init 100 (nw (nw m_10 99) 100)) fun _ m_11 =>
  bnd (X9_init 102 (nw m_11 102)) fun _ m_12 =>
  bnd (X9_init 104 (nw m_12 104)) fun _ m_13 =>
  bnd (X9_init 106 (nw m_13 106)) fun _ m_14 =>
  some ((), (nw m_14 108))
def rX11 : Rf := (up2 (rnw (up2 (rX9 (rnw (up2 (rX9 (rnw (up2 (rX9 (rnw (up2 (rX9 (rnw (up2 (rnw (up2 (rX1 (rnw (up2 (rX6 (rnw (up2 (rX2 (rnw (up2 (rX7 (rnw (up2 (rX10 (rnw (up2 (rX10 (rnw (rX0 (rnw (up2 (rX5 (rnw (up2 (rX8 (rnw (up2 (rX8 (rnw (up2 (rnw (fun _ _ => none) 1) 0 0 (some 1)) 2) 2) 0 3 (some 2)) 9) 9) 0 4 (some 9)) 16) 16) 0 5 (some 16)) 22)) 25) 25) 0 6 (some 25)) 32) 32) 0 7 (some 32)) 39)) 0 8 (some 39)) 40)) 0 9 (some 40)) 90)) 0 10 (some 90)) 96)) 0 11 (some 96)) 99) 0 12 (some 99)) 100) 100) 99 (ix 0) (some 100)) 102) 102) 99 (ix 1) (some 102)) 104) 104) 99 (ix 2) (some 104)) 106) 106) 99 (ix 3) (some 106)) 108) 0 13 (some 108))
set_option maxRecDepth 100000 in
set_option maxHeartbeats 4000000 in
theorem vi_X11 {l : Launch} {p : Program} {e : Env} {s : State} {mt : MethodId} {args : Array Value} {below : List Frame} {meth : Method} {c : Code} {A : Nat → Prop} {ad0 : Nat → Nat} {G : Gt} (C : Cx G p s mt args meth c RX11 cX11_init 3 none "<init>" A) (m : Mem) (hk : NK SX 1 (fun _ _ => none) m) : V G SX oV l p e s mt args below meth c 3 4 A ad0 1 109 rX11 1 (fun _ _ => none) 0 [(0, .ref 0)] [] m (X11_init m) := by
  rw [X11_init]
  refine V.aload_n (pc := 0) C dX11_init_0 0 rfl ?_
  refine V.obj (pc := 1) (st := []) C oj_RX11_1 oj_i oj_c (by decide) (Nat.le_of_ble_eq_true rfl) dX11_init_1 ?_
  refine V.aload_n (pc := 4) C dX11_init_4 0 rfl ?_
  refine V.sipush (pc := 5) C dX11_init_5 (v := 900) (by decide) ?_
  refine V.newb (pc := 8) (n := 900) (st := [.ref 0]) C ac_byte sX1 (by decide) (by decide) (by decide) hk (List.forall_mem_cons.mpr ⟨okR (by omega), (fun _ h => absurd h List.not_mem_nil)⟩) (List.forall_mem_cons.mpr ⟨okR (by omega), (fun _ h => absurd h List.not_mem_nil)⟩) dX11_init_8 ?_
  refine V.putr (pc := 10) C fp_RX11_9 rfl rfl sX0 (by omega) rfl rfl dX11_init_10 ?_
  refine V.aload_n (pc := 13) C dX11_init_13 0 rfl ?_
  refine V.new (pc := 14) (st := [.ref 0]) C (RX8, TX8, 9) okX8 nwX8 nc_RX11_13 ni_8 nz_8 sX2 (NK.up (a := 0) (j := 0) (b := 1) (NK.new hk) (by omega)) (List.forall_mem_cons.mpr ⟨okR (by omega), (fun _ h => absurd h List.not_mem_nil)⟩) (List.forall_mem_cons.mpr ⟨okR (by omega), (fun _ h => absurd h List.not_mem_nil)⟩) dX11_init_14 ?_
  refine V.dup (pc := 17) C dX11_init_17 rfl ?_
  refine V.callI (pc := 18) (st := [.ref 2, .ref 0]) C (ci_X8 l 2 (iX2 (Nat.le_refl 109))  _ (nw (nw m 1) 2) (NK.new (NK.up (a := 0) (j := 0) (b := 1) (NK.new hk) (by omega)))) ck_X8_init rfl in_X8_init (Or.inl ml_RX11_15) (by omega) (List.forall_mem_cons.mpr ⟨okR (by omega), (fun _ h => absurd h List.not_mem_nil)⟩) (List.forall_mem_cons.mpr ⟨okR (by omega), (List.forall_mem_cons.mpr ⟨okR (by omega), (fun _ h => absurd h List.not_mem_nil)⟩)⟩) rfl rfl (Nat.le_of_ble_eq_true rfl) ⟨by decide, by decide⟩ dX11_init_18 (fun m_1 hf_1 => ?_)
  have hk_1 := nk_X8 2 (iX2 (Nat.le_refl 109)) (NK.new (NK.up (a := 0) (j := 0) (b := 1) (NK.new hk) (by omega))) hf_1
  refine V.putr (pc := 21) C fp_RX11_16 rfl rfl sX0 (by omega) rfl rfl dX11_init_21 ?_
  refine V.aload_n (pc := 24) C dX11_init_24 0 rfl ?_
  refine V.new (pc := 25) (st := [.ref 0]) C (RX8, TX8, 9) okX8 nwX8 nc_RX11_13 ni_8 nz_8 sX9 (NK.up (a := 0) (j := 3) (b := 2) hk_1 (by omega)) (List.forall_mem_cons.mpr ⟨okR (by omega), (fun _ h => absurd h List.not_mem_nil)⟩) (List.forall_mem_cons.mpr ⟨okR (by omega), (fun _ h => absurd h List.not_mem_nil)⟩) dX11_init_25 ?_
  refine V.dup (pc := 28) C dX11_init_28 rfl ?_
  refine V.callI (pc := 29) (st := [.ref 9, .ref 0]) C (ci_X8 l 9 (iX9 (Nat.le_refl 109))  _ (nw m_1 9) (NK.new (NK.up (a := 0) (j := 3) (b := 2) hk_1 (by omega)))) ck_X8_init rfl in_X8_init (Or.inl ml_RX11_15) (by omega) (List.forall_mem_cons.mpr ⟨okR (by omega), (fun _ h => absurd h List.not_mem_nil)⟩) (List.forall_mem_cons.mpr ⟨okR (by omega), (List.forall_mem_cons.mpr ⟨okR (by omega), (fun _ h => absurd h List.not_mem_nil)⟩)⟩) rfl rfl (Nat.le_of_ble_eq_true rfl) ⟨by decide, by decide⟩ dX11_init_29 (fun m_2 hf_2 => ?_)
  have hk_2 := nk_X8 9 (iX9 (Nat.le_refl 109)) (NK.new (NK.up (a := 0) (j := 3) (b := 2) hk_1 (by omega))) hf_2
  refine V.putr (pc := 32) C fp_RX11_20 rfl rfl sX0 (by omega) rfl rfl dX11_init_32 ?_
  refine V.aload_n (pc := 35) C dX11_init_35 0 rfl ?_
  refine V.new (pc := 36) (st := [.ref 0]) C (RX5, TX5, 6) okX5 nwX5 nc_RX11_23 ni_5 nz_5 sX16 (NK.up (a := 0) (j := 4) (b := 9) hk_2 (by omega)) (List.forall_mem_cons.mpr ⟨okR (by omega), (fun _ h => absurd h List.not_mem_nil)⟩) (List.forall_mem_cons.mpr ⟨okR (by omega), (fun _ h => absurd h List.not_mem_nil)⟩) dX11_init_36 ?_
  refine V.dup (pc := 39) C dX11_init_39 rfl ?_
  refine V.callI (pc := 40) (st := [.ref 16, .ref 0]) C (ci_X5 l 16 (iX16 (Nat.le_refl 109))  _ (nw m_2 16) (NK.new (NK.up (a := 0) (j := 4) (b := 9) hk_2 (by omega)))) ck_X5_init rfl in_X5_init (Or.inl ml_RX11_25) (by omega) (List.forall_mem_cons.mpr ⟨okR (by omega), (fun _ h => absurd h List.not_mem_nil)⟩) (List.forall_mem_cons.mpr ⟨okR (by omega), (List.forall_mem_cons.mpr ⟨okR (by omega), (fun _ h => absurd h List.not_mem_nil)⟩)⟩) rfl rfl (Nat.le_of_ble_eq_true rfl) ⟨by decide, by decide⟩ dX11_init_40 (fun m_3 hf_3 => ?_)
  have hk_3 := nk_X5 16 (iX16 (Nat.le_refl 109)) (NK.new (NK.up (a := 0) (j := 4) (b := 9) hk_2 (by omega))) hf_3
  refine V.putr (pc := 43) C fp_RX11_26 rfl rfl sX0 (by omega) rfl rfl dX11_init_43 ?_
  refine V.new (pc := 46) (st := []) C (RX0, TX0, 2) okX0 nwX0 nc_RX11_30 ni_0 nz_0 sX22 (NK.up (a := 0) (j := 5) (b := 16) hk_3 (by omega)) (List.forall_mem_cons.mpr ⟨okR (by omega), (fun _ h => absurd h List.not_mem_nil)⟩) (fun _ h => absurd h List.not_mem_nil) dX11_init_46 ?_
  refine V.dup (pc := 49) C dX11_init_49 rfl ?_
  refine V.callI (pc := 50) (st := [.ref 22]) C (ci_X0 l  _ (nw m_3 22) (NK.new (NK.up (a := 0) (j := 5) (b := 16) hk_3 (by omega)))) ck_X0_init rfl in_X0_init (Or.inr (by decide)) (by omega) (List.forall_mem_cons.mpr ⟨okR (by omega), (fun _ h => absurd h List.not_mem_nil)⟩) (List.forall_mem_cons.mpr ⟨okR (by omega), (fun _ h => absurd h List.not_mem_nil)⟩) rfl rfl (Nat.le_of_ble_eq_true rfl) ⟨by decide, by decide⟩ dX11_init_50 (fun m_4 hf_4 => ?_)
  have hk_4 := nk_X0 (NK.new (NK.up (a := 0) (j := 5) (b := 16) hk_3 (by omega))) hf_4
  refine V.astore_n (pc := 53) C dX11_init_53 (L2 := [(1, .ref 22), (0, .ref 0)]) (by decide) rfl ?_
  refine V.aload_n (pc := 54) C dX11_init_54 1 rfl ?_
  refine V.new (pc := 55) (st := [.ref 0]) C (RX10, TX10, 4) okX10 nwX10 nc_RX11_33 ni_10 nz_10 sX25 hk_4 (List.forall_mem_cons.mpr ⟨okR (by omega), (List.forall_mem_cons.mpr ⟨okR (by omega), (fun _ h => absurd h List.not_mem_nil)⟩)⟩) (List.forall_mem_cons.mpr ⟨okR (by omega), (fun _ h => absurd h List.not_mem_nil)⟩) dX11_init_55 ?_
  refine V.dup (pc := 58) C dX11_init_58 rfl ?_
  refine V.aload_n (pc := 59) C dX11_init_59 1 rfl ?_
  refine V.getr (pc := 60) (b := 2) C fl_RX11_16 sX0 (by omega) rfl rfl dX11_init_60 ?_
  refine V.aload_n (pc := 63) C dX11_init_63 0 rfl ?_
  refine V.callI (pc := 64) (st := [.ref 25, .ref 0]) C (ci_X10 l 25 (iX25 (Nat.le_refl 109)) (by decide)  _ (nw m_4 25) (NK.new hk_4)) ck_X10_init rfl in_X10_init (Or.inl ml_RX11_35) (by omega) (List.forall_mem_cons.mpr ⟨okR (by omega), (List.forall_mem_cons.mpr ⟨okR (by omega), (fun _ h => absurd h List.not_mem_nil)⟩)⟩) (List.forall_mem_cons.mpr ⟨okR (by omega), (List.forall_mem_cons.mpr ⟨okR (by omega), (fun _ h => absurd h List.not_mem_nil)⟩)⟩) rfl rfl (Nat.le_of_ble_eq_true rfl) ⟨by decide, by decide⟩ dX11_init_64 (fun m_5 hf_5 => ?_)
  have hk_5 := nk_X10 25 (iX25 (Nat.le_refl 109)) (by decide) (NK.new hk_4) hf_5
  refine V.putr (pc := 67) C fp_RX11_38 rfl rfl sX0 (by omega) rfl rfl dX11_init_67 ?_
  refine V.aload_n (pc := 70) C dX11_init_70 1 rfl ?_
  refine V.new (pc := 71) (st := [.ref 0]) C (RX10, TX10, 4) okX10 nwX10 nc_RX11_33 ni_10 nz_10 sX32 (NK.up (a := 0) (j := 6) (b := 25) hk_5 (by omega)) (List.forall_mem_cons.mpr ⟨okR (by omega), (List.forall_mem_cons.mpr ⟨okR (by omega), (fun _ h => absurd h List.not_mem_nil)⟩)⟩) (List.forall_mem_cons.mpr ⟨okR (by omega), (fun _ h => absurd h List.not_mem_nil)⟩) dX11_init_71 ?_
  refine V.dup (pc := 74) C dX11_init_74 rfl ?_
  refine V.aload_n (pc := 75) C dX11_init_75 1 rfl ?_
  refine V.getr (pc := 76) (b := 2) C fl_RX11_16 sX0 (by omega) rfl rfl dX11_init_76 ?_
  refine V.aload_n (pc := 79) C dX11_init_79 0 rfl ?_
  refine V.callI (pc := 80) (st := [.ref 32, .ref 0]) C (ci_X10 l 32 (iX32 (Nat.le_refl 109)) (by decide)  _ (nw m_5 32) (NK.new (NK.up (a := 0) (j := 6) (b := 25) hk_5 (by omega)))) ck_X10_init rfl in_X10_init (Or.inl ml_RX11_35) (by omega) (List.forall_mem_cons.mpr ⟨okR (by omega), (List.forall_mem_cons.mpr ⟨okR (by omega), (fun _ h => absurd h List.not_mem_nil)⟩)⟩) (List.forall_mem_cons.mpr ⟨okR (by omega), (List.forall_mem_cons.mpr ⟨okR (by omega), (fun _ h => absurd h List.not_mem_nil)⟩)⟩) rfl rfl (Nat.le_of_ble_eq_true rfl) ⟨by decide, by decide⟩ dX11_init_80 (fun m_6 hf_6 => ?_)
  have hk_6 := nk_X10 32 (iX32 (Nat.le_refl 109)) (by decide) (NK.new (NK.up (a := 0) (j := 6) (b := 25) hk_5 (by omega))) hf_6
  refine V.putr (pc := 83) C fp_RX11_42 rfl rfl sX0 (by omega) rfl rfl dX11_init_83 ?_
  refine V.aload_n (pc := 86) C dX11_init_86 1 rfl ?_
  refine V.new (pc := 87) (st := [.ref 0]) C (RX7, TX7, 10) okX7 nwX7 nc_RX11_45 ni_7 nz_7 sX39 (NK.up (a := 0) (j := 7) (b := 32) hk_6 (by omega)) (List.forall_mem_cons.mpr ⟨okR (by omega), (List.forall_mem_cons.mpr ⟨okR (by omega), (fun _ h => absurd h List.not_mem_nil)⟩)⟩) (List.forall_mem_cons.mpr ⟨okR (by omega), (fun _ h => absurd h List.not_mem_nil)⟩) dX11_init_87 ?_
  refine V.dup (pc := 90) C dX11_init_90 rfl ?_
  refine V.aload_n (pc := 91) C dX11_init_91 1 rfl ?_
  refine V.getr (pc := 92) (b := 1) C fl_RX11_9 sX0 (by omega) rfl rfl dX11_init_92 ?_
  refine V.aload_n (pc := 95) C dX11_init_95 1 rfl ?_
  refine V.getr (pc := 96) (b := 9) C fl_RX11_20 sX0 (by omega) rfl rfl dX11_init_96 ?_
  refine V.aload_n (pc := 99) C dX11_init_99 1 rfl ?_
  refine V.getr (pc := 100) (b := 16) C fl_RX11_26 sX0 (by omega) rfl rfl dX11_init_100 ?_
  refine V.callI (pc := 103) (st := [.ref 39, .ref 0]) C (ci_X7 l  _ (nw m_6 39) rfl (NK.new (NK.up (a := 0) (j := 7) (b := 32) hk_6 (by omega)))) ck_X7_init rfl in_X7_init (Or.inl ml_RX11_47) (by omega) (List.forall_mem_cons.mpr ⟨okR (by omega), (List.forall_mem_cons.mpr ⟨okR (by omega), (fun _ h => absurd h List.not_mem_nil)⟩)⟩) (List.forall_mem_cons.mpr ⟨okR (by omega), (List.forall_mem_cons.mpr ⟨okR (by omega), (fun _ h => absurd h List.not_mem_nil)⟩)⟩) rfl rfl (Nat.le_of_ble_eq_true rfl) ⟨by decide, by decide⟩ dX11_init_103 (fun m_7 hf_7 => ?_)
  have hk_7 := nk_X7 (NK.new (NK.up (a := 0) (j := 7) (b := 32) hk_6 (by omega))) hf_7
  refine V.putr (pc := 106) C fp_RX11_50 rfl rfl sX0 (by omega) rfl rfl dX11_init_106 ?_
  refine V.aload_n (pc := 109) C dX11_init_109 1 rfl ?_
  refine V.new (pc := 110) (st := [.ref 0]) C (RX2, TX2, 3) okX2 nwX2 nc_RX11_54 ni_2 nz_2 sX40 (NK.up (a := 0) (j := 8) (b := 39) hk_7 (by omega)) (List.forall_mem_cons.mpr ⟨okR (by omega), (List.forall_mem_cons.mpr ⟨okR (by omega), (fun _ h => absurd h List.not_mem_nil)⟩)⟩) (List.forall_mem_cons.mpr ⟨okR (by omega), (fun _ h => absurd h List.not_mem_nil)⟩) dX11_init_110 ?_
  refine V.dup (pc := 113) C dX11_init_113 rfl ?_
  refine V.callI (pc := 114) (st := [.ref 40, .ref 0]) C (ci_X2 l  _ (nw m_7 40) (NK.new (NK.up (a := 0) (j := 8) (b := 39) hk_7 (by omega)))) ck_X2_init rfl in_X2_init (Or.inl ml_RX11_56) (by omega) (List.forall_mem_cons.mpr ⟨okR (by omega), (List.forall_mem_cons.mpr ⟨okR (by omega), (fun _ h => absurd h List.not_mem_nil)⟩)⟩) (List.forall_mem_cons.mpr ⟨okR (by omega), (List.forall_mem_cons.mpr ⟨okR (by omega), (fun _ h => absurd h List.not_mem_nil)⟩)⟩) rfl rfl (Nat.le_of_ble_eq_true rfl) ⟨by decide, by decide⟩ dX11_init_114 (fun m_8 hf_8 => ?_)
  have hk_8 := nk_X2 (NK.new (NK.up (a := 0) (j := 8) (b := 39) hk_7 (by omega))) hf_8
  refine V.putr (pc := 117) C fp_RX11_57 rfl rfl sX0 (by omega) rfl rfl dX11_init_117 ?_
  refine V.aload_n (pc := 120) C dX11_init_120 1 rfl ?_
  refine V.new (pc := 121) (st := [.ref 0]) C (RX6, TX6, 6) okX6 nwX6 nc_RX11_61 ni_6 nz_6 sX90 (NK.up (a := 0) (j := 9) (b := 40) hk_8 (by omega)) (List.forall_mem_cons.mpr ⟨okR (by omega), (List.forall_mem_cons.mpr ⟨okR (by omega), (fun _ h => absurd h List.not_mem_nil)⟩)⟩) (List.forall_mem_cons.mpr ⟨okR (by omega), (fun _ h => absurd h List.not_mem_nil)⟩) dX11_init_121 ?_
  refine V.dup (pc := 124) C dX11_init_124 rfl ?_
  refine V.callI (pc := 125) (st := [.ref 90, .ref 0]) C (ci_X6 l  _ (nw m_8 90) (NK.new (NK.up (a := 0) (j := 9) (b := 40) hk_8 (by omega)))) ck_X6_init rfl in_X6_init (Or.inr (by decide)) (by omega) (List.forall_mem_cons.mpr ⟨okR (by omega), (List.forall_mem_cons.mpr ⟨okR (by omega), (fun _ h => absurd h List.not_mem_nil)⟩)⟩) (List.forall_mem_cons.mpr ⟨okR (by omega), (List.forall_mem_cons.mpr ⟨okR (by omega), (fun _ h => absurd h List.not_mem_nil)⟩)⟩) rfl rfl (Nat.le_of_ble_eq_true rfl) ⟨by decide, by decide⟩ dX11_init_125 (fun m_9 hf_9 => ?_)
  have hk_9 := nk_X6 (NK.new (NK.up (a := 0) (j := 9) (b := 40) hk_8 (by omega))) hf_9
  refine V.putr (pc := 128) C fp_RX11_64 rfl rfl sX0 (by omega) rfl rfl dX11_init_128 ?_
  refine V.aload_n (pc := 131) C dX11_init_131 1 rfl ?_
  refine V.new (pc := 132) (st := [.ref 0]) C (RX1, TX1, 7) okX1 nwX1 nc_RX11_68 ni_1 nz_1 sX96 (NK.up (a := 0) (j := 10) (b := 90) hk_9 (by omega)) (List.forall_mem_cons.mpr ⟨okR (by omega), (List.forall_mem_cons.mpr ⟨okR (by omega), (fun _ h => absurd h List.not_mem_nil)⟩)⟩) (List.forall_mem_cons.mpr ⟨okR (by omega), (fun _ h => absurd h List.not_mem_nil)⟩) dX11_init_132 ?_
  refine V.dup (pc := 135) C dX11_init_135 rfl ?_
  refine V.aload_n (pc := 136) C dX11_init_136 1 rfl ?_
  refine V.getr (pc := 137) (b := 25) C fl_RX11_38 sX0 (by omega) rfl rfl dX11_init_137 ?_
  refine V.callI (pc := 140) (st := [.ref 96, .ref 0]) C (ci_X1 l  _ (nw m_9 96) (NK.new (NK.up (a := 0) (j := 10) (b := 90) hk_9 (by omega)))) ck_X1_init rfl in_X1_init (Or.inl ml_RX11_70) (by omega) (List.forall_mem_cons.mpr ⟨okR (by omega), (List.forall_mem_cons.mpr ⟨okR (by omega), (fun _ h => absurd h List.not_mem_nil)⟩)⟩) (List.forall_mem_cons.mpr ⟨okR (by omega), (List.forall_mem_cons.mpr ⟨okR (by omega), (fun _ h => absurd h List.not_mem_nil)⟩)⟩) rfl rfl (Nat.le_of_ble_eq_true rfl) ⟨by decide, by decide⟩ dX11_init_140 (fun m_10 hf_10 => ?_)
  have hk_10 := nk_X1 (NK.new (NK.up (a := 0) (j := 10) (b := 90) hk_9 (by omega))) hf_10
  refine V.putr (pc := 143) C fp_RX11_73 rfl rfl sX0 (by omega) rfl rfl dX11_init_143 ?_
  refine V.aload_n (pc := 146) C dX11_init_146 1 rfl ?_
  refine V.iconst (pc := 147) C dX11_init_147 (v := 4) (by decide) ?_
  refine V.anewT (pc := 148) (n := 4) (st := [.ref 0]) C nc_RX11_77 sX99 (by decide) (by decide) (by decide) (NK.up (a := 0) (j := 11) (b := 96) hk_10 (by omega)) (List.forall_mem_cons.mpr ⟨okR (by omega), (List.forall_mem_cons.mpr ⟨okR (by omega), (fun _ h => absurd h List.not_mem_nil)⟩)⟩) (List.forall_mem_cons.mpr ⟨okR (by omega), (fun _ h => absurd h List.not_mem_nil)⟩) dX11_init_148 ?_
  refine V.putr (pc := 151) C fp_RX11_79 rfl rfl sX0 (by omega) rfl rfl dX11_init_151 ?_
  refine V.iconst (pc := 154) C dX11_init_154 (v := 0) (by decide) ?_
  refine V.istore_n (pc := 155) C dX11_init_155 (L2 := [(2, .int 0), (1, .ref 22), (0, .ref 0)]) (by decide) rfl ?_
  refine V.iload_n (pc := 156) C dX11_init_156 0 rfl ?_
  refine V.iconst (pc := 157) C dX11_init_157 (v := 4) (by decide) ?_
  refine V.igeF (pc := 158) C dX11_init_158 180 (by decide) (by decide) ?_
  refine V.aload_n (pc := 161) C dX11_init_161 2 rfl ?_
  refine V.getr (pc := 162) (b := 99) C fl_RX11_79 sX0 (by omega) rfl rfl dX11_init_162 ?_
  refine V.iload_n (pc := 165) C dX11_init_165 0 rfl ?_
  refine V.new (pc := 166) (st := [.int 0, .ref 99]) C (RX9, TX9, 4) okX9 nwX9 nc_RX11_77 ni_9 nz_9 sX100 (NK.up (a := 0) (j := 12) (b := 99) (NK.new (NK.up (a := 0) (j := 11) (b := 96) hk_10 (by omega))) (by omega)) (List.forall_mem_cons.mpr ⟨trivial, (List.forall_mem_cons.mpr ⟨okR (by omega), (List.forall_mem_cons.mpr ⟨okR (by omega), (fun _ h => absurd h List.not_mem_nil)⟩)⟩)⟩) (List.forall_mem_cons.mpr ⟨trivial, (List.forall_mem_cons.mpr ⟨okR (by omega), (fun _ h => absurd h List.not_mem_nil)⟩)⟩) dX11_init_166 ?_
  refine V.dup (pc := 169) C dX11_init_169 rfl ?_
  refine V.callI (pc := 170) (st := [.ref 100, .int 0, .ref 99]) C (ci_X9 l 100 (iX100 (Nat.le_refl 109))  _ (nw (nw m_10 99) 100) (NK.new (NK.up (a := 0) (j := 12) (b := 99) (NK.new (NK.up (a := 0) (j := 11) (b := 96) hk_10 (by omega))) (by omega)))) ck_X9_init rfl in_X9_init (Or.inr (by decide)) (by omega) (List.forall_mem_cons.mpr ⟨trivial, (List.forall_mem_cons.mpr ⟨okR (by omega), (List.forall_mem_cons.mpr ⟨okR (by omega), (fun _ h => absurd h List.not_mem_nil)⟩)⟩)⟩) (List.forall_mem_cons.mpr ⟨okR (by omega), (List.forall_mem_cons.mpr ⟨trivial, (List.forall_mem_cons.mpr ⟨okR (by omega), (fun _ h => absurd h List.not_mem_nil)⟩)⟩)⟩) rfl rfl (Nat.le_of_ble_eq_true rfl) ⟨by decide, by decide⟩ dX11_init_170 (fun m_11 hf_11 => ?_)
  have hk_11 := nk_X9 100 (iX100 (Nat.le_refl 109)) (NK.new (NK.up (a := 0) (j := 12) (b := 99) (NK.new (NK.up (a := 0) (j := 11) (b := 96) hk_10 (by omega))) (by omega))) hf_11
  refine V.aastR (pc := 173) (q := (RX9, TX9, 4)) C sX99 (Or.inr ⟨rfl, rfl⟩) (by omega) sX100 (by omega) rfl (inb_in (by decide)) dX11_init_173 ?_
  refine V.iinc (pc := 174) C dX11_init_174 (v := 1) (L2 := [(2, .int 1), (1, .ref 22), (0, .ref 0)]) 0 rfl (by decide) (by decide) rfl ?_
  refine V.goto (pc := 177) C dX11_init_177 156 (by decide) ?_
  refine V.iload_n (pc := 156) C dX11_init_156 0 rfl ?_
  refine V.iconst (pc := 157) C dX11_init_157 (v := 4) (by decide) ?_
  refine V.igeF (pc := 158) C dX11_init_158 180 (by decide) (by decide) ?_
  refine V.aload_n (pc := 161) C dX11_init_161 2 rfl ?_
  refine V.getr (pc := 162) (b := 99) C fl_RX11_79 sX0 (by omega) rfl rfl dX11_init_162 ?_
  refine V.iload_n (pc := 165) C dX11_init_165 0 rfl ?_
  refine V.new (pc := 166) (st := [.int 1, .ref 99]) C (RX9, TX9, 4) okX9 nwX9 nc_RX11_77 ni_9 nz_9 sX102 (NK.up (a := 99) (j := (ix 0)) (b := 100) hk_11 (by omega)) (List.forall_mem_cons.mpr ⟨trivial, (List.forall_mem_cons.mpr ⟨okR (by omega), (List.forall_mem_cons.mpr ⟨okR (by omega), (fun _ h => absurd h List.not_mem_nil)⟩)⟩)⟩) (List.forall_mem_cons.mpr ⟨trivial, (List.forall_mem_cons.mpr ⟨okR (by omega), (fun _ h => absurd h List.not_mem_nil)⟩)⟩) dX11_init_166 ?_
  refine V.dup (pc := 169) C dX11_init_169 rfl ?_
  refine V.callI (pc := 170) (st := [.ref 102, .int 1, .ref 99]) C (ci_X9 l 102 (iX102 (Nat.le_refl 109))  _ (nw m_11 102) (NK.new (NK.up (a := 99) (j := (ix 0)) (b := 100) hk_11 (by omega)))) ck_X9_init rfl in_X9_init (Or.inr (by decide)) (by omega) (List.forall_mem_cons.mpr ⟨trivial, (List.forall_mem_cons.mpr ⟨okR (by omega), (List.forall_mem_cons.mpr ⟨okR (by omega), (fun _ h => absurd h List.not_mem_nil)⟩)⟩)⟩) (List.forall_mem_cons.mpr ⟨okR (by omega), (List.forall_mem_cons.mpr ⟨trivial, (List.forall_mem_cons.mpr ⟨okR (by omega), (fun _ h => absurd h List.not_mem_nil)⟩)⟩)⟩) rfl rfl (Nat.le_of_ble_eq_true rfl) ⟨by decide, by decide⟩ dX11_init_170 (fun m_12 hf_12 => ?_)
  have hk_12 := nk_X9 102 (iX102 (Nat.le_refl 109)) (NK.new (NK.up (a := 99) (j := (ix 0)) (b := 100) hk_11 (by omega))) hf_12
  refine V.aastR (pc := 173) (q := (RX9, TX9, 4)) C sX99 (Or.inr ⟨rfl, rfl⟩) (by omega) sX102 (by omega) rfl (inb_in (by decide)) dX11_init_173 ?_
  refine V.iinc (pc := 174) C dX11_init_174 (v := 1) (L2 := [(2, .int 2), (1, .ref 22), (0, .ref 0)]) 0 rfl (by decide) (by decide) rfl ?_
  refine V.goto (pc := 177) C dX11_init_177 156 (by decide) ?_
  refine V.iload_n (pc := 156) C dX11_init_156 0 rfl ?_
  refine V.iconst (pc := 157) C dX11_init_157 (v := 4) (by decide) ?_
  refine V.igeF (pc := 158) C dX11_init_158 180 (by decide) (by decide) ?_
  refine V.aload_n (pc := 161) C dX11_init_161 2 rfl ?_
  refine V.getr (pc := 162) (b := 99) C fl_RX11_79 sX0 (by omega) rfl rfl dX11_init_162 ?_
  refine V.iload_n (pc := 165) C dX11_init_165 0 rfl ?_
  refine V.new (pc := 166) (st := [.int 2, .ref 99]) C (RX9, TX9, 4) okX9 nwX9 nc_RX11_77 ni_9 nz_9 sX104 (NK.up (a := 99) (j := (ix 1)) (b := 102) hk_12 (by omega)) (List.forall_mem_cons.mpr ⟨trivial, (List.forall_mem_cons.mpr ⟨okR (by omega), (List.forall_mem_cons.mpr ⟨okR (by omega), (fun _ h => absurd h List.not_mem_nil)⟩)⟩)⟩) (List.forall_mem_cons.mpr ⟨trivial, (List.forall_mem_cons.mpr ⟨okR (by omega), (fun _ h => absurd h List.not_mem_nil)⟩)⟩) dX11_init_166 ?_
  refine V.dup (pc := 169) C dX11_init_169 rfl ?_
  refine V.callI (pc := 170) (st := [.ref 104, .int 2, .ref 99]) C (ci_X9 l 104 (iX104 (Nat.le_refl 109))  _ (nw m_12 104) (NK.new (NK.up (a := 99) (j := (ix 1)) (b := 102) hk_12 (by omega)))) ck_X9_init rfl in_X9_init (Or.inr (by decide)) (by omega) (List.forall_mem_cons.mpr ⟨trivial, (List.forall_mem_cons.mpr ⟨okR (by omega), (List.forall_mem_cons.mpr ⟨okR (by omega), (fun _ h => absurd h List.not_mem_nil)⟩)⟩)⟩) (List.forall_mem_cons.mpr ⟨okR (by omega), (List.forall_mem_cons.mpr ⟨trivial, (List.forall_mem_cons.mpr ⟨okR (by omega), (fun _ h => absurd h List.not_mem_nil)⟩)⟩)⟩) rfl rfl (Nat.le_of_ble_eq_true rfl) ⟨by decide, by decide⟩ dX11_init_170 (fun m_13 hf_13 => ?_)
  have hk_13 := nk_X9 104 (iX104 (Nat.le_refl 109)) (NK.new (NK.up (a := 99) (j := (ix 1)) (b := 102) hk_12 (by omega))) hf_13
  refine V.aastR (pc := 173) (q := (RX9, TX9, 4)) C sX99 (Or.inr ⟨rfl, rfl⟩) (by omega) sX104 (by omega) rfl (inb_in (by decide)) dX11_init_173 ?_
  refine V.iinc (pc := 174) C dX11_init_174 (v := 1) (L2 := [(2, .int 3), (1, .ref 22), (0, .ref 0)]) 0 rfl (by decide) (by decide) rfl ?_
  refine V.goto (pc := 177) C dX11_init_177 156 (by decide) ?_
  refine V.iload_n (pc := 156) C dX11_init_156 0 rfl ?_
  refine V.iconst (pc := 157) C dX11_init_157 (v := 4) (by decide) ?_
  refine V.igeF (pc := 158) C dX11_init_158 180 (by decide) (by decide) ?_
  refine V.aload_n (pc := 161) C dX11_init_161 2 rfl ?_
  refine V.getr (pc := 162) (b := 99) C fl_RX11_79 sX0 (by omega) rfl rfl dX11_init_162 ?_
  refine V.iload_n (pc := 165) C dX11_init_165 0 rfl ?_
  refine V.new (pc := 166) (st := [.int 3, .ref 99]) C (RX9, TX9, 4) okX9 nwX9 nc_RX11_77 ni_9 nz_9 sX106 (NK.up (a := 99) (j := (ix 2)) (b := 104) hk_13 (by omega)) (List.forall_mem_cons.mpr ⟨trivial, (List.forall_mem_cons.mpr ⟨okR (by omega), (List.forall_mem_cons.mpr ⟨okR (by omega), (fun _ h => absurd h List.not_mem_nil)⟩)⟩)⟩) (List.forall_mem_cons.mpr ⟨trivial, (List.forall_mem_cons.mpr ⟨okR (by omega), (fun _ h => absurd h List.not_mem_nil)⟩)⟩) dX11_init_166 ?_
  refine V.dup (pc := 169) C dX11_init_169 rfl ?_
  refine V.callI (pc := 170) (st := [.ref 106, .int 3, .ref 99]) C (ci_X9 l 106 (iX106 (Nat.le_refl 109))  _ (nw m_13 106) (NK.new (NK.up (a := 99) (j := (ix 2)) (b := 104) hk_13 (by omega)))) ck_X9_init rfl in_X9_init (Or.inr (by decide)) (by omega) (List.forall_mem_cons.mpr ⟨trivial, (List.forall_mem_cons.mpr ⟨okR (by omega), (List.forall_mem_cons.mpr ⟨okR (by omega), (fun _ h => absurd h List.not_mem_nil)⟩)⟩)⟩) (List.forall_mem_cons.mpr ⟨okR (by omega), (List.forall_mem_cons.mpr ⟨trivial, (List.forall_mem_cons.mpr ⟨okR (by omega), (fun _ h => absurd h List.not_mem_nil)⟩)⟩)⟩) rfl rfl (Nat.le_of_ble_eq_true rfl) ⟨by decide, by decide⟩ dX11_init_170 (fun m_14 hf_14 => ?_)
  have hk_14 := nk_X9 106 (iX106 (Nat.le_refl 109)) (NK.new (NK.up (a := 99) (j := (ix 2)) (b := 104) hk_13 (by omega))) hf_14
  refine V.aastR (pc := 173) (q := (RX9, TX9, 4)) C sX99 (Or.inr ⟨rfl, rfl⟩) (by omega) sX106 (by omega) rfl (inb_in (by decide)) dX11_init_173 ?_
  refine V.iinc (pc := 174) C dX11_init_174 (v := 1) (L2 := [(2, .int 4), (1, .ref 22), (0, .ref 0)]) 0 rfl (by decide) (by decide) rfl ?_
  refine V.goto (pc := 177) C dX11_init_177 156 (by decide) ?_
  refine V.iload_n (pc := 156) C dX11_init_156 0 rfl ?_
  refine V.iconst (pc := 157) C dX11_init_157 (v := 4) (by decide) ?_
  refine V.igeT (pc := 158) C dX11_init_158 180 (by decide) (by decide) ?_
  refine V.aload_n (pc := 180) C dX11_init_180 2 rfl ?_
  refine V.iconst (pc := 181) C dX11_init_181 (v := 2) (by decide) ?_
  refine V.anewI (pc := 182) (n := 2) (st := [.ref 0]) C nc_RX11_84 sX108 (by decide) (by decide) (by decide) (NK.up (a := 99) (j := (ix 3)) (b := 106) hk_14 (by omega)) (List.forall_mem_cons.mpr ⟨trivial, (List.forall_mem_cons.mpr ⟨okR (by omega), (List.forall_mem_cons.mpr ⟨okR (by omega), (fun _ h => absurd h List.not_mem_nil)⟩)⟩)⟩) (List.forall_mem_cons.mpr ⟨okR (by omega), (fun _ h => absurd h List.not_mem_nil)⟩) dX11_init_182 ?_
  refine V.putr (pc := 185) C fp_RX11_86 rfl rfl sX0 (by omega) rfl rfl dX11_init_185 ?_
  exact V.vret C dX11_init_188
theorem ci_X11 (l : Launch) (m : Mem) (hk : NK SX 1 (fun _ _ => none) m) : Ct l yX11_init cX11_init 3 none 4 SX oV 1 109 (fun _ _ => none) rX11 [.ref 0] m (X11_init m) :=
  Ct.of (own := RX11) (nm := "<init>") (by decide) rfl rfl (Nat.le_of_ble_eq_true rfl) (fun _ _ _ _ _ _ _ _ _ _ _ C => vi_X11 C m hk)
theorem dX12_init_0 : decode cX12_init 0 = .ok (.aload_n 0, 1) := by decide +kernel
theorem dX12_init_1 : decode cX12_init 1 = .ok (.invokespecial 7, 3) := by decide +kernel
theorem dX12_init_4 : decode cX12_init 4 = .ok (.aload_n 0, 1) := by decide +kernel
theorem dX12_init_5 : decode cX12_init 5 = .ok (.sipush 6288, 3) := by decide +kernel
theorem dX12_init_8 : decode cX12_init 8 = .ok (.newarray .int, 2) := by decide +kernel
theorem dX12_init_10 : decode cX12_init 10 = .ok (.putfield 13, 3) := by decide +kernel
theorem dX12_init_13 : decode cX12_init 13 = .ok (.aload_n 0, 1) := by decide +kernel
theorem dX12_init_14 : decode cX12_init 14 = .ok (.iconst 2, 1) := by decide +kernel
theorem dX12_init_15 : decode cX12_init 15 = .ok (.newarray .boolean, 2) := by decide +kernel
theorem dX12_init_17 : decode cX12_init 17 = .ok (.putfield 17, 3) := by decide +kernel
theorem dX12_init_20 : decode cX12_init 20 = .ok (.aload_n 0, 1) := by decide +kernel
theorem dX12_init_21 : decode cX12_init 21 = .ok (.sipush 900, 3) := by decide +kernel
theorem dX12_init_24 : decode cX12_init 24 = .ok (.newarray .int, 2) := by decide +kernel
theorem dX12_init_26 : decode cX12_init 26 = .ok (.putfield 21, 3) := by decide +kernel
theorem dX12_init_29 : decode cX12_init 29 = .ok (.aload_n 0, 1) := by decide +kernel
theorem dX12_init_30 : decode cX12_init 30 = .ok (.sipush 2096, 3) := by decide +kernel
theorem dX12_init_33 : decode cX12_init 33 = .ok (.newarray .int, 2) := by decide +kernel
theorem dX12_init_35 : decode cX12_init 35 = .ok (.putfield 24, 3) := by decide +kernel
theorem dX12_init_38 : decode cX12_init 38 = .ok (.aload_n 0, 1) := by decide +kernel
theorem dX12_init_39 : decode cX12_init 39 = .ok (.iconst (-1), 1) := by decide +kernel
theorem dX12_init_40 : decode cX12_init 40 = .ok (.putfield 27, 3) := by decide +kernel
theorem dX12_init_43 : decode cX12_init 43 = .ok (.aload_n 0, 1) := by decide +kernel
theorem dX12_init_44 : decode cX12_init 44 = .ok (.bipush 7, 2) := by decide +kernel
theorem dX12_init_46 : decode cX12_init 46 = .ok (.newarray .int, 2) := by decide +kernel
theorem dX12_init_48 : decode cX12_init 48 = .ok (.putfield 30, 3) := by decide +kernel
theorem dX12_init_51 : decode cX12_init 51 = .ok (.aload_n 0, 1) := by decide +kernel
theorem dX12_init_52 : decode cX12_init 52 = .ok (.sipush 900, 3) := by decide +kernel
theorem dX12_init_55 : decode cX12_init 55 = .ok (.newarray .int, 2) := by decide +kernel
theorem dX12_init_57 : decode cX12_init 57 = .ok (.putfield 33, 3) := by decide +kernel
theorem dX12_init_60 : decode cX12_init 60 = .ok (.aload_n 0, 1) := by decide +kernel
theorem dX12_init_61 : decode cX12_init 61 = .ok (.sipush 129, 3) := by decide +kernel
theorem dX12_init_64 : decode cX12_init 64 = .ok (.newarray .int, 2) := by decide +kernel
theorem dX12_init_66 : decode cX12_init 66 = .ok (.putfield 36, 3) := by decide +kernel
theorem dX12_init_69 : decode cX12_init 69 = .ok (.aload_n 0, 1) := by decide +kernel
theorem dX12_init_70 : decode cX12_init 70 = .ok (.bipush 8, 2) := by decide +kernel
theorem dX12_init_72 : decode cX12_init 72 = .ok (.newarray .int, 2) := by decide +kernel
theorem dX12_init_74 : decode cX12_init 74 = .ok (.putfield 39, 3) := by decide +kernel
theorem dX12_init_77 : decode cX12_init 77 = .ok (.aload_n 0, 1) := by decide +kernel
theorem dX12_init_78 : decode cX12_init 78 = .ok (.bipush 64, 2) := by decide +kernel
theorem dX12_init_80 : decode cX12_init 80 = .ok (.newarray .int, 2) := by decide +kernel
theorem dX12_init_82 : decode cX12_init 82 = .ok (.putfield 42, 3) := by decide +kernel
theorem dX12_init_85 : decode cX12_init 85 = .ok (.aload_n 0, 1) := by decide +kernel
theorem dX12_init_86 : decode cX12_init 86 = .ok (.bipush 8, 2) := by decide +kernel
theorem dX12_init_88 : decode cX12_init 88 = .ok (.newarray .int, 2) := by decide +kernel
theorem dX12_init_90 : decode cX12_init 90 = .ok (.putfield 45, 3) := by decide +kernel
theorem dX12_init_93 : decode cX12_init 93 = .ok (.aload_n 0, 1) := by decide +kernel
theorem dX12_init_94 : decode cX12_init 94 = .ok (.bipush 8, 2) := by decide +kernel
theorem dX12_init_96 : decode cX12_init 96 = .ok (.newarray .int, 2) := by decide +kernel
theorem dX12_init_98 : decode cX12_init 98 = .ok (.putfield 48, 3) := by decide +kernel
theorem dX12_init_101 : decode cX12_init 101 = .ok (.aload_n 0, 1) := by decide +kernel
theorem dX12_init_102 : decode cX12_init 102 = .ok (.bipush 64, 2) := by decide +kernel
theorem dX12_init_104 : decode cX12_init 104 = .ok (.newarray .boolean, 2) := by decide +kernel
theorem dX12_init_106 : decode cX12_init 106 = .ok (.putfield 51, 3) := by decide +kernel
theorem dX12_init_109 : decode cX12_init 109 = .ok (.aload_n 0, 1) := by decide +kernel
theorem dX12_init_110 : decode cX12_init 110 = .ok (.sipush 129, 3) := by decide +kernel
theorem dX12_init_113 : decode cX12_init 113 = .ok (.newarray .int, 2) := by decide +kernel
theorem dX12_init_115 : decode cX12_init 115 = .ok (.putfield 54, 3) := by decide +kernel
theorem dX12_init_118 : decode cX12_init 118 = .ok (.aload_n 0, 1) := by decide +kernel
theorem dX12_init_119 : decode cX12_init 119 = .ok (.iconst 4, 1) := by decide +kernel
theorem dX12_init_120 : decode cX12_init 120 = .ok (.newarray .int, 2) := by decide +kernel
theorem dX12_init_122 : decode cX12_init 122 = .ok (.dup, 1) := by decide +kernel
theorem dX12_init_123 : decode cX12_init 123 = .ok (.iconst 0, 1) := by decide +kernel
theorem dX12_init_124 : decode cX12_init 124 = .ok (.iconst (-1), 1) := by decide +kernel
theorem dX12_init_125 : decode cX12_init 125 = .ok (.iastore, 1) := by decide +kernel
theorem dX12_init_126 : decode cX12_init 126 = .ok (.dup, 1) := by decide +kernel
theorem dX12_init_127 : decode cX12_init 127 = .ok (.iconst 1, 1) := by decide +kernel
theorem dX12_init_128 : decode cX12_init 128 = .ok (.iconst (-1), 1) := by decide +kernel
theorem dX12_init_129 : decode cX12_init 129 = .ok (.iastore, 1) := by decide +kernel
theorem dX12_init_130 : decode cX12_init 130 = .ok (.dup, 1) := by decide +kernel
theorem dX12_init_131 : decode cX12_init 131 = .ok (.iconst 2, 1) := by decide +kernel
theorem dX12_init_132 : decode cX12_init 132 = .ok (.iconst (-1), 1) := by decide +kernel
theorem dX12_init_133 : decode cX12_init 133 = .ok (.iastore, 1) := by decide +kernel
theorem dX12_init_134 : decode cX12_init 134 = .ok (.dup, 1) := by decide +kernel
theorem dX12_init_135 : decode cX12_init 135 = .ok (.iconst 3, 1) := by decide +kernel
theorem dX12_init_136 : decode cX12_init 136 = .ok (.iconst (-1), 1) := by decide +kernel
theorem dX12_init_137 : decode cX12_init 137 = .ok (.iastore, 1) := by decide +kernel
theorem dX12_init_138 : decode cX12_init 138 = .ok (.putfield 57, 3) := by decide +kernel
theorem dX12_init_141 : decode cX12_init 141 = .ok (.aload_n 0, 1) := by decide +kernel
theorem dX12_init_142 : decode cX12_init 142 = .ok (.iconst 4, 1) := by decide +kernel
theorem dX12_init_143 : decode cX12_init 143 = .ok (.newarray .int, 2) := by decide +kernel
theorem dX12_init_145 : decode cX12_init 145 = .ok (.putfield 60, 3) := by decide +kernel
theorem dX12_init_148 : decode cX12_init 148 = .ok (.aload_n 0, 1) := by decide +kernel
theorem dX12_init_149 : decode cX12_init 149 = .ok (.sipush 160, 3) := by decide +kernel
theorem dX12_init_152 : decode cX12_init 152 = .ok (.newarray .long, 2) := by decide +kernel
theorem dX12_init_154 : decode cX12_init 154 = .ok (.putfield 63, 3) := by decide +kernel
theorem dX12_init_157 : decode cX12_init 157 = .ok (.aload_n 0, 1) := by decide +kernel
theorem dX12_init_158 : decode cX12_init 158 = .ok (.getfield 13, 3) := by decide +kernel
theorem dX12_init_161 : decode cX12_init 161 = .ok (.invokestatic 67, 3) := by decide +kernel
theorem dX12_init_164 : decode cX12_init 164 = .ok (.return_, 1) := by decide +kernel
def X12_init (m : Mem) : Option (Unit × Mem) :=
  bnd (X12_plain 6288 1 (nw (nw (si (si (si (si (nw (nw (nw (nw (nw (nw (nw (nw (nw (nw (si (nw (nw (nw (nw m 1) 2) 3) 4) 0 14 (-1)) 5) 6) 7) 8) 9) 10) 11) 12) 13) 14) 14 (ix 0) (-1)) 14 (ix 1) (-1)) 14 (ix 2) (-1)) 14 (ix 3) (-1)) 15) 16)) fun _ m_1 =>
  some ((), m_1)
set_option maxRecDepth 100000 in
set_option maxHeartbeats 4000000 in
theorem vi_X12 {l : Launch} {p : Program} {e : Env} {s : State} {mt : MethodId} {args : Array Value} {below : List Frame} {meth : Method} {c : Code} {A : Nat → Prop} {ad0 : Nat → Nat} {G : Gt} (C : Cx G p s mt args meth c RX12 cX12_init 1 none "<init>" A) (m : Mem) (hk : NK SM 1 (fun _ _ => none) m) : V G SM oV l p e s mt args below meth c 1 2 A ad0 1 17 RM 1 (fun _ _ => none) 0 [(0, .ref 0)] [] m (X12_init m) := by
  rw [X12_init]
  refine V.aload_n (pc := 0) C dX12_init_0 0 rfl ?_
  refine V.obj (pc := 1) (st := []) C oj_RX12_7 oj_i oj_c (by decide) (Nat.le_of_ble_eq_true rfl) dX12_init_1 ?_
  refine V.aload_n (pc := 4) C dX12_init_4 0 rfl ?_
  refine V.sipush (pc := 5) C dX12_init_5 (v := 6288) (by decide) ?_
  refine V.newi (pc := 8) (n := 6288) (st := [.ref 0]) C ac_int sM1 (by decide) (by decide) (by decide) hk (List.forall_mem_cons.mpr ⟨okR (by omega), (fun _ h => absurd h List.not_mem_nil)⟩) (List.forall_mem_cons.mpr ⟨okR (by omega), (fun _ h => absurd h List.not_mem_nil)⟩) dX12_init_8 ?_
  refine V.putr (pc := 10) C fp_RX12_13 rfl rfl sM0 (by omega) rfl rfl dX12_init_10 ?_
  refine V.aload_n (pc := 13) C dX12_init_13 0 rfl ?_
  refine V.iconst (pc := 14) C dX12_init_14 (v := 2) (by decide) ?_
  refine V.newz (pc := 15) (n := 2) (st := [.ref 0]) C ac_boolean sM2 (by decide) (by decide) (by decide) (NK.up (a := 0) (j := 1) (b := 1) (NK.new hk) (by omega)) (List.forall_mem_cons.mpr ⟨okR (by omega), (fun _ h => absurd h List.not_mem_nil)⟩) (List.forall_mem_cons.mpr ⟨okR (by omega), (fun _ h => absurd h List.not_mem_nil)⟩) dX12_init_15 ?_
  refine V.putr (pc := 17) C fp_RX12_17 rfl rfl sM0 (by omega) rfl rfl dX12_init_17 ?_
  refine V.aload_n (pc := 20) C dX12_init_20 0 rfl ?_
  refine V.sipush (pc := 21) C dX12_init_21 (v := 900) (by decide) ?_
  refine V.newi (pc := 24) (n := 900) (st := [.ref 0]) C ac_int sM3 (by decide) (by decide) (by decide) (NK.up (a := 0) (j := 2) (b := 2) (NK.new (NK.up (a := 0) (j := 1) (b := 1) (NK.new hk) (by omega))) (by omega)) (List.forall_mem_cons.mpr ⟨okR (by omega), (fun _ h => absurd h List.not_mem_nil)⟩) (List.forall_mem_cons.mpr ⟨okR (by omega), (fun _ h => absurd h List.not_mem_nil)⟩) dX12_init_24 ?_
  refine V.putr (pc := 26) C fp_RX12_21 rfl rfl sM0 (by omega) rfl rfl dX12_init_26 ?_
  refine V.aload_n (pc := 29) C dX12_init_29 0 rfl ?_
  refine V.sipush (pc := 30) C dX12_init_30 (v := 2096) (by decide) ?_
  refine V.newi (pc := 33) (n := 2096) (st := [.ref 0]) C ac_int sM4 (by decide) (by decide) (by decide) (NK.up (a := 0) (j := 3) (b := 3) (NK.new (NK.up (a := 0) (j := 2) (b := 2) (NK.new (NK.up (a := 0) (j := 1) (b := 1) (NK.new hk) (by omega))) (by omega))) (by omega)) (List.forall_mem_cons.mpr ⟨okR (by omega), (fun _ h => absurd h List.not_mem_nil)⟩) (List.forall_mem_cons.mpr ⟨okR (by omega), (fun _ h => absurd h List.not_mem_nil)⟩) dX12_init_33 ?_
  refine V.putr (pc := 35) C fp_RX12_24 rfl rfl sM0 (by omega) rfl rfl dX12_init_35 ?_
  refine V.aload_n (pc := 38) C dX12_init_38 0 rfl ?_
  refine V.iconst (pc := 39) C dX12_init_39 (v := (-1)) (by decide) ?_
  refine V.puti (pc := 40) C fp_RX12_27 sM0 (by omega) rfl dX12_init_40 ?_
  refine V.aload_n (pc := 43) C dX12_init_43 0 rfl ?_
  refine V.bipush (pc := 44) C dX12_init_44 (v := 7) (by decide) ?_
  refine V.newi (pc := 46) (n := 7) (st := [.ref 0]) C ac_int sM5 (by decide) (by decide) (by decide) (NK.si (a := 0) (j := 14) (v := (-1)) (NK.up (a := 0) (j := 4) (b := 4) (NK.new (NK.up (a := 0) (j := 3) (b := 3) (NK.new (NK.up (a := 0) (j := 2) (b := 2) (NK.new (NK.up (a := 0) (j := 1) (b := 1) (NK.new hk) (by omega))) (by omega))) (by omega))) (by omega)) (by rw [sM0]; exact fun q => q.1 rfl)) (List.forall_mem_cons.mpr ⟨okR (by omega), (fun _ h => absurd h List.not_mem_nil)⟩) (List.forall_mem_cons.mpr ⟨okR (by omega), (fun _ h => absurd h List.not_mem_nil)⟩) dX12_init_46 ?_
  refine V.putr (pc := 48) C fp_RX12_30 rfl rfl sM0 (by omega) rfl rfl dX12_init_48 ?_
  refine V.aload_n (pc := 51) C dX12_init_51 0 rfl ?_
  refine V.sipush (pc := 52) C dX12_init_52 (v := 900) (by decide) ?_
  refine V.newi (pc := 55) (n := 900) (st := [.ref 0]) C ac_int sM6 (by decide) (by decide) (by decide) (NK.up (a := 0) (j := 15) (b := 5) (NK.new (NK.si (a := 0) (j := 14) (v := (-1)) (NK.up (a := 0) (j := 4) (b := 4) (NK.new (NK.up (a := 0) (j := 3) (b := 3) (NK.new (NK.up (a := 0) (j := 2) (b := 2) (NK.new (NK.up (a := 0) (j := 1) (b := 1) (NK.new hk) (by omega))) (by omega))) (by omega))) (by omega)) (by rw [sM0]; exact fun q => q.1 rfl))) (by omega)) (List.forall_mem_cons.mpr ⟨okR (by omega), (fun _ h => absurd h List.not_mem_nil)⟩) (List.forall_mem_cons.mpr ⟨okR (by omega), (fun _ h => absurd h List.not_mem_nil)⟩) dX12_init_55 ?_
  refine V.putr (pc := 57) C fp_RX12_33 rfl rfl sM0 (by omega) rfl rfl dX12_init_57 ?_
  refine V.aload_n (pc := 60) C dX12_init_60 0 rfl ?_
  refine V.sipush (pc := 61) C dX12_init_61 (v := 129) (by decide) ?_
  refine V.newi (pc := 64) (n := 129) (st := [.ref 0]) C ac_int sM7 (by decide) (by decide) (by decide) (NK.up (a := 0) (j := 16) (b := 6) (NK.new (NK.up (a := 0) (j := 15) (b := 5) (NK.new (NK.si (a := 0) (j := 14) (v := (-1)) (NK.up (a := 0) (j := 4) (b := 4) (NK.new (NK.up (a := 0) (j := 3) (b := 3) (NK.new (NK.up (a := 0) (j := 2) (b := 2) (NK.new (NK.up (a := 0) (j := 1) (b := 1) (NK.new hk) (by omega))) (by omega))) (by omega))) (by omega)) (by rw [sM0]; exact fun q => q.1 rfl))) (by omega))) (by omega)) (List.forall_mem_cons.mpr ⟨okR (by omega), (fun _ h => absurd h List.not_mem_nil)⟩) (List.forall_mem_cons.mpr ⟨okR (by omega), (fun _ h => absurd h List.not_mem_nil)⟩) dX12_init_64 ?_
  refine V.putr (pc := 66) C fp_RX12_36 rfl rfl sM0 (by omega) rfl rfl dX12_init_66 ?_
  refine V.aload_n (pc := 69) C dX12_init_69 0 rfl ?_
  refine V.bipush (pc := 70) C dX12_init_70 (v := 8) (by decide) ?_
  refine V.newi (pc := 72) (n := 8) (st := [.ref 0]) C ac_int sM8 (by decide) (by decide) (by decide) (NK.up (a := 0) (j := 17) (b := 7) (NK.new (NK.up (a := 0) (j := 16) (b := 6) (NK.new (NK.up (a := 0) (j := 15) (b := 5) (NK.new (NK.si (a := 0) (j := 14) (v := (-1)) (NK.up (a := 0) (j := 4) (b := 4) (NK.new (NK.up (a := 0) (j := 3) (b := 3) (NK.new (NK.up (a := 0) (j := 2) (b := 2) (NK.new (NK.up (a := 0) (j := 1) (b := 1) (NK.new hk) (by omega))) (by omega))) (by omega))) (by omega)) (by rw [sM0]; exact fun q => q.1 rfl))) (by omega))) (by omega))) (by omega)) (List.forall_mem_cons.mpr ⟨okR (by omega), (fun _ h => absurd h List.not_mem_nil)⟩) (List.forall_mem_cons.mpr ⟨okR (by omega), (fun _ h => absurd h List.not_mem_nil)⟩) dX12_init_72 ?_
  refine V.putr (pc := 74) C fp_RX12_39 rfl rfl sM0 (by omega) rfl rfl dX12_init_74 ?_
  refine V.aload_n (pc := 77) C dX12_init_77 0 rfl ?_
  refine V.bipush (pc := 78) C dX12_init_78 (v := 64) (by decide) ?_
  refine V.newi (pc := 80) (n := 64) (st := [.ref 0]) C ac_int sM9 (by decide) (by decide) (by decide) (NK.up (a := 0) (j := 18) (b := 8) (NK.new (NK.up (a := 0) (j := 17) (b := 7) (NK.new (NK.up (a := 0) (j := 16) (b := 6) (NK.new (NK.up (a := 0) (j := 15) (b := 5) (NK.new (NK.si (a := 0) (j := 14) (v := (-1)) (NK.up (a := 0) (j := 4) (b := 4) (NK.new (NK.up (a := 0) (j := 3) (b := 3) (NK.new (NK.up (a := 0) (j := 2) (b := 2) (NK.new (NK.up (a := 0) (j := 1) (b := 1) (NK.new hk) (by omega))) (by omega))) (by omega))) (by omega)) (by rw [sM0]; exact fun q => q.1 rfl))) (by omega))) (by omega))) (by omega))) (by omega)) (List.forall_mem_cons.mpr ⟨okR (by omega), (fun _ h => absurd h List.not_mem_nil)⟩) (List.forall_mem_cons.mpr ⟨okR (by omega), (fun _ h => absurd h List.not_mem_nil)⟩) dX12_init_80 ?_
  refine V.putr (pc := 82) C fp_RX12_42 rfl rfl sM0 (by omega) rfl rfl dX12_init_82 ?_
  refine V.aload_n (pc := 85) C dX12_init_85 0 rfl ?_
  refine V.bipush (pc := 86) C dX12_init_86 (v := 8) (by decide) ?_
  refine V.newi (pc := 88) (n := 8) (st := [.ref 0]) C ac_int sM10 (by decide) (by decide) (by decide) (NK.up (a := 0) (j := 21) (b := 9) (NK.new (NK.up (a := 0) (j := 18) (b := 8) (NK.new (NK.up (a := 0) (j := 17) (b := 7) (NK.new (NK.up (a := 0) (j := 16) (b := 6) (NK.new (NK.up (a := 0) (j := 15) (b := 5) (NK.new (NK.si (a := 0) (j := 14) (v := (-1)) (NK.up (a := 0) (j := 4) (b := 4) (NK.new (NK.up (a := 0) (j := 3) (b := 3) (NK.new (NK.up (a := 0) (j := 2) (b := 2) (NK.new (NK.up (a := 0) (j := 1) (b := 1) (NK.new hk) (by omega))) (by omega))) (by omega))) (by omega)) (by rw [sM0]; exact fun q => q.1 rfl))) (by omega))) (by omega))) (by omega))) (by omega))) (by omega)) (List.forall_mem_cons.mpr ⟨okR (by omega), (fun _ h => absurd h List.not_mem_nil)⟩) (List.forall_mem_cons.mpr ⟨okR (by omega), (fun _ h => absurd h List.not_mem_nil)⟩) dX12_init_88 ?_
  refine V.putr (pc := 90) C fp_RX12_45 rfl rfl sM0 (by omega) rfl rfl dX12_init_90 ?_
  refine V.aload_n (pc := 93) C dX12_init_93 0 rfl ?_
  refine V.bipush (pc := 94) C dX12_init_94 (v := 8) (by decide) ?_
  refine V.newi (pc := 96) (n := 8) (st := [.ref 0]) C ac_int sM11 (by decide) (by decide) (by decide) (NK.up (a := 0) (j := 22) (b := 10) (NK.new (NK.up (a := 0) (j := 21) (b := 9) (NK.new (NK.up (a := 0) (j := 18) (b := 8) (NK.new (NK.up (a := 0) (j := 17) (b := 7) (NK.new (NK.up (a := 0) (j := 16) (b := 6) (NK.new (NK.up (a := 0) (j := 15) (b := 5) (NK.new (NK.si (a := 0) (j := 14) (v := (-1)) (NK.up (a := 0) (j := 4) (b := 4) (NK.new (NK.up (a := 0) (j := 3) (b := 3) (NK.new (NK.up (a := 0) (j := 2) (b := 2) (NK.new (NK.up (a := 0) (j := 1) (b := 1) (NK.new hk) (by omega))) (by omega))) (by omega))) (by omega)) (by rw [sM0]; exact fun q => q.1 rfl))) (by omega))) (by omega))) (by omega))) (by omega))) (by omega))) (by omega)) (List.forall_mem_cons.mpr ⟨okR (by omega), (fun _ h => absurd h List.not_mem_nil)⟩) (List.forall_mem_cons.mpr ⟨okR (by omega), (fun _ h => absurd h List.not_mem_nil)⟩) dX12_init_96 ?_
  refine V.putr (pc := 98) C fp_RX12_48 rfl rfl sM0 (by omega) rfl rfl dX12_init_98 ?_
  refine V.aload_n (pc := 101) C dX12_init_101 0 rfl ?_
  refine V.bipush (pc := 102) C dX12_init_102 (v := 64) (by decide) ?_
  refine V.newz (pc := 104) (n := 64) (st := [.ref 0]) C ac_boolean sM12 (by decide) (by decide) (by decide) (NK.up (a := 0) (j := 23) (b := 11) (NK.new (NK.up (a := 0) (j := 22) (b := 10) (NK.new (NK.up (a := 0) (j := 21) (b := 9) (NK.new (NK.up (a := 0) (j := 18) (b := 8) (NK.new (NK.up (a := 0) (j := 17) (b := 7) (NK.new (NK.up (a := 0) (j := 16) (b := 6) (NK.new (NK.up (a := 0) (j := 15) (b := 5) (NK.new (NK.si (a := 0) (j := 14) (v := (-1)) (NK.up (a := 0) (j := 4) (b := 4) (NK.new (NK.up (a := 0) (j := 3) (b := 3) (NK.new (NK.up (a := 0) (j := 2) (b := 2) (NK.new (NK.up (a := 0) (j := 1) (b := 1) (NK.new hk) (by omega))) (by omega))) (by omega))) (by omega)) (by rw [sM0]; exact fun q => q.1 rfl))) (by omega))) (by omega))) (by omega))) (by omega))) (by omega))) (by omega))) (by omega)) (List.forall_mem_cons.mpr ⟨okR (by omega), (fun _ h => absurd h List.not_mem_nil)⟩) (List.forall_mem_cons.mpr ⟨okR (by omega), (fun _ h => absurd h List.not_mem_nil)⟩) dX12_init_104 ?_
  refine V.putr (pc := 106) C fp_RX12_51 rfl rfl sM0 (by omega) rfl rfl dX12_init_106 ?_
  refine V.aload_n (pc := 109) C dX12_init_109 0 rfl ?_
  refine V.sipush (pc := 110) C dX12_init_110 (v := 129) (by decide) ?_
  refine V.newi (pc := 113) (n := 129) (st := [.ref 0]) C ac_int sM13 (by decide) (by decide) (by decide) (NK.up (a := 0) (j := 24) (b := 12) (NK.new (NK.up (a := 0) (j := 23) (b := 11) (NK.new (NK.up (a := 0) (j := 22) (b := 10) (NK.new (NK.up (a := 0) (j := 21) (b := 9) (NK.new (NK.up (a := 0) (j := 18) (b := 8) (NK.new (NK.up (a := 0) (j := 17) (b := 7) (NK.new (NK.up (a := 0) (j := 16) (b := 6) (NK.new (NK.up (a := 0) (j := 15) (b := 5) (NK.new (NK.si (a := 0) (j := 14) (v := (-1)) (NK.up (a := 0) (j := 4) (b := 4) (NK.new (NK.up (a := 0) (j := 3) (b := 3) (NK.new (NK.up (a := 0) (j := 2) (b := 2) (NK.new (NK.up (a := 0) (j := 1) (b := 1) (NK.new hk) (by omega))) (by omega))) (by omega))) (by omega)) (by rw [sM0]; exact fun q => q.1 rfl))) (by omega))) (by omega))) (by omega))) (by omega))) (by omega))) (by omega))) (by omega))) (by omega)) (List.forall_mem_cons.mpr ⟨okR (by omega), (fun _ h => absurd h List.not_mem_nil)⟩) (List.forall_mem_cons.mpr ⟨okR (by omega), (fun _ h => absurd h List.not_mem_nil)⟩) dX12_init_113 ?_
  refine V.putr (pc := 115) C fp_RX12_54 rfl rfl sM0 (by omega) rfl rfl dX12_init_115 ?_
  refine V.aload_n (pc := 118) C dX12_init_118 0 rfl ?_
  refine V.iconst (pc := 119) C dX12_init_119 (v := 4) (by decide) ?_
  refine V.newi (pc := 120) (n := 4) (st := [.ref 0]) C ac_int sM14 (by decide) (by decide) (by decide) (NK.up (a := 0) (j := 29) (b := 13) (NK.new (NK.up (a := 0) (j := 24) (b := 12) (NK.new (NK.up (a := 0) (j := 23) (b := 11) (NK.new (NK.up (a := 0) (j := 22) (b := 10) (NK.new (NK.up (a := 0) (j := 21) (b := 9) (NK.new (NK.up (a := 0) (j := 18) (b := 8) (NK.new (NK.up (a := 0) (j := 17) (b := 7) (NK.new (NK.up (a := 0) (j := 16) (b := 6) (NK.new (NK.up (a := 0) (j := 15) (b := 5) (NK.new (NK.si (a := 0) (j := 14) (v := (-1)) (NK.up (a := 0) (j := 4) (b := 4) (NK.new (NK.up (a := 0) (j := 3) (b := 3) (NK.new (NK.up (a := 0) (j := 2) (b := 2) (NK.new (NK.up (a := 0) (j := 1) (b := 1) (NK.new hk) (by omega))) (by omega))) (by omega))) (by omega)) (by rw [sM0]; exact fun q => q.1 rfl))) (by omega))) (by omega))) (by omega))) (by omega))) (by omega))) (by omega))) (by omega))) (by omega))) (by omega)) (List.forall_mem_cons.mpr ⟨okR (by omega), (fun _ h => absurd h List.not_mem_nil)⟩) (List.forall_mem_cons.mpr ⟨okR (by omega), (fun _ h => absurd h List.not_mem_nil)⟩) dX12_init_120 ?_
  refine V.dup (pc := 122) C dX12_init_122 rfl ?_
  refine V.iconst (pc := 123) C dX12_init_123 (v := 0) (by decide) ?_
  refine V.iconst (pc := 124) C dX12_init_124 (v := (-1)) (by decide) ?_
  refine V.iastC (pc := 125) C sM14 (by omega) (by decide) dX12_init_125 ?_
  refine V.dup (pc := 126) C dX12_init_126 rfl ?_
  refine V.iconst (pc := 127) C dX12_init_127 (v := 1) (by decide) ?_
  refine V.iconst (pc := 128) C dX12_init_128 (v := (-1)) (by decide) ?_
  refine V.iastC (pc := 129) C sM14 (by omega) (by decide) dX12_init_129 ?_
  refine V.dup (pc := 130) C dX12_init_130 rfl ?_
  refine V.iconst (pc := 131) C dX12_init_131 (v := 2) (by decide) ?_
  refine V.iconst (pc := 132) C dX12_init_132 (v := (-1)) (by decide) ?_
  refine V.iastC (pc := 133) C sM14 (by omega) (by decide) dX12_init_133 ?_
  refine V.dup (pc := 134) C dX12_init_134 rfl ?_
  refine V.iconst (pc := 135) C dX12_init_135 (v := 3) (by decide) ?_
  refine V.iconst (pc := 136) C dX12_init_136 (v := (-1)) (by decide) ?_
  refine V.iastC (pc := 137) C sM14 (by omega) (by decide) dX12_init_137 ?_
  refine V.putr (pc := 138) C fp_RX12_57 rfl rfl sM0 (by omega) rfl rfl dX12_init_138 ?_
  refine V.aload_n (pc := 141) C dX12_init_141 0 rfl ?_
  refine V.iconst (pc := 142) C dX12_init_142 (v := 4) (by decide) ?_
  refine V.newi (pc := 143) (n := 4) (st := [.ref 0]) C ac_int sM15 (by decide) (by decide) (by decide) (NK.up (a := 0) (j := 30) (b := 14) (NK.si (a := 14) (j := (ix 3)) (v := (-1)) (NK.si (a := 14) (j := (ix 2)) (v := (-1)) (NK.si (a := 14) (j := (ix 1)) (v := (-1)) (NK.si (a := 14) (j := (ix 0)) (v := (-1)) (NK.new (NK.up (a := 0) (j := 29) (b := 13) (NK.new (NK.up (a := 0) (j := 24) (b := 12) (NK.new (NK.up (a := 0) (j := 23) (b := 11) (NK.new (NK.up (a := 0) (j := 22) (b := 10) (NK.new (NK.up (a := 0) (j := 21) (b := 9) (NK.new (NK.up (a := 0) (j := 18) (b := 8) (NK.new (NK.up (a := 0) (j := 17) (b := 7) (NK.new (NK.up (a := 0) (j := 16) (b := 6) (NK.new (NK.up (a := 0) (j := 15) (b := 5) (NK.new (NK.si (a := 0) (j := 14) (v := (-1)) (NK.up (a := 0) (j := 4) (b := 4) (NK.new (NK.up (a := 0) (j := 3) (b := 3) (NK.new (NK.up (a := 0) (j := 2) (b := 2) (NK.new (NK.up (a := 0) (j := 1) (b := 1) (NK.new hk) (by omega))) (by omega))) (by omega))) (by omega)) (by rw [sM0]; exact fun q => q.1 rfl))) (by omega))) (by omega))) (by omega))) (by omega))) (by omega))) (by omega))) (by omega))) (by omega))) (by omega))) (by rw [sM14]; exact fun q => q (by decide))) (by rw [sM14]; exact fun q => q (by decide))) (by rw [sM14]; exact fun q => q (by decide))) (by rw [sM14]; exact fun q => q (by decide))) (by omega)) (List.forall_mem_cons.mpr ⟨okR (by omega), (fun _ h => absurd h List.not_mem_nil)⟩) (List.forall_mem_cons.mpr ⟨okR (by omega), (fun _ h => absurd h List.not_mem_nil)⟩) dX12_init_143 ?_
  refine V.putr (pc := 145) C fp_RX12_60 rfl rfl sM0 (by omega) rfl rfl dX12_init_145 ?_
  refine V.aload_n (pc := 148) C dX12_init_148 0 rfl ?_
  refine V.sipush (pc := 149) C dX12_init_149 (v := 160) (by decide) ?_
  refine V.newl (pc := 152) (n := 160) (st := [.ref 0]) C ac_long sM16 (by decide) (by decide) (by decide) (NK.up (a := 0) (j := 31) (b := 15) (NK.new (NK.up (a := 0) (j := 30) (b := 14) (NK.si (a := 14) (j := (ix 3)) (v := (-1)) (NK.si (a := 14) (j := (ix 2)) (v := (-1)) (NK.si (a := 14) (j := (ix 1)) (v := (-1)) (NK.si (a := 14) (j := (ix 0)) (v := (-1)) (NK.new (NK.up (a := 0) (j := 29) (b := 13) (NK.new (NK.up (a := 0) (j := 24) (b := 12) (NK.new (NK.up (a := 0) (j := 23) (b := 11) (NK.new (NK.up (a := 0) (j := 22) (b := 10) (NK.new (NK.up (a := 0) (j := 21) (b := 9) (NK.new (NK.up (a := 0) (j := 18) (b := 8) (NK.new (NK.up (a := 0) (j := 17) (b := 7) (NK.new (NK.up (a := 0) (j := 16) (b := 6) (NK.new (NK.up (a := 0) (j := 15) (b := 5) (NK.new (NK.si (a := 0) (j := 14) (v := (-1)) (NK.up (a := 0) (j := 4) (b := 4) (NK.new (NK.up (a := 0) (j := 3) (b := 3) (NK.new (NK.up (a := 0) (j := 2) (b := 2) (NK.new (NK.up (a := 0) (j := 1) (b := 1) (NK.new hk) (by omega))) (by omega))) (by omega))) (by omega)) (by rw [sM0]; exact fun q => q.1 rfl))) (by omega))) (by omega))) (by omega))) (by omega))) (by omega))) (by omega))) (by omega))) (by omega))) (by omega))) (by rw [sM14]; exact fun q => q (by decide))) (by rw [sM14]; exact fun q => q (by decide))) (by rw [sM14]; exact fun q => q (by decide))) (by rw [sM14]; exact fun q => q (by decide))) (by omega))) (by omega)) (List.forall_mem_cons.mpr ⟨okR (by omega), (fun _ h => absurd h List.not_mem_nil)⟩) (List.forall_mem_cons.mpr ⟨okR (by omega), (fun _ h => absurd h List.not_mem_nil)⟩) dX12_init_152 ?_
  refine V.putr (pc := 154) C fp_RX12_63 rfl rfl sM0 (by omega) rfl rfl dX12_init_154 ?_
  refine V.aload_n (pc := 157) C dX12_init_157 0 rfl ?_
  refine V.getr (pc := 158) (b := 1) C fl_RX12_13 sM0 (by omega) rfl rfl dX12_init_158 ?_
  refine V.congR (R2 := RM) (fun ad => wl_rm ad) ?_
  refine V.callS (pc := 161) (st := []) C (c_X12_plain l 6288 1 sM1 kM1 (nw (nw (si (si (si (si (nw (nw (nw (nw (nw (nw (nw (nw (nw (nw (si (nw (nw (nw (nw m 1) 2) 3) 4) 0 14 (-1)) 5) 6) 7) 8) 9) 10) 11) 12) 13) 14) 14 (ix 0) (-1)) 14 (ix 1) (-1)) 14 (ix 2) (-1)) 14 (ix 3) (-1)) 15) 16)) obV ck_X12_plain ml_RX12_67 rfl rfl (Nat.le_of_ble_eq_true rfl) ⟨by decide, by decide⟩ dX12_init_161 (fun _ m_1 _ => ?_)
  exact V.vret C dX12_init_164
theorem ci_X12 (l : Launch) (m : Mem) (hk : NK SM 1 (fun _ _ => none) m) : Ct l yX12_init cX12_init 1 none 2 SM oV 1 17 (fun _ _ => none) RM [.ref 0] m (X12_init m) :=
  Ct.of (own := RX12) (nm := "<init>") (by decide) rfl rfl (Nat.le_of_ble_eq_true rfl) (fun _ _ _ _ _ _ _ _ _ _ _ C => vi_X12 C m hk)
