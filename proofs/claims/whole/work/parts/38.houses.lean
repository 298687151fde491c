/-! houses -/
def alo (r : Ru) (x : Lf) (s : Nat) : Nat → Nat
  | 0 => 2 ^ rT r - 1
  | n + 1 => if s.testBit n then alo r x s n &&& ls r x n else alo r x s n
theorem alo_le (r : Ru) (x : Lf) (s : Nat) : ∀ n, alo r x s n ≤ 2 ^ rT r - 1
  | 0 => Nat.le_refl _
  | n + 1 => by
    have := alo_le r x s n
    show (if s.testBit n then alo r x s n &&& ls r x n else alo r x s n) ≤ _
    split
    · exact Nat.le_trans Nat.and_le_left this
    · exact this
theorem p2T {r : Ru} (h : rT r ≤ 14) : 1 ≤ 2 ^ rT r ∧ 2 ^ rT r ≤ 16384 := ⟨Nat.two_pow_pos _, (Nat.pow_le_pow_right (by decide) h : 2 ^ rT r ≤ 2 ^ 14)⟩
theorem p2P {r : Ru} (h : rP r ≤ 8) : 1 ≤ 2 ^ rP r ∧ 2 ^ rP r ≤ 256 := ⟨Nat.two_pow_pos _, (Nat.pow_le_pow_right (by decide) h : 2 ^ rP r ≤ 2 ^ 8)⟩
theorem c_allOf_loop {r : Ru} {x : Lf} {m : Mem} {a : Nat} (g : GX r x) (h : IC r x m a) {s : Nat} (hs : s < 16384) : ∀ n k, k ≤ rP r → rP r - k < n → X10_allOf_b14 a n (nI s) (nI (alo r x s k)) (nI k) m = some (nI (alo r x s (rP r)), m) := by
  have hT := g.T; have hP := g.P
  intro n
  induction n with
  | zero => intro k _ h; omega
  | succ n ih =>
    intro k hk hn
    rw [X10_allOf_b14]
    rcases Nat.eq_or_lt_of_le hk with he | hl
    · subst he
      simp (disch := omega) only [nadn, gsn, gss, gsi, if_true, if_false, chk_in, chk_tt, bq, lq, ix_nI, jle_t, jle_f, jlt_t, jlt_f, jeq_t, jeq_f, nadd, nmul, nsub, nshl, nshl2, nor, nand, nandn, ↓kn1, K0, K1, K2, K3, K4, K5, K6, K7, K8, K9, K10, K11, K12, K13, K14, K20, K24, K25, K32, K33, K40, K41, K60, K63, K64, K100, K112, K120, K128, K129, K153, K161, K162, K163, K255, K256, K900, K903, K999, K1000, K1195, K1196, K2000, K2096, K3000, K3001, K3002, K3003, K3004, K3005, K3006, K3007, K3008, h.P]
    · have ih2 := ih (k + 1) (by omega) (by omega)
      rw [alo] at ih2
      cases hx : s.testBit k with
      | true =>
        rw [hx] at ih2
        simp (disch := first | exact hx | omega) only [nadn, gsn, gss, gsi, if_true, if_false, chk_in, chk_tt, bq, lq, ix_nI, jle_t, jle_f, jlt_t, jlt_f, jeq_t, jeq_f, nadd, nmul, nsub, nshl, nshl2, nor, nand, nandn, ↓kn1, K0, K1, K2, K3, K4, K5, K6, K7, K8, K9, K10, K11, K12, K13, K14, K20, K24, K25, K32, K33, K40, K41, K60, K63, K64, K100, K112, K120, K128, K129, K153, K161, K162, K163, K255, K256, K900, K903, K999, K1000, K1195, K1196, K2000, K2096, K3000, K3001, K3002, K3003, K3004, K3005, K3006, K3007, K3008, h.P, h.list hl, jbit_t]
        exact ih2
      | false =>
        rw [hx] at ih2
        simp (disch := first | exact hx | omega) only [nadn, gsn, gss, gsi, if_true, if_false, chk_in, chk_tt, bq, lq, ix_nI, jle_t, jle_f, jlt_t, jlt_f, jeq_t, jeq_f, nadd, nmul, nsub, nshl, nshl2, nor, nand, nandn, ↓kn1, K0, K1, K2, K3, K4, K5, K6, K7, K8, K9, K10, K11, K12, K13, K14, K20, K24, K25, K32, K33, K40, K41, K60, K63, K64, K100, K112, K120, K128, K129, K153, K161, K162, K163, K255, K256, K900, K903, K999, K1000, K1195, K1196, K2000, K2096, K3000, K3001, K3002, K3003, K3004, K3005, K3006, K3007, K3008, h.P, jbit_f]
        simpa using ih2
theorem c_allOf {r : Ru} {x : Lf} {m : Mem} {a : Nat} (g : GX r x) (h : IC r x m a) {s : Nat} (hs : s < 16384) : X10_allOf a (nI s) m = some (nI (alo r x s (rP r)), m) := by
  have hT := g.T; have hP := g.P
  have h2 := p2T g.T
  have e := c_allOf_loop g h hs FU 0 (by omega) (by unfold FU; omega)
  rw [X10_allOf]
  simp (disch := omega) only [nadn, gsn, gss, gsi, if_true, if_false, chk_in, chk_tt, bq, lq, ix_nI, jle_t, jle_f, jlt_t, jlt_f, jeq_t, jeq_f, nadd, nmul, nsub, nshl, nshl2, nor, nand, nandn, ↓kn1, K0, K1, K2, K3, K4, K5, K6, K7, K8, K9, K10, K11, K12, K13, K14, K20, K24, K25, K32, K33, K40, K41, K60, K63, K64, K100, K112, K120, K128, K129, K153, K161, K162, K163, K255, K256, K900, K903, K999, K1000, K1195, K1196, K2000, K2096, K3000, K3001, K3002, K3003, K3004, K3005, K3006, K3007, K3008, h.T]
  exact e
theorem and_m1 {v : Nat} (h : v < 4294967296) : nI v &&& NO = nI v := by
  rw [n_m1, nand]
  congr 1
  rw [show (4294967295 : Nat) = 2 ^ 32 - 1 by decide, Nat.and_two_pow_sub_one_eq_mod, Nat.mod_eq_of_lt h]
theorem m_sharedBy_loop {r : Ru} {x : Lf} {m : Mem} (g : GX r x) (h : IM r x m) {s : Nat} (hs : s < 16384) : ∀ n k, k ≤ rP r → rP r - k < n → X12_sharedBy_b13 n (nI s) (nI (alo r x s k)) (nI k) m = some (nI (pcn (alo r x s (rP r))), m) := by
  have hT := g.T; have hP := g.P
  have h2 := p2T g.T
  intro n
  induction n with
  | zero => intro k _ h; omega
  | succ n ih =>
    intro k hk hn
    rw [X12_sharedBy_b13]
    rcases Nat.eq_or_lt_of_le hk with he | hl
    · subst he
      have hb := alo_le r x s (rP r)
      simp (disch := omega) only [nadn, gsn, gss, gsi, if_true, if_false, chk_in, chk_tt, bq, lq, ix_nI, jle_t, jle_f, jlt_t, jlt_f, jeq_t, jeq_f, nadd, nmul, nsub, nshl, nshl2, nor, nand, nandn, ↓kn1, K0, K1, K2, K3, K4, K5, K6, K7, K8, K9, K10, K11, K12, K13, K14, K20, K24, K25, K32, K33, K40, K41, K60, K63, K64, K100, K112, K120, K128, K129, K153, K161, K162, K163, K255, K256, K900, K903, K999, K1000, K1195, K1196, K2000, K2096, K3000, K3001, K3002, K3003, K3004, K3005, K3006, K3007, K3008, h.P, m_bitsOf]
    · have ih2 := ih (k + 1) (by omega) (by omega)
      have hb := alo_le r x s k
      rw [alo] at ih2
      cases hx : s.testBit k with
      | true =>
        rw [hx] at ih2
        simp (disch := omega) only [nadn, gsn, gss, gsi, if_true, if_false, chk_in, chk_tt, bq, lq, ix_nI, jle_t, jle_f, jlt_t, jlt_f, jeq_t, jeq_f, nadd, nmul, nsub, nshl, nshl2, nor, nand, nandn, ↓kn1, K0, K1, K2, K3, K4, K5, K6, K7, K8, K9, K10, K11, K12, K13, K14, K20, K24, K25, K32, K33, K40, K41, K60, K63, K64, K100, K112, K120, K128, K129, K153, K161, K162, K163, K255, K256, K900, K903, K999, K1000, K1195, K1196, K2000, K2096, K3000, K3001, K3002, K3003, K3004, K3005, K3006, K3007, K3008, h.P, isIn_e, hx, m_listOf g h hl]
        exact ih2
      | false =>
        rw [hx] at ih2
        simp (disch := omega) only [nadn, gsn, gss, gsi, if_true, if_false, chk_in, chk_tt, bq, lq, ix_nI, jle_t, jle_f, jlt_t, jlt_f, jeq_t, jeq_f, nadd, nmul, nsub, nshl, nshl2, nor, nand, nandn, ↓kn1, K0, K1, K2, K3, K4, K5, K6, K7, K8, K9, K10, K11, K12, K13, K14, K20, K24, K25, K32, K33, K40, K41, K60, K63, K64, K100, K112, K120, K128, K129, K153, K161, K162, K163, K255, K256, K900, K903, K999, K1000, K1195, K1196, K2000, K2096, K3000, K3001, K3002, K3003, K3004, K3005, K3006, K3007, K3008, h.P, isIn_e, hx, and_m1]
        simpa [and_m1 (show alo r x s k < 4294967296 by omega)] using ih2
theorem m_sharedBy {r : Ru} {x : Lf} {m : Mem} (g : GX r x) (h : IM r x m) {s : Nat} (hs : s < 16384) : X12_sharedBy (nI s) m = some (nI (pcn (alo r x s (rP r))), m) := by
  have hT := g.T; have hP := g.P
  have h2 := p2T g.T
  have e := m_sharedBy_loop g h hs FU 0 (by omega) (by unfold FU; omega)
  rw [X12_sharedBy]
  simp (disch := omega) only [nadn, gsn, gss, gsi, if_true, if_false, chk_in, chk_tt, bq, lq, ix_nI, jle_t, jle_f, jlt_t, jlt_f, jeq_t, jeq_f, nadd, nmul, nsub, nshl, nshl2, nor, nand, nandn, ↓kn1, K0, K1, K2, K3, K4, K5, K6, K7, K8, K9, K10, K11, K12, K13, K14, K20, K24, K25, K32, K33, K40, K41, K60, K63, K64, K100, K112, K120, K128, K129, K153, K161, K162, K163, K255, K256, K900, K903, K999, K1000, K1195, K1196, K2000, K2096, K3000, K3001, K3002, K3003, K3004, K3005, K3006, K3007, K3008, h.T]
  exact e
theorem c_isHouse {r : Ru} {x : Lf} {m : Mem} (g : GX r x) (h : IC r x m 25) {s k : Nat} (hs : s < 16384) (hk : k ≤ 14) : X11_isHouse (nI s) (nI k) m = some (nI (if pcn (alo r x s (rP r)) < k then 0 else 1), m) := by
  have hT := g.T; have hP := g.P
  have h2 := p2T g.T
  have hb := alo_le r x s (rP r)
  have hc := pcn_le (alo r x s (rP r))
  rw [X11_isHouse]
  simp (disch := omega) only [nadn, gsn, gss, gsi, if_true, if_false, chk_in, chk_tt, bq, lq, ix_nI, jle_t, jle_f, jlt_t, jlt_f, jeq_t, jeq_f, nadd, nmul, nsub, nshl, nshl2, nor, nand, nandn, ↓kn1, K0, K1, K2, K3, K4, K5, K6, K7, K8, K9, K10, K11, K12, K13, K14, K20, K24, K25, K32, K33, K40, K41, K60, K63, K64, K100, K112, K120, K128, K129, K153, K161, K162, K163, K255, K256, K900, K903, K999, K1000, K1195, K1196, K2000, K2096, K3000, K3001, K3002, K3003, K3004, K3005, K3006, K3007, K3008, c_allOf g h hs, bitc]
  by_cases hz : pcn (alo r x s (rP r)) < k
  · simp (disch := omega) only [jlt_t, if_pos hz]
  · simp (disch := omega) only [jlt_f, if_neg hz]
theorem houses_loop {r : Ru} {x : Lf} {mm mx : Mem} (g : GX r x) (hi : IM r x mm) (h : IC r x mx 25) {a b : Nat} (ha : a ≤ 8) (hb : b ≤ 14) : ∀ n n2 k y, k ≤ 2 ^ rP r → 2 ^ rP r - k < n → 2 ^ rP r - k < n2 → ∃ v, X11_houses_b38 n (nI a) (nI b) y (nI (2 ^ rP r - 1)) (nI k) mx = some (v, mx) ∧ X12_houses_b37 n2 (nI a) (nI b) y (nI k) mm = some (v, mm) := by
  have hT := g.T; have hP := g.P
  have h2 := p2T g.T; have h3 := p2P g.P
  intro n
  induction n with
  | zero => intro n2 k y _ h; omega
  | succ n ih =>
    intro n2 k y hk hn hn2
    obtain ⟨n2, rfl⟩ : ∃ z, n2 = z + 1 := ⟨n2 - 1, by omega⟩
    rw [X11_houses_b38, X12_houses_b37]
    rcases Nat.eq_or_lt_of_le hk with he | hl
    · simp (disch := omega) only [nadn, gsn, gss, gsi, if_true, if_false, chk_in, chk_tt, bq, lq, ix_nI, jle_t, jle_f, jlt_t, jlt_f, jeq_t, jeq_f, nadd, nmul, nsub, nshl, nshl2, nor, nand, nandn, ↓kn1, K0, K1, K2, K3, K4, K5, K6, K7, K8, K9, K10, K11, K12, K13, K14, K20, K24, K25, K32, K33, K40, K41, K60, K63, K64, K100, K112, K120, K128, K129, K153, K161, K162, K163, K255, K256, K900, K903, K999, K1000, K1195, K1196, K2000, K2096, K3000, K3001, K3002, K3003, K3004, K3005, K3006, K3007, K3008, hi.P]
      exact ⟨_, rfl, rfl⟩
    · have hc := pcn_le k
      have hd := pcn_le (alo r x k (rP r))
      by_cases hz : pcn k = a
      · simp (disch := omega) only [nadn, gsn, gss, gsi, if_true, if_false, chk_in, chk_tt, bq, lq, ix_nI, jle_t, jle_f, jlt_t, jlt_f, jeq_t, jeq_f, nadd, nmul, nsub, nshl, nshl2, nor, nand, nandn, ↓kn1, K0, K1, K2, K3, K4, K5, K6, K7, K8, K9, K10, K11, K12, K13, K14, K20, K24, K25, K32, K33, K40, K41, K60, K63, K64, K100, K112, K120, K128, K129, K153, K161, K162, K163, K255, K256, K900, K903, K999, K1000, K1195, K1196, K2000, K2096, K3000, K3001, K3002, K3003, K3004, K3005, K3006, K3007, K3008, hi.P, bitc, m_bitsOf, c_isHouse g h, m_sharedBy g hi]
        by_cases hy : pcn (alo r x k (rP r)) < b
        · simp (disch := omega) only [if_pos hy, jeq_t, jlt_t]
          obtain ⟨v, q1, q2⟩ := ih n2 (k + 1) y (by omega) (by omega) (by omega)
          refine ⟨v, q1, ?_⟩
          rw [show y + nI 0 = y by rw [← K0]; simp]
          exact q2
        · simp (disch := omega) only [if_neg hy, jeq_f, jlt_f]
          exact ih n2 (k + 1) _ (by omega) (by omega) (by omega)
      · simp (disch := omega) only [nadn, gsn, gss, gsi, if_true, if_false, chk_in, chk_tt, bq, lq, ix_nI, jle_t, jle_f, jlt_t, jlt_f, jeq_t, jeq_f, nadd, nmul, nsub, nshl, nshl2, nor, nand, nandn, ↓kn1, K0, K1, K2, K3, K4, K5, K6, K7, K8, K9, K10, K11, K12, K13, K14, K20, K24, K25, K32, K33, K40, K41, K60, K63, K64, K100, K112, K120, K128, K129, K153, K161, K162, K163, K255, K256, K900, K903, K999, K1000, K1195, K1196, K2000, K2096, K3000, K3001, K3002, K3003, K3004, K3005, K3006, K3007, K3008, hi.P, bitc, m_bitsOf]
        obtain ⟨v, q1, q2⟩ := ih n2 (k + 1) y (by omega) (by omega) (by omega)
        refine ⟨v, q1, ?_⟩
        rw [show y + nI 0 = y by rw [← K0]; simp]
        exact q2
theorem wl_t {l n k : Nat} {c d : Int64} (hc : c = Int32.toInt64 (nI l)) (hd : d = Int32.toInt64 (nI k)) (h1 : l ≤ n) (h2 : n ≤ k) (hk : k < 2147483648) (m : Mem) : X12_within (Int32.toInt64 (nI n)) c d m = some (nI 1, m) := by
  rw [hc, hd]
  exact within_t (by rw [toI64_le]; exact nI_le h1 (by omega)) (by rw [toI64_le]; exact nI_le h2 hk) m
theorem wl_f {l n k : Nat} {c d : Int64} (hc : c = Int32.toInt64 (nI l)) (hd : d = Int32.toInt64 (nI k)) (h1 : ¬ (l ≤ n ∧ n ≤ k)) (hl : l < 2147483648) (hn : n < 2147483648) (hk : k < 2147483648) (m : Mem) : X12_within (Int32.toInt64 (nI n)) c d m = some (nI 0, m) := by
  rw [hc, hd]
  apply within_f
  rw [toI64_le, toI64_le, nI_leI (by omega) (by omega), nI_leI (by omega) (by omega)]
  exact h1
theorem wl_n {a : Int32} {l k : Nat} {c d : Int64} (hc : c = Int32.toInt64 (nI l)) (hd : d = Int32.toInt64 (nI k)) (h : ¬ prs (k + 1) a) (hl : l < 2147483648) (hk : k < 2147483647) (m : Mem) : X12_within (Int32.toInt64 a) c d m = some (nI 0, m) := by
  rw [hc, hd]
  apply within_f
  rw [prs_iff (by omega)] at h
  rw [toI64_le, toI64_le]
  rw [le_iff, lt_iff, zI, tI (by omega)] at h
  rw [le_iff, le_iff, tI (by omega), tI (by omega)]
  omega
theorem l64_1 : (1 : Int64) = Int32.toInt64 (nI 1) := by decide
theorem l64_8 : (8 : Int64) = Int32.toInt64 (nI 8) := by decide
theorem l64_14 : (14 : Int64) = Int32.toInt64 (nI 14) := by decide
/-- what is not within 0 and k, as the class asks -/
theorem out_k {β : Type} {a : Int32} {k : Nat} (hk : k < 2147483647) (h : ¬ prs (k + 1) a) {x y : β} {D1 : Decidable (a < nI 0)} {D2 : Decidable (a ≤ nI k)} : @ite β (a < nI 0) D1 x (@ite β (a ≤ nI k) D2 y x) = x := by
  rw [prs_iff (by omega)] at h
  rw [le_iff, lt_iff, zI, tI (by omega)] at h
  by_cases h0 : a < nI 0
  · rw [if_pos h0]
  · rw [if_neg h0, if_neg]
    rw [lt_iff, tI (by omega)] at h0
    rw [le_iff, tI (by omega)]
    omega
theorem c_everybody {r : Ru} {x : Lf} {m : Mem} {a : Nat} (g : GX r x) (h : IC r x m a) : X8_everybody 2 m = some (nI (2 ^ rP r - 1), m) := by
  have hP := g.P
  have h3 := p2P g.P
  rw [X8_everybody]
  simp (disch := omega) only [nadn, gsn, gss, gsi, if_true, if_false, chk_in, chk_tt, bq, lq, ix_nI, jle_t, jle_f, jlt_t, jlt_f, jeq_t, jeq_f, nadd, nmul, nsub, nshl, nshl2, nor, nand, nandn, ↓kn1, K0, K1, K2, K3, K4, K5, K6, K7, K8, K9, K10, K11, K12, K13, K14, K20, K24, K25, K32, K33, K40, K41, K60, K63, K64, K100, K112, K120, K128, K129, K153, K161, K162, K163, K255, K256, K900, K903, K999, K1000, K1195, K1196, K2000, K2096, K3000, K3001, K3002, K3003, K3004, K3005, K3006, K3007, K3008, h.P]
theorem St_houses_ok : St_houses Rel := by
  intro k N mx mm hk ⟨s, e, ib, hw, hc, hm⟩ a b
  have g := hw.gx
  have hT := g.T; have hP := g.P
  have h3 := p2P g.P
  have h := hc.2.1
  have hi := hm.2.1.si (c := 0) (by decide) 0 (nI 0)
  have fin : Rel (k + 1) N mx (si mm 0 0 (nI 0)) := Rel.rd hk hw hc hm FX.rf FM.th
  rw [X11_houses, X12_houses, K0, K1, K8, K14, lq]
  by_cases ha : prs 9 a
  · obtain ⟨n, hn, rfl⟩ := ha
    by_cases h0 : n = 0
    · subst h0
      rw [wl_f l64_1 l64_8 (by omega) (by omega) (by omega) (by omega), bq, jeq_t rfl, jlt_t (by omega) (by omega)]
      exact ⟨_, _, _, rfl, rfl, fin⟩
    · rw [wl_t l64_1 l64_8 (by omega) (by omega) (by omega), bq, jeq_f (by omega) (by omega) (by omega), jlt_f (by omega) (by omega), jlt_f (by omega) (by omega)]
      by_cases hb : prs 15 b
      · obtain ⟨j, hj, rfl⟩ := hb
        obtain ⟨v, q1, q2⟩ := houses_loop g hi h (a := n) (b := j) (by omega) (by omega) FU 19999 1 (nI 0) (by omega) (by unfold FU; omega) (by omega)
        rw [wl_t l64_0 l64_14 (l := 0) (by omega) (by omega) (by omega), bq, jeq_f (by omega) (by omega) (by omega), jlt_f (by omega) (by omega), jle_t (by omega) (by omega), c_everybody g h, bq]
        refine ⟨v, _, _, q1, ?_, fin⟩
        rw [show FU = 19999 + 1 from rfl, X12_houses_b37]
        have e0 : pcn 0 = 0 := by decide
        simp (disch := omega) only [nadn, gsn, gss, gsi, if_true, if_false, chk_in, chk_tt, bq, lq, ix_nI, jle_t, jle_f, jlt_t, jlt_f, jeq_t, jeq_f, nadd, nmul, nsub, nshl, nshl2, nor, nand, nandn, ↓kn1, K0, K1, K2, K3, K4, K5, K6, K7, K8, K9, K10, K11, K12, K13, K14, K20, K24, K25, K32, K33, K40, K41, K60, K63, K64, K100, K112, K120, K128, K129, K153, K161, K162, K163, K255, K256, K900, K903, K999, K1000, K1195, K1196, K2000, K2096, K3000, K3001, K3002, K3003, K3004, K3005, K3006, K3007, K3008, hi.P, m_bitsOf, e0]
        exact q2
      · rw [wl_n l64_0 l64_14 (l := 0) hb (by omega) (by omega), bq, jeq_t rfl, out_k (by omega) hb]
        exact ⟨_, _, _, rfl, rfl, fin⟩
  · rw [wl_n l64_1 l64_8 ha (by omega) (by omega), bq, jeq_t rfl]
    rw [prs_iff (by omega), le_iff, lt_iff, zI, tI (by omega)] at ha
    by_cases h1 : a < nI 1
    · rw [if_pos h1]
      exact ⟨_, _, _, rfl, rfl, fin⟩
    · rw [if_neg h1, if_pos]
      · exact ⟨_, _, _, rfl, rfl, fin⟩
      · rw [lt_iff, tI (by omega)] at h1 ⊢
        omega
theorem biggest_loop {r : Ru} {x : Lf} {mm mx : Mem} (g : GX r x) (hi : IM r x mm) (h : IC r x mx 25) {a b : Nat} (ha : a ≤ 14) (hb : b < 2) : ∀ n k u, k ≤ 2 ^ rP r → 2 ^ rP r - k < n → u < 256 → ∃ v, X11_biggest_b40 n (nI a) (nI b) (nI (pcn u)) (nI u) (nI (2 ^ rP r - 1)) (nI k) mx = some (v, mx) ∧ X12_biggest_b38 n (nI a) (nI b) (nI u) (nI k) mm = some (v, mm) := by
  have hT := g.T; have hP := g.P
  have h2 := p2T g.T; have h3 := p2P g.P
  intro n
  induction n with
  | zero => intro k y _ h; omega
  | succ n ih =>
    intro k u hk hn hu
    rw [X11_biggest_b40, X12_biggest_b38]
    rcases Nat.eq_or_lt_of_le hk with he | hl
    · by_cases hz : b = 0
      · simp (disch := omega) only [nadn, gsn, gss, gsi, if_true, if_false, chk_in, chk_tt, bq, lq, ix_nI, jle_t, jle_f, jlt_t, jlt_f, jeq_t, jeq_f, nadd, nmul, nsub, nshl, nshl2, nor, nand, nandn, ↓kn1, K0, K1, K2, K3, K4, K5, K6, K7, K8, K9, K10, K11, K12, K13, K14, K20, K24, K25, K32, K33, K40, K41, K60, K63, K64, K100, K112, K120, K128, K129, K153, K161, K162, K163, K255, K256, K900, K903, K999, K1000, K1195, K1196, K2000, K2096, K3000, K3001, K3002, K3003, K3004, K3005, K3006, K3007, K3008, hi.P, m_bitsOf]
        exact ⟨_, rfl, rfl⟩
      · simp (disch := omega) only [nadn, gsn, gss, gsi, if_true, if_false, chk_in, chk_tt, bq, lq, ix_nI, jle_t, jle_f, jlt_t, jlt_f, jeq_t, jeq_f, nadd, nmul, nsub, nshl, nshl2, nor, nand, nandn, ↓kn1, K0, K1, K2, K3, K4, K5, K6, K7, K8, K9, K10, K11, K12, K13, K14, K20, K24, K25, K32, K33, K40, K41, K60, K63, K64, K100, K112, K120, K128, K129, K153, K161, K162, K163, K255, K256, K900, K903, K999, K1000, K1195, K1196, K2000, K2096, K3000, K3001, K3002, K3003, K3004, K3005, K3006, K3007, K3008, hi.P]
        exact ⟨_, rfl, rfl⟩
    · have hc := pcn_le k
      have hc2 := pcn_le u
      have hd := pcn_le (alo r x k (rP r))
      by_cases hz : pcn k ≤ pcn u
      · simp (disch := omega) only [nadn, gsn, gss, gsi, if_true, if_false, chk_in, chk_tt, bq, lq, ix_nI, jle_t, jle_f, jlt_t, jlt_f, jeq_t, jeq_f, nadd, nmul, nsub, nshl, nshl2, nor, nand, nandn, ↓kn1, K0, K1, K2, K3, K4, K5, K6, K7, K8, K9, K10, K11, K12, K13, K14, K20, K24, K25, K32, K33, K40, K41, K60, K63, K64, K100, K112, K120, K128, K129, K153, K161, K162, K163, K255, K256, K900, K903, K999, K1000, K1195, K1196, K2000, K2096, K3000, K3001, K3002, K3003, K3004, K3005, K3006, K3007, K3008, hi.P, bitc, m_bitsOf]
        exact ih (k + 1) u (by omega) (by omega) hu
      · simp (disch := omega) only [nadn, gsn, gss, gsi, if_true, if_false, chk_in, chk_tt, bq, lq, ix_nI, jle_t, jle_f, jlt_t, jlt_f, jeq_t, jeq_f, nadd, nmul, nsub, nshl, nshl2, nor, nand, nandn, ↓kn1, K0, K1, K2, K3, K4, K5, K6, K7, K8, K9, K10, K11, K12, K13, K14, K20, K24, K25, K32, K33, K40, K41, K60, K63, K64, K100, K112, K120, K128, K129, K153, K161, K162, K163, K255, K256, K900, K903, K999, K1000, K1195, K1196, K2000, K2096, K3000, K3001, K3002, K3003, K3004, K3005, K3006, K3007, K3008, hi.P, bitc, m_bitsOf, c_isHouse g h, m_sharedBy g hi]
        by_cases hy : pcn (alo r x k (rP r)) < a
        · simp (disch := omega) only [if_pos hy, jeq_t, jlt_t]
          exact ih (k + 1) u (by omega) (by omega) hu
        · simp (disch := omega) only [if_neg hy, jeq_f, jlt_f]
          exact ih (k + 1) k (by omega) (by omega) (by omega)
theorem c_isEither_t {n : Nat} (h : n < 2) (m : Mem) : X11_isEither (nI n) m = some (nI 1, m) := by
  rw [X11_isEither]
  by_cases h0 : n = 0
  · simp (disch := omega) only [nadn, gsn, gss, gsi, if_true, if_false, chk_in, chk_tt, bq, lq, ix_nI, jle_t, jle_f, jlt_t, jlt_f, jeq_t, jeq_f, nadd, nmul, nsub, nshl, nshl2, nor, nand, nandn, ↓kn1, K0, K1, K2, K3, K4, K5, K6, K7, K8, K9, K10, K11, K12, K13, K14, K20, K24, K25, K32, K33, K40, K41, K60, K63, K64, K100, K112, K120, K128, K129, K153, K161, K162, K163, K255, K256, K900, K903, K999, K1000, K1195, K1196, K2000, K2096, K3000, K3001, K3002, K3003, K3004, K3005, K3006, K3007, K3008]
  · simp (disch := omega) only [nadn, gsn, gss, gsi, if_true, if_false, chk_in, chk_tt, bq, lq, ix_nI, jle_t, jle_f, jlt_t, jlt_f, jeq_t, jeq_f, nadd, nmul, nsub, nshl, nshl2, nor, nand, nandn, ↓kn1, K0, K1, K2, K3, K4, K5, K6, K7, K8, K9, K10, K11, K12, K13, K14, K20, K24, K25, K32, K33, K40, K41, K60, K63, K64, K100, K112, K120, K128, K129, K153, K161, K162, K163, K255, K256, K900, K903, K999, K1000, K1195, K1196, K2000, K2096, K3000, K3001, K3002, K3003, K3004, K3005, K3006, K3007, K3008]
theorem c_isEither_f {a : Int32} (h : ¬ prs 2 a) (m : Mem) : X11_isEither a m = some (nI 0, m) := by
  rw [X11_isEither, K0, K1, if_neg (fun q => h ⟨0, by omega, q⟩), if_neg (fun q => h ⟨1, by omega, q⟩)]
theorem St_biggest_ok : St_biggest Rel := by
  intro k N mx mm hk ⟨s, e, ib, hw, hc, hm⟩ a b
  have g := hw.gx
  have hT := g.T; have hP := g.P
  have h3 := p2P g.P
  have h := hc.2.1
  have hi := hm.2.1.si (c := 0) (by decide) 0 (nI 0)
  have fin : Rel (k + 1) N mx (si mm 0 0 (nI 0)) := Rel.rd hk hw hc hm FX.rf FM.th
  rw [X11_biggest, X12_biggest, K0, K1, K14, lq]
  by_cases hb : prs 2 b
  · obtain ⟨j, hj, rfl⟩ := hb
    rw [c_isEither_t hj, bq, wl_t l64_0 l64_1 (l := 0) (k := 1) (by omega) (by omega) (by omega), bq, jeq_f (by omega) (by omega) (by omega), jeq_f (by omega) (by omega) (by omega)]
    by_cases ha : prs 15 a
    · obtain ⟨n, hn, rfl⟩ := ha
      obtain ⟨v, q1, q2⟩ := biggest_loop g hi h (a := n) (b := j) (by omega) hj FU 1 0 (by omega) (by unfold FU; omega) (by omega)
      rw [wl_t l64_0 l64_14 (l := 0) (by omega) (by omega) (by omega), bq, jeq_f (by omega) (by omega) (by omega), jlt_f (by omega) (by omega), jle_t (by omega) (by omega), c_everybody g h, bq]
      exact ⟨v, _, _, q1, q2, fin⟩
    · rw [wl_n l64_0 l64_14 (l := 0) ha (by omega) (by omega), bq, jeq_t rfl, out_k (by omega) ha]
      exact ⟨_, _, _, rfl, rfl, fin⟩
  · rw [c_isEither_f hb, bq, wl_n l64_0 l64_1 (l := 0) hb (by omega) (by omega), bq, jeq_t rfl, jeq_t rfl]
    exact ⟨_, _, _, rfl, rfl, fin⟩
