/-! plain: as a bureau is without a text -/
theorem m_plain3 {m : Mem} {w b : Nat} (hw : 2096 ≤ w) (hw2 : w ≤ 6288) : ∀ n k, k ≤ 8 → 8 - k < n → X12_plain_b52 w b n (nI k) (wig m b 153 k (fun _ => NO)) = some ((), wig m b 153 8 (fun _ => NO)) := by
  intro n
  induction n with
  | zero => intro k _ h; omega
  | succ n ih =>
    intro k hk hn
    rw [X12_plain_b52]
    rcases Nat.eq_or_lt_of_le hk with he | hl
    · subst he
      simp (disch := omega) only [nadn, gsn, gss, gsi, if_true, if_false, chk_in, chk_tt, bq, lq, ix_nI, jle_t, jle_f, jlt_t, jlt_f, jeq_t, jeq_f, nadd, nmul, nsub, nshl, nshl2, nor, nand, nandn, ↓kn1, K0, K1, K2, K3, K4, K5, K6, K7, K8, K9, K10, K11, K12, K13, K14, K20, K24, K25, K32, K33, K40, K41, K60, K63, K64, K100, K112, K120, K128, K129, K153, K161, K162, K163, K255, K256, K900, K903, K999, K1000, K1195, K1196, K2000, K2096, K3000, K3001, K3002, K3003, K3004, K3005, K3006, K3007, K3008]
    · have ih2 := ih (k + 1) (by omega) (by omega)
      simp (disch := omega) only [nadn, gsn, gss, gsi, if_true, if_false, chk_in, chk_tt, bq, lq, ix_nI, jle_t, jle_f, jlt_t, jlt_f, jeq_t, jeq_f, nadd, nmul, nsub, nshl, nshl2, nor, nand, nandn, ↓kn1, K0, K1, K2, K3, K4, K5, K6, K7, K8, K9, K10, K11, K12, K13, K14, K20, K24, K25, K32, K33, K40, K41, K60, K63, K64, K100, K112, K120, K128, K129, K153, K161, K162, K163, K255, K256, K900, K903, K999, K1000, K1195, K1196, K2000, K2096, K3000, K3001, K3002, K3003, K3004, K3005, K3006, K3007, K3008]
      rw [wig_s m b 153 k (fun _ => NO) _ (by omega)]
      exact ih2
theorem m_plain2 {m : Mem} {w b : Nat} (hw : 2096 ≤ w) (hw2 : w ≤ 6288) : ∀ n k, k ≤ 112 → 112 - k < n → X12_plain_b31 w b n (nI k) (wig m b 41 k (fun _ => NO)) = X12_plain_b52 w b FU (nI 0) (wig m b 41 112 (fun _ => NO)) := by
  intro n
  induction n with
  | zero => intro k _ h; omega
  | succ n ih =>
    intro k hk hn
    rw [X12_plain_b31]
    rcases Nat.eq_or_lt_of_le hk with he | hl
    · subst he
      simp (disch := omega) only [nadn, gsn, gss, gsi, if_true, if_false, chk_in, chk_tt, bq, lq, ix_nI, jle_t, jle_f, jlt_t, jlt_f, jeq_t, jeq_f, nadd, nmul, nsub, nshl, nshl2, nor, nand, nandn, ↓kn1, K0, K1, K2, K3, K4, K5, K6, K7, K8, K9, K10, K11, K12, K13, K14, K20, K24, K25, K32, K33, K40, K41, K60, K63, K64, K100, K112, K120, K128, K129, K153, K161, K162, K163, K255, K256, K900, K903, K999, K1000, K1195, K1196, K2000, K2096, K3000, K3001, K3002, K3003, K3004, K3005, K3006, K3007, K3008]
    · have ih2 := ih (k + 1) (by omega) (by omega)
      simp (disch := omega) only [nadn, gsn, gss, gsi, if_true, if_false, chk_in, chk_tt, bq, lq, ix_nI, jle_t, jle_f, jlt_t, jlt_f, jeq_t, jeq_f, nadd, nmul, nsub, nshl, nshl2, nor, nand, nandn, ↓kn1, K0, K1, K2, K3, K4, K5, K6, K7, K8, K9, K10, K11, K12, K13, K14, K20, K24, K25, K32, K33, K40, K41, K60, K63, K64, K100, K112, K120, K128, K129, K153, K161, K162, K163, K255, K256, K900, K903, K999, K1000, K1195, K1196, K2000, K2096, K3000, K3001, K3002, K3003, K3004, K3005, K3006, K3007, K3008]
      rw [wig_s m b 41 k (fun _ => NO) _ (by omega)]
      exact ih2
theorem m_plain1 {m : Mem} {w b : Nat} (hw : 2096 ≤ w) (hw2 : w ≤ 6288) : ∀ n k, k ≤ 2096 → 2096 - k < n → X12_plain_b2 w b n (nI k) (wig m b 0 k (fun _ => nI 0)) = X12_plain_b31 w b FU (nI 0) (si (si (wig m b 0 2096 (fun _ => nI 0)) b 3 (nI 10)) b 4 (nI 14)) := by
  intro n
  induction n with
  | zero => intro k _ h; omega
  | succ n ih =>
    intro k hk hn
    rw [X12_plain_b2]
    rcases Nat.eq_or_lt_of_le hk with he | hl
    · subst he
      simp (disch := omega) only [nadn, gsn, gss, gsi, if_true, if_false, chk_in, chk_tt, bq, lq, ix_nI, jle_t, jle_f, jlt_t, jlt_f, jeq_t, jeq_f, nadd, nmul, nsub, nshl, nshl2, nor, nand, nandn, ↓kn1, K0, K1, K2, K3, K4, K5, K6, K7, K8, K9, K10, K11, K12, K13, K14, K20, K24, K25, K32, K33, K40, K41, K60, K63, K64, K100, K112, K120, K128, K129, K153, K161, K162, K163, K255, K256, K900, K903, K999, K1000, K1195, K1196, K2000, K2096, K3000, K3001, K3002, K3003, K3004, K3005, K3006, K3007, K3008]
    · have ih2 := ih (k + 1) (by omega) (by omega)
      simp (disch := omega) only [nadn, gsn, gss, gsi, if_true, if_false, chk_in, chk_tt, bq, lq, ix_nI, jle_t, jle_f, jlt_t, jlt_f, jeq_t, jeq_f, nadd, nmul, nsub, nshl, nshl2, nor, nand, nandn, ↓kn1, K0, K1, K2, K3, K4, K5, K6, K7, K8, K9, K10, K11, K12, K13, K14, K20, K24, K25, K32, K33, K40, K41, K60, K63, K64, K100, K112, K120, K128, K129, K153, K161, K162, K163, K255, K256, K900, K903, K999, K1000, K1195, K1196, K2000, K2096, K3000, K3001, K3002, K3003, K3004, K3005, K3006, K3007, K3008]
      rw [wig_s m b 0 k (fun _ => nI 0) _ (by omega)]
      exact ih2
def pln (j : Nat) : Int32 := if j = 3 then nI 10 else if j = 4 then nI 14 else if 41 ≤ j ∧ j < 161 then NO else nI 0
theorem m_plain {m : Mem} {w b : Nat} (hw : 2096 ≤ w) (hw2 : w ≤ 6288) : ∃ m2, X12_plain w b m = some ((), m2) ∧ (∀ j, j < 2096 → gi m2 b j = pln j) ∧ Fr (fun c => c = b) m m2 := by
  have h1 := m_plain1 (m := m) (b := b) hw hw2 FU 0 (by omega) (by unfold FU; omega)
  have h2 := m_plain2 (m := si (si (wig m b 0 2096 (fun _ => nI 0)) b 3 (nI 10)) b 4 (nI 14)) (b := b) hw hw2 FU 0 (by omega) (by unfold FU; omega)
  have h3 := m_plain3 (m := wig (si (si (wig m b 0 2096 (fun _ => nI 0)) b 3 (nI 10)) b 4 (nI 14)) b 41 112 (fun _ => NO)) (b := b) hw hw2 FU 0 (by omega) (by unfold FU; omega)
  rw [wig_z] at h1 h2 h3
  have h4 : X12_plain w b m = some ((), wig (wig (si (si (wig m b 0 2096 (fun _ => nI 0)) b 3 (nI 10)) b 4 (nI 14)) b 41 112 (fun _ => NO)) b 153 8 (fun _ => NO)) := by rw [X12_plain, K0, h1, h2, h3]
  refine ⟨_, h4, fun j hj => ?_, fun c hc j => ⟨?_, rfl⟩⟩
  · rw [gi_wig, gi_wig, pln]
    by_cases a1 : 153 ≤ j ∧ j < 161
    · rw [if_pos (by omega), if_neg (by omega), if_neg (by omega), if_pos (by omega)]
    · rw [if_neg (by omega)]
      by_cases a2 : 41 ≤ j ∧ j < 153
      · rw [if_pos (by omega), if_neg (by omega), if_neg (by omega), if_pos (by omega)]
      · rw [if_neg (by omega)]
        by_cases a3 : j = 4
        · rw [a3, gss, if_neg (by omega), if_pos rfl]
        · rw [gsi a3]
          by_cases a4 : j = 3
          · rw [a4, gss, if_pos rfl]
          · rw [gsi a4, gi_wig, if_pos (by omega), if_neg a4, if_neg a3, if_neg (by omega)]
  · rw [gi_wig, if_neg (fun q => hc q.1), gi_wig, if_neg (fun q => hc q.1), gsn hc, gsn hc, gi_wig, if_neg (fun q => hc q.1)]
/-! the start -/
def r00 : Ru := (0, 0, 10, 14, 0, fun _ => 0, fun _ => 0, none, none)
def x00 : Lf := (fun _ => 0, fun _ => none, fun _ _ => none, 0)
def s00 : Sg := ((0, fun _ => 0), r00, x00, [], fun _ => none, fun _ => none, (nI 0, NO))
theorem wr00 : WR r00 := ⟨by decide, by decide, by decide, by decide, by decide, by decide, fun t ht => absurd ht (Nat.not_lt_zero _), fun t ht => absurd ht (Nat.not_lt_zero _), by decide, Or.inl rfl⟩
theorem wl00 {B : Nat} : WL r00 x00 B := ⟨fun p hp => absurd hp (Nat.not_lt_zero _), Nat.zero_le _, fun p t v hv => (by cases hv), fun p q hp => absurd hp (Nat.not_lt_zero _)⟩
theorem ws00 : WS s00 0 := ⟨by decide, by decide, fun i hi => absurd hi (Nat.not_lt_zero _), wr00, wl00, by decide, fun i hi => absurd hi (Nat.not_lt_zero _), fun i y _ hy => (by cases hy), fun i t _ ht => (by cases ht)⟩
def rn (a b : Nat) (c : Nat) : Prop := a ≤ c ∧ c ≤ b
theorem c_X5_i {m : Mem} {a : Nat} : ∃ m2, X5_init a m = some ((), m2) ∧ Fr (rn (a + 1) (a + 5)) m m2 := by
  rw [X5_init]
  refine ⟨_, rfl, ?_⟩
  have h2 : rn (a + 1) (a + 5) (a + 2) := by unfold rn; omega
  exact (((((((((((((nw_f (by unfold rn; omega)).tr (nw_f (by unfold rn; omega))).tr (nw_f (by unfold rn; omega))).tr (nw_f (by unfold rn; omega))).tr (nw_f (by unfold rn; omega))).tr (Fr.si h2)).tr (Fr.si h2)).tr (Fr.si h2)).tr (Fr.si h2)).tr (Fr.si h2)).tr (Fr.si h2)).tr (Fr.si h2)).tr (Fr.si h2))
theorem x11_start : ∃ mx, X11_init m00 = some ((), mx) ∧ CI s00 0 (fun _ => 0) 109 mx := by
  obtain ⟨m1, a1, b1, l1, l2, g0, g1, g2, g3, g4⟩ := c_X8_init (m := nw (nw m00 1) 2) (a := 2)
  obtain ⟨m2, a2, b2, _⟩ := c_X8_init (m := nw m1 9) (a := 9)
  obtain ⟨m3, a3, b3⟩ := c_X5_i (m := nw m2 16) (a := 16)
  have a4 : X0_init (nw m3 22) = some ((), nw (nw (nw m3 22) 23) 24) := rfl
  obtain ⟨m5, a5, b5⟩ := c_X5_i (m := nw (nw (nw (nw (nw m3 22) 23) 24) 25) 26) (a := 26)
  obtain ⟨m6, a6, b6⟩ := c_X5_i (m := nw (nw m5 32) 33) (a := 33)
  have a7 : X7_init (nw m6 39) = some ((), si (si (nw m6 39) 39 3 (nI 12)) 39 9 (-1)) := rfl
  obtain ⟨p1, c1, d1⟩ := c_X5_i (m := nw (nw (nw (si (si (nw m6 39) 39 3 (nI 12)) 39 9 (-1)) 40) 41) 42) (a := 42)
  obtain ⟨p2, c2, d2⟩ := c_X5_i (m := nw p1 48) (a := 48)
  obtain ⟨p3, c3, d3⟩ := c_X5_i (m := nw p2 54) (a := 54)
  obtain ⟨p4, c4, d4⟩ := c_X5_i (m := nw p3 60) (a := 60)
  obtain ⟨p5, c5, d5⟩ := c_X5_i (m := nw p4 66) (a := 66)
  obtain ⟨p6, c6, d6⟩ := c_X5_i (m := nw p5 72) (a := 72)
  obtain ⟨p7, c7, d7⟩ := c_X5_i (m := nw p6 78) (a := 78)
  obtain ⟨p8, c8, d8⟩ := c_X5_i (m := nw p7 84) (a := 84)
  have e : X11_init m00 = some ((), nw (nw (nw (nw (nw (nw (nw (nw (nw (nw (nw (nw (nw (nw (nw (nw (nw (nw (nw p8 90) 91) 92) 93) 94) 95) 96) 97) 98) 99) 100) 101) 102) 103) 104) 105) 106) 107) 108) := by
    rw [X11_init, a1, bq, a2, bq, a3, bq, a4, bq, X10_init, a5, bq, bq, X10_init, a6, bq, bq, a7, bq, X2_init, c1, bq, c2, bq, c3, bq, c4, bq, c5, bq, c6, bq, c7, bq, c8, bq, bq]
    rfl
  generalize hM : nw (nw (nw (nw (nw (nw (nw (nw (nw (nw (nw (nw (nw (nw (nw (nw (nw (nw (nw p8 90) 91) 92) 93) 94) 95) 96) 97) 98) 99) 100) 101) 102) 103) 104) 105) 106) 107) 108 = M at e
  have n1 : ∀ {m : Mem} {a lo hi : Nat}, lo ≤ a → a ≤ hi → Fr (rn lo hi) m (nw m a) := fun h1 h2 => nw_f ⟨h1, h2⟩
  have w : ∀ {lo hi lo2 hi2 : Nat} {m m2 : Mem}, lo2 ≤ lo → hi ≤ hi2 → Fr (rn lo hi) m m2 → Fr (rn lo2 hi2) m m2 := fun h1 h2 h => h.mono (fun c q => by unfold rn at q ⊢; omega)
  have fM : Fr (rn 90 108) p8 M := by
    rw [← hM]
    exact ((((((((((((((((((n1 (by omega) (by omega)).tr (n1 (by omega) (by omega))).tr (n1 (by omega) (by omega))).tr (n1 (by omega) (by omega))).tr (n1 (by omega) (by omega))).tr (n1 (by omega) (by omega))).tr (n1 (by omega) (by omega))).tr (n1 (by omega) (by omega))).tr (n1 (by omega) (by omega))).tr (n1 (by omega) (by omega))).tr (n1 (by omega) (by omega))).tr (n1 (by omega) (by omega))).tr (n1 (by omega) (by omega))).tr (n1 (by omega) (by omega))).tr (n1 (by omega) (by omega))).tr (n1 (by omega) (by omega))).tr (n1 (by omega) (by omega))).tr (n1 (by omega) (by omega))).tr (n1 (by omega) (by omega))
  have f8 : Fr (rn 42 89) (nw (nw (si (si (nw m6 39) 39 3 (nI 12)) 39 9 (-1)) 40) 41) p8 := by
    refine (((((((((((((((n1 (by omega) (by omega)).tr (w (by omega) (by omega) d1)).tr (n1 (by omega) (by omega))).tr (w (by omega) (by omega) d2)).tr (n1 (by omega) (by omega))).tr (w (by omega) (by omega) d3)).tr (n1 (by omega) (by omega))).tr (w (by omega) (by omega) d4)).tr (n1 (by omega) (by omega))).tr (w (by omega) (by omega) d5)).tr (n1 (by omega) (by omega))).tr (w (by omega) (by omega) d6)).tr (n1 (by omega) (by omega))).tr (w (by omega) (by omega) d7)).tr (n1 (by omega) (by omega))).tr (w (by omega) (by omega) d8)
  have f6 : Fr (rn 32 38) m5 m6 := ((n1 (by omega) (by omega)).tr (n1 (by omega) (by omega))).tr (w (by omega) (by omega) b6)
  have f1 : Fr (rn 9 25) m1 (nw (nw (nw (nw m3 22) 23) 24) 25) := by
    refine (((((((n1 (by omega) (by omega)).tr (b2.mono (fun c q => by unfold s06 at q; unfold rn; omega))).tr (n1 (by omega) (by omega))).tr (w (by omega) (by omega) b3)).tr (n1 (by omega) (by omega))).tr (n1 (by omega) (by omega))).tr (n1 (by omega) (by omega))).tr (n1 (by omega) (by omega))
  have f5 : Fr (rn 26 31) (nw (nw (nw (nw m3 22) 23) 24) 25) m5 := (n1 (by omega) (by omega)).tr (w (by omega) (by omega) b5)
  have low : ∀ c, c ≤ 8 → ∀ j, gi M c j = gi m1 c j := fun c hc j => by
    rw [(fM c (by unfold rn; omega) j).1, (f8 c (by unfold rn; omega) j).1, gnw (by omega), gnw (by omega), gsn (by omega), gsn (by omega), gnw (by omega), (f6 c (by unfold rn; omega) j).1, (f5 c (by unfold rn; omega) j).1, (f1 c (by unfold rn; omega) j).1]
  have c26 : gi M 26 0 = 0 := by
    rw [(fM 26 (by unfold rn; omega) 0).1, (f8 26 (by unfold rn; omega) 0).1, gnw (by omega), gnw (by omega), gsn (by omega), gsn (by omega), gnw (by omega), (f6 26 (by unfold rn; omega) 0).1, (b5 26 (by unfold rn; omega) 0).1, gnz]
  have c39 : ∀ j, gi M 39 j = gi (si (si (nw m6 39) 39 3 (nI 12)) 39 9 (-1)) 39 j := fun j => by
    rw [(fM 39 (by unfold rn; omega) j).1, (f8 39 (by unfold rn; omega) j).1, gnw (by omega), gnw (by omega)]
  have c40 : ∀ j, gi M 40 j = 0 := fun j => by
    rw [(fM 40 (by unfold rn; omega) j).1, (f8 40 (by unfold rn; omega) j).1, gnw (by omega), gnz]
  have c108 : ∀ j, gi M 108 j = 0 := fun j => by rw [← hM, gnz]
  have c100 : ∀ i, i < 4 → gi M (100 + 2 * i) 0 = 0 := fun i hi => by
    have : i = 0 ∨ i = 1 ∨ i = 2 ∨ i = 3 := by omega
    rw [← hM]
    rcases this with rfl | rfl | rfl | rfl
    · rw [gnw (by omega), gnw (by omega), gnw (by omega), gnw (by omega), gnw (by omega), gnw (by omega), gnw (by omega), gnw (by omega), gnz]
    · rw [gnw (by omega), gnw (by omega), gnw (by omega), gnw (by omega), gnw (by omega), gnw (by omega), gnz]
    · rw [gnw (by omega), gnw (by omega), gnw (by omega), gnw (by omega), gnz]
    · rw [gnw (by omega), gnw (by omega), gnz]
  have q1 : ∀ c j, gi m00 c j = 0 := fun c j => rfl
  have k2 : ∀ j, gi (nw (nw m00 1) 2) 2 j = 0 := fun j => gnz
  refine ⟨M, e, ⟨?_, fun i hi => absurd hi (Nat.not_lt_zero _)⟩, ⟨⟨?_, ?_, ?_, ?_, ?_, fun t ht => absurd ht (Nat.not_lt_zero _), fun t ht => absurd ht (Nat.not_lt_zero _), l1.fr (fun c h1 h2 j => low c (by omega) j), l2.fr (fun c h1 h2 j => low c (by omega) j)⟩, ⟨c26, fun p hp => absurd hp (Nat.not_lt_zero _), fun p hp => absurd hp (Nat.not_lt_zero _), fun p hp => absurd hp (Nat.not_lt_zero _), fun p hp => absurd hp (Nat.not_lt_zero _), fun p t v hp => absurd hp (Nat.not_lt_zero _)⟩⟩, ⟨by decide, c40 1, c40 2, fun i hi => absurd hi (Nat.not_lt_zero _)⟩, ⟨⟨?_, fun j _ => c108 j⟩, ?_, ?_⟩, fun i hi => c100 i hi, ⟨fun i hi => ⟨fun _ => rfl, fun h => (by cases h), show (0 : Nat) < 109 by decide⟩, fun _ => rfl, Or.inl ⟨rfl, rfl, rfl⟩⟩, fun i hi => ⟨c108 i, fun y hy => (by cases hy)⟩⟩
  · rw [low 0 (by omega), (b1 0 (by unfold s06; omega) 1).1, gnw (by omega), gnw (by omega)]; rfl
  · rw [low 2 (by omega), g0, k2]; rfl
  · rw [low 2 (by omega), g1, k2]; rfl
  · rw [low 2 (by omega), g2]; rfl
  · rw [low 2 (by omega), g3]; rfl
  · rw [low 2 (by omega), g4, k2]; rfl
  · rw [c39, gsi (by omega), gss]; decide
  · rw [c39, gsi (by omega), gsi (by omega), gnz]; rfl
  · rw [c39, gss]; rfl
theorem x12_start : ∃ mm, X12_init m00 = some ((), mm) ∧ MI s00 mm := by
  rw [X12_init]
  obtain ⟨m2, a1, a2, a3⟩ := m_plain (m := nw (nw (si (si (si (si (nw (nw (nw (nw (nw (nw (nw (nw (nw (nw (si (nw (nw (nw (nw m00 1) 2) 3) 4) 0 14 (-1)) 5) 6) 7) 8) 9) 10) 11) 12) 13) 14) 14 (ix 0) (-1)) 14 (ix 1) (-1)) 14 (ix 2) (-1)) 14 (ix 3) (-1)) 15) 16) (w := 6288) (b := 1) (by omega) (by omega)
  rw [a1, bq]
  have c0 : ∀ j, j ≠ 14 → gi m2 0 j = 0 := fun j hj => by
    rw [(a3 0 (by omega) j).1, gnw (by omega), gnw (by omega), gsn (by omega), gsn (by omega), gsn (by omega), gsn (by omega), gnw (by omega), gnw (by omega), gnw (by omega), gnw (by omega), gnw (by omega), gnw (by omega), gnw (by omega), gnw (by omega), gnw (by omega), gnw (by omega), gsi hj, gnw (by omega), gnw (by omega), gnw (by omega), gnw (by omega)]
    rfl
  have c14 : gi m2 0 14 = -1 := by
    rw [(a3 0 (by omega) 14).1, gnw (by omega), gnw (by omega), gsn (by omega), gsn (by omega), gsn (by omega), gsn (by omega), gnw (by omega), gnw (by omega), gnw (by omega), gnw (by omega), gnw (by omega), gnw (by omega), gnw (by omega), gnw (by omega), gnw (by omega), gnw (by omega), gss]
  have c2 : ∀ j, gi m2 2 j = 0 := fun j => by
    rw [(a3 2 (by omega) j).1, gnw (by omega), gnw (by omega), gsn (by omega), gsn (by omega), gsn (by omega), gsn (by omega), gnw (by omega), gnw (by omega), gnw (by omega), gnw (by omega), gnw (by omega), gnw (by omega), gnw (by omega), gnw (by omega), gnw (by omega), gnw (by omega), gsn (by omega), gnw (by omega), gnw (by omega), gnz]
  have t14 : ∀ i, i < 4 → gi m2 14 i = -1 := fun i hi => by
    have : i = 0 ∨ i = 1 ∨ i = 2 ∨ i = 3 := by omega
    rw [(a3 14 (by omega) i).1, gnw (by omega), gnw (by omega), i0, show ix 1 = 1 by decide, show ix 2 = 2 by decide, show ix 3 = 3 by decide]
    rcases this with rfl | rfl | rfl | rfl
    · rw [gsi (by omega), gsi (by omega), gsi (by omega), gss]
    · rw [gsi (by omega), gsi (by omega), gss]
    · rw [gsi (by omega), gss]
    · rw [gss]
  refine ⟨m2, rfl, ⟨c0 5 (by omega), fun i hi => absurd hi (Nat.not_lt_zero _)⟩, ⟨⟨a2 0 (by omega), a2 1 (by omega), a2 2 (by omega), a2 3 (by omega), a2 4 (by omega), fun t ht => absurd ht (Nat.not_lt_zero _), fun t ht => absurd ht (Nat.not_lt_zero _), a2 5 (by omega), a2 6 (by omega)⟩, ⟨fun p hp => absurd hp (Nat.not_lt_zero _), fun p t hp => absurd hp (Nat.not_lt_zero _), fun p hp => absurd hp (Nat.not_lt_zero _), a2 161 (by omega)⟩⟩, ⟨a2 162 (by omega), fun i hi => absurd hi (Nat.not_lt_zero _)⟩, ⟨c0 13 (by omega), c14⟩, fun i hi => t14 i hi, fun i hi => c2 i⟩
theorem start_ok : ∃ mx0 mm0 : Mem, X11_init m00 = some ((), mx0) ∧ X12_init m00 = some ((), mm0) ∧ Rel 0 109 mx0 mm0 := by
  obtain ⟨mx, a1, a2⟩ := x11_start
  obtain ⟨mm, b1, b2⟩ := x12_start
  exact ⟨mx, mm, a1, b1, s00, 0, _, ws00, a2, b2⟩
