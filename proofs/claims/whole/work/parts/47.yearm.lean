/-! a year, the reference -/
def s8 (c : Nat) : Prop := c = 8
theorem m_year_l {r : Ru} {y : Lf} {y1 y2 y3 : Int32} (g : GX r y) : ∀ n k m, k ≤ rP r → rP r - k < n → IM r y m → (∀ i, i < k → gi m 8 i = nI (ls r y i)) → ∃ m2, X12_year_b161 n y1 y2 y3 (nI k) m = X12_year_b194 FU y1 y2 y3 (nI 0) m2 ∧ IM r y m2 ∧ (∀ i, i < rP r → gi m2 8 i = nI (ls r y i)) ∧ FL s8 m m2 := by
  have hT := g.T; have hP := g.P
  intro n
  induction n with
  | zero => intro k m _ h; omega
  | succ n ih =>
    intro k m hk hn h hl8
    rw [X12_year_b161]
    rcases Nat.eq_or_lt_of_le hk with he | hl
    · subst he
      simp (disch := omega) only [nadn, gsn, gss, gsi, if_true, if_false, chk_in, chk_tt, bq, lq, ix_nI, jle_t, jle_f, jlt_t, jlt_f, jeq_t, jeq_f, nadd, nmul, nsub, nshl, nshl2, nor, nand, nandn, ↓kn1, K0, K1, K2, K3, K4, K5, K6, K7, K8, K9, K10, K11, K12, K13, K14, K20, K24, K25, K32, K33, K40, K41, K60, K63, K64, K100, K112, K120, K128, K129, K153, K161, K162, K163, K255, K256, K900, K903, K999, K1000, K1195, K1196, K2000, K2096, K3000, K3001, K3002, K3003, K3004, K3005, K3006, K3007, K3008, h.P]
      exact ⟨m, rfl, h, hl8, FL.rf⟩
    · obtain ⟨m2, f1, f2, f3, f4⟩ := ih (k + 1) (si m 8 k (nI (ls r y k))) (by omega) (by omega) (h.si (by decide) _ _) (fun i hi => by
        by_cases hik : i = k
        · subst hik; exact gss
        · rw [gsi hik]; exact hl8 i (by omega))
      refine ⟨m2, ?_, f2, f3, FL.tr (Fr.fl (Fr.si rfl) (by unfold s8; omega)) f4⟩
      rw [← f1]
      simp (disch := omega) only [nadn, gsn, gss, gsi, if_true, if_false, chk_in, chk_tt, bq, lq, ix_nI, jle_t, jle_f, jlt_t, jlt_f, jeq_t, jeq_f, nadd, nmul, nsub, nshl, nshl2, nor, nand, nandn, ↓kn1, K0, K1, K2, K3, K4, K5, K6, K7, K8, K9, K10, K11, K12, K13, K14, K20, K24, K25, K32, K33, K40, K41, K60, K63, K64, K100, K112, K120, K128, K129, K153, K161, K162, K163, K255, K256, K900, K903, K999, K1000, K1195, K1196, K2000, K2096, K3000, K3001, K3002, K3003, K3004, K3005, K3006, K3007, K3008, h.P, m_listOf g h hl]
theorem m_copies_loop {r : Ru} {z : Lf} {m : Mem} {p v u : Nat} (hT : rT r ≤ 14) (hP : rP r ≤ 8) (hv : v < 16384) (h : IM r z m) (hp : p < rP r) (hu : u < rT r) (h1 : v.testBit u = true) (h2 : ∀ t, t < u → v.testBit t = false) : ∀ n k, k ≤ u → u - k < n → X12_copiesFrom_b25 n (nI p) (nI v) (nI k) m = some ((), si m 1 (41 + 14 * p + u) (nI 0)) := by
  intro n
  induction n with
  | zero => intro k _ h; omega
  | succ n ih =>
    intro k hk hn
    rw [X12_copiesFrom_b25]
    rcases Nat.eq_or_lt_of_le hk with he | hl
    · subst he
      simp (disch := omega) only [nadn, gsn, gss, gsi, if_true, if_false, chk_in, chk_tt, bq, lq, ix_nI, jle_t, jle_f, jlt_t, jlt_f, jeq_t, jeq_f, nadd, nmul, nsub, nshl, nshl2, nor, nand, nandn, ↓kn1, K0, K1, K2, K3, K4, K5, K6, K7, K8, K9, K10, K11, K12, K13, K14, K20, K24, K25, K32, K33, K40, K41, K60, K63, K64, K100, K112, K120, K128, K129, K153, K161, K162, K163, K255, K256, K900, K903, K999, K1000, K1195, K1196, K2000, K2096, K3000, K3001, K3002, K3003, K3004, K3005, K3006, K3007, K3008, isIn_e, h1]
    · have ih2 := ih (k + 1) (by omega) (by omega)
      simp (disch := omega) only [nadn, gsn, gss, gsi, if_true, if_false, chk_in, chk_tt, bq, lq, ix_nI, jle_t, jle_f, jlt_t, jlt_f, jeq_t, jeq_f, nadd, nmul, nsub, nshl, nshl2, nor, nand, nandn, ↓kn1, K0, K1, K2, K3, K4, K5, K6, K7, K8, K9, K10, K11, K12, K13, K14, K20, K24, K25, K32, K33, K40, K41, K60, K63, K64, K100, K112, K120, K128, K129, K153, K161, K162, K163, K255, K256, K900, K903, K999, K1000, K1195, K1196, K2000, K2096, K3000, K3001, K3002, K3003, K3004, K3005, K3006, K3007, K3008, isIn_e, h2 k hl]
      exact ih2
theorem m_copiesFrom {r : Ru} {y z : Lf} {m : Mem} {p q : Nat} (g : GX r y) (h : IM r z m) (hp : p < rP r) (h8 : gi m 8 p = nI (ls r y p)) : ∃ m2, X12_copiesFrom (nI p) (nI (nd (ls r y q) (ls r y p))) m = some ((), m2) ∧ IM r (adn z p (wis r y p q)) m2 ∧ FL (fun _ => False) m m2 := by
  have hT := g.T; have hP := g.P; have hl := ls_lt g.T y p; have hl2 := ls_lt g.T y q
  have hn := nd_le (ls r y q) (ls r y p)
  have hc := pcn_le (ls r y p)
  have hr := g.rm2
  rw [X12_copiesFrom, wis]
  by_cases h0 : nd (ls r y q) (ls r y p) = 0
  · simp (disch := omega) only [nadn, gsn, gss, gsi, if_true, if_false, chk_in, chk_tt, bq, lq, ix_nI, jle_t, jle_f, jlt_t, jlt_f, jeq_t, jeq_f, nadd, nmul, nsub, nshl, nshl2, nor, nand, nandn, ↓kn1, K0, K1, K2, K3, K4, K5, K6, K7, K8, K9, K10, K11, K12, K13, K14, K20, K24, K25, K32, K33, K40, K41, K60, K63, K64, K100, K112, K120, K128, K129, K153, K161, K162, K163, K255, K256, K900, K903, K999, K1000, K1195, K1196, K2000, K2096, K3000, K3001, K3002, K3003, K3004, K3005, K3006, K3007, K3008, h0]
    refine ⟨m, rfl, ?_, FL.rf⟩
    rw [low_zero]
    split <;> exact h
  · obtain ⟨u, u1, u2, u3, u4, u5⟩ := low_ex h0 (by omega)
    have hu := nd_ls_bit hT u2
    by_cases hr2 : rroom r ≤ pcn (ls r y p)
    · simp (disch := omega) only [nadn, gsn, gss, gsi, if_true, if_false, chk_in, chk_tt, bq, lq, ix_nI, jle_t, jle_f, jlt_t, jlt_f, jeq_t, jeq_f, nadd, nmul, nsub, nshl, nshl2, nor, nand, nandn, ↓kn1, K0, K1, K2, K3, K4, K5, K6, K7, K8, K9, K10, K11, K12, K13, K14, K20, K24, K25, K32, K33, K40, K41, K60, K63, K64, K100, K112, K120, K128, K129, K153, K161, K162, K163, K255, K256, K900, K903, K999, K1000, K1195, K1196, K2000, K2096, K3000, K3001, K3002, K3003, K3004, K3005, K3006, K3007, K3008, h8, m_bitsOf, h.room]
      rw [if_pos hr2]
      exact ⟨m, rfl, h, FL.rf⟩
    · simp (disch := omega) only [nadn, gsn, gss, gsi, if_true, if_false, chk_in, chk_tt, bq, lq, ix_nI, jle_t, jle_f, jlt_t, jlt_f, jeq_t, jeq_f, nadd, nmul, nsub, nshl, nshl2, nor, nand, nandn, ↓kn1, K0, K1, K2, K3, K4, K5, K6, K7, K8, K9, K10, K11, K12, K13, K14, K20, K24, K25, K32, K33, K40, K41, K60, K63, K64, K100, K112, K120, K128, K129, K153, K161, K162, K163, K255, K256, K900, K903, K999, K1000, K1195, K1196, K2000, K2096, K3000, K3001, K3002, K3003, K3004, K3005, K3006, K3007, K3008, h8, m_bitsOf, h.room]
      rw [if_neg hr2, u4, m_copies_loop hT hP (by omega) h hp hu u2 u3 FU 0 (by omega) (by unfold FU; omega)]
      exact ⟨_, rfl, h.wst hT hP hp hu (some 0), FL.s1 (by omega) (by omega)⟩
/-- who is asked for the wish of each, as the reference has it -/
def MF (r : Ru) (x : Lf) (y1 y2 : Int32) (mf : Nat → Option Nat) : Prop := (∀ i q, i < rP r → mf i = some q → q < rP r) ∧ ((y1 = NO ∧ mf = lmt x) ∨ (¬ y1 = NO ∧ ∀ i, i < rP r → (nI i = y1 → y2 = oN (mf i)) ∧ (¬ nI i = y1 → nI i = y2 → y1 = oN (mf i)) ∧ (¬ nI i = y1 → ¬ nI i = y2 → mf i = none)))
theorem exk_n {r : Ru} {mf : Nat → Option Nat} {y : Lf} {k : Nat} : EL r (adn (exD r (fun i => decide (i < k)) mf y) k (exf r mf y k)) (exD r (fun i => decide (i < k + 1)) mf y) := by
  refine ⟨fun _ _ => by rw [lag_adn]; rfl, fun _ _ => by rw [lmt_adn]; rfl, fun i t hi _ => ?_, by rw [lyr_adn]; rfl⟩
  rw [lsn_adn, lsn_exD, lsn_exD]
  by_cases h1 : i = k
  · subst h1; simp
  · have e : (i < k + 1) = (i < k) := by apply propext; omega
    simp [h1, e]
theorem m_year_e {r : Ru} {x y : Lf} {y1 y2 y3 : Int32} {mf : Nat → Option Nat} (g : GX r y) (hxy : lmt y = lmt x) (hmf : MF r x y1 y2 mf) : ∀ n k m, k ≤ rP r → rP r - k < n → IM r (exD r (fun i => decide (i < k)) mf y) m → (∀ i, i < rP r → gi m 8 i = nI (ls r y i)) → ∃ m2, X12_year_b194 n y1 y2 y3 (nI k) m = some (y3, m2) ∧ IM r (syr (exD r al mf y) (lyr y + 1)) m2 ∧ FL (fun _ => False) m m2 := by
  have hT := g.T; have hP := g.P
  intro n
  induction n with
  | zero => intro k m _ h; omega
  | succ n ih =>
    intro k m hk hn h hl8
    rw [X12_year_b194]
    rcases Nat.eq_or_lt_of_le hk with he | hl
    · subst he
      have h2 := h.el (exD_cong (D2 := al) (fun i hi => Or.inl (by rw [decide_eq_true hi]; rfl)))
      have hy : gi m 1 161 = nI (lyr y) := h2.yr
      have h3 := h2.wyr hT hP (lyr y + 1)
      have := g.yr
      simp (disch := omega) only [nadn, gsn, gss, gsi, if_true, if_false, chk_in, chk_tt, bq, lq, ix_nI, jle_t, jle_f, jlt_t, jlt_f, jeq_t, jeq_f, nadd, nmul, nsub, nshl, nshl2, nor, nand, nandn, ↓kn1, K0, K1, K2, K3, K4, K5, K6, K7, K8, K9, K10, K11, K12, K13, K14, K20, K24, K25, K32, K33, K40, K41, K60, K63, K64, K100, K112, K120, K128, K129, K153, K161, K162, K163, K255, K256, K900, K903, K999, K1000, K1195, K1196, K2000, K2096, K3000, K3001, K3002, K3003, K3004, K3005, K3006, K3007, K3008, h.P, hy]
      exact ⟨_, rfl, h3, FL.s1 (by omega) (by omega)⟩
    · have key : ∃ m2, X12_year_b245 (X12_year_b194 n) y1 y2 y3 (nI k) (oN (mf k)) m = some (y3, m2) ∧ IM r (syr (exD r al mf y) (lyr y + 1)) m2 ∧ FL (fun _ => False) m m2 := by
        rw [X12_year_b245]
        cases hm : mf k with
        | none =>
          have e := exk_n (r := r) (mf := mf) (y := y) (k := k)
          rw [exf, hm] at e
          have ih2 := ih (k + 1) m (by omega) (by omega) (h.el e) hl8
          simp (disch := omega) only [nadn, gsn, gss, gsi, if_true, if_false, chk_in, chk_tt, bq, lq, ix_nI, jle_t, jle_f, jlt_t, jlt_f, jeq_t, jeq_f, nadd, nmul, nsub, nshl, nshl2, nor, nand, nandn, ↓kn1, K0, K1, K2, K3, K4, K5, K6, K7, K8, K9, K10, K11, K12, K13, K14, K20, K24, K25, K32, K33, K40, K41, K60, K63, K64, K100, K112, K120, K128, K129, K153, K161, K162, K163, K255, K256, K900, K903, K999, K1000, K1195, K1196, K2000, K2096, K3000, K3001, K3002, K3003, K3004, K3005, K3006, K3007, K3008, oN_none, jm_t]
          exact ih2
        | some q =>
          have hq := hmf.1 k q hl hm
          have e := exk_n (r := r) (mf := mf) (y := y) (k := k)
          rw [exf, hm] at e
          obtain ⟨m1, e1, e2, e3⟩ := m_copiesFrom (q := q) g h hl (hl8 k hl)
          obtain ⟨m2, f1, f2, f3⟩ := ih (k + 1) m1 (by omega) (by omega) (e2.el e) (fun i hi => by rw [(e3.1 8 (fun q => q) (by decide) i).1]; exact hl8 i hi)
          refine ⟨m2, ?_, f2, e3.tr f3⟩
          rw [← f1]
          simp (disch := omega) only [nadn, gsn, gss, gsi, if_true, if_false, chk_in, chk_tt, bq, lq, ix_nI, jle_t, jle_f, jlt_t, jlt_f, jeq_t, jeq_f, nadd, nmul, nsub, nshl, nshl2, nor, nand, nandn, ↓kn1, K0, K1, K2, K3, K4, K5, K6, K7, K8, K9, K10, K11, K12, K13, K14, K20, K24, K25, K32, K33, K40, K41, K60, K63, K64, K100, K112, K120, K128, K129, K153, K161, K162, K163, K255, K256, K900, K903, K999, K1000, K1195, K1196, K2000, K2096, K3000, K3001, K3002, K3003, K3004, K3005, K3006, K3007, K3008, oN_some, jm_f, hl8 k hl, hl8 q hq, e1]
      simp (disch := omega) only [nadn, gsn, gss, gsi, if_true, if_false, chk_in, chk_tt, bq, lq, ix_nI, jle_t, jle_f, jlt_t, jlt_f, jeq_t, jeq_f, nadd, nmul, nsub, nshl, nshl2, nor, nand, nandn, ↓kn1, K0, K1, K2, K3, K4, K5, K6, K7, K8, K9, K10, K11, K12, K13, K14, K20, K24, K25, K32, K33, K40, K41, K60, K63, K64, K100, K112, K120, K128, K129, K153, K161, K162, K163, K255, K256, K900, K903, K999, K1000, K1195, K1196, K2000, K2096, K3000, K3001, K3002, K3003, K3004, K3005, K3006, K3007, K3008, h.P]
      obtain ⟨_, hmf⟩ := hmf
      rcases hmf with ⟨h1, h2⟩ | ⟨h1, h2⟩
      · rw [if_pos h1]
        have hm : gi m 1 (153 + k) = oN (mf k) := by rw [h2, ← hxy]; exact h.wed hl
        rw [hm]
        exact key
      · rw [if_neg h1]
        obtain ⟨a1, a2, a3⟩ := h2 k hl
        by_cases b1 : nI k = y1
        · rw [if_pos b1, a1 b1]
          rw [a1 b1] at key
          exact key
        · rw [if_neg b1]
          by_cases b2 : nI k = y2
          · rw [if_pos b2]
            have a2 := a2 b1 b2
            rw [← a2] at key
            exact key
          · rw [if_neg b2]
            rw [a3 b1 b2, oN_none] at key
            exact key
theorem m_year {r : Ru} {x : Lf} {m : Mem} {B : Nat} {y1 y2 : Int32} {S : Nat → Bool} {mf : Nat → Option Nat} (g : GX r x) (hB : WL r x B) (hb : B + 1 ≤ 900000) (hS : ∀ i, i < rP r → (S i = true ↔ (y1 = NO ∨ nI i = y1 ∨ nI i = y2))) (hmf : MF r x y1 y2 mf) (h : IM r x m) : ∃ m2, X12_year y1 y2 m = some (nI (wns r S x (rP r)), m2) ∧ IM r (syr (exD r al mf (grw r al S x)) (lyr x + 1)) m2 ∧ FL s8 m m2 := by
  have hP := g.P
  have gy : GX r (grw r al S x) := g.mk (hB.xw _ _) hb
  obtain ⟨m1, e1, e2, e3⟩ := m_grow g (fun i t v hv => by have := hB.2.2.1 i t v hv; omega) hS FU 0 m (by omega) (by unfold FU; omega) (h.el grk_z)
  have e2 := e2.el grk_e
  obtain ⟨m2, f1, f2, f3, f4⟩ := m_year_l (y1 := y1) (y2 := y2) (y3 := nI (wns r S x (rP r))) gy FU 0 m1 (by omega) (by unfold FU; omega) e2 (fun i hi => by omega)
  obtain ⟨m3, g1, g2, g3⟩ := m_year_e (y3 := nI (wns r S x (rP r))) gy (x := x) rfl hmf FU 0 m2 (by omega) (by unfold FU; omega) (f2.el (exD_no.tr (exD_cong (fun i hi => Or.inl (by simp))))) f3
  exact ⟨m3, (e1.trans f1).trans g1, g2, ((e3.mono (fun c q => q.elim)).tr f4).tr (g3.mono (fun c q => q.elim))⟩
theorem m_yrf {r : Ru} {x : Lf} {m : Mem} {B : Nat} {y2 : Int32} (g : GX r x) (hB : WL r x B) (hb : B + 1 ≤ 900000) (h : IM r x m) : ∃ m2, X12_year NO y2 m = some (nI (wns r al x (rP r)), m2) ∧ IM r (yrf r x) m2 ∧ FL s8 m m2 :=
  m_year g hB hb (fun i _ => ⟨fun _ => Or.inl rfl, fun _ => rfl⟩) ⟨fun i q hi hq => (g.mt hi hq).1, Or.inl ⟨rfl, rfl⟩⟩ h
def pq2 (p q i : Nat) : Bool := decide (i = p) || decide (i = q)
def tp (p q i : Nat) : Option Nat := if i = p then some q else if i = q then some p else none
/-- a year of two, as the reference reckons it (all are older) -/
def yr2 (r : Ru) (A : Nat → Bool) (p q : Nat) (x : Lf) : Lf := syr (exD r al (tp p q) (grw r A (pq2 p q) x)) (lyr x + 1)
theorem WL.x2 {r : Ru} {x : Lf} {B : Nat} (h : WL r x B) (A : Nat → Bool) (p q : Nat) : WL r (yr2 r A p q x) (B + 1) := ((h.xw _ _).xe _ _).xy (by have := h.2.1; omega)
theorem m_yr2 {r : Ru} {x : Lf} {m : Mem} {B p q : Nat} (g : GX r x) (hB : WL r x B) (hb : B + 1 ≤ 900000) (hp : p < rP r) (hq : q < rP r) (hn : p ≠ q) (h : IM r x m) : ∃ m2 w, X12_year (nI p) (nI q) m = some (w, m2) ∧ IM r (yr2 r al p q x) m2 ∧ FL s8 m m2 := by
  have hP := g.P
  have hS : ∀ i, i < rP r → (pq2 p q i = true ↔ (nI p = NO ∨ nI i = nI p ∨ nI i = nI q)) := fun i hi => by
    rw [pq2]
    simp only [Bool.or_eq_true, decide_eq_true_eq]
    constructor
    · intro e
      rcases e with e | e
      · exact Or.inr (Or.inl (by rw [e]))
      · exact Or.inr (Or.inr (by rw [e]))
    · intro e
      rcases e with e | e | e
      · exact absurd e (nI_ne_m1 (by omega))
      · exact Or.inl (nI_inj (by omega) (by omega) e)
      · exact Or.inr (nI_inj (by omega) (by omega) e)
  have h1 : ∀ i u, i < rP r → tp p q i = some u → u < rP r := fun i u hi hu => by
    rw [tp] at hu
    split at hu
    · injection hu with hu; omega
    · split at hu
      · injection hu with hu; omega
      · cases hu
  have h2 : ∀ i, i < rP r → (nI i = nI p → nI q = oN (tp p q i)) ∧ (¬ nI i = nI p → nI i = nI q → nI p = oN (tp p q i)) ∧ (¬ nI i = nI p → ¬ nI i = nI q → tp p q i = none) := fun i hi => by
    refine ⟨fun e => ?_, fun e f => ?_, fun e f => ?_⟩
    · have := nI_inj (by omega) (by omega) e
      rw [tp, if_pos this]; rfl
    · have := nI_inj (by omega) (by omega) f
      rw [tp, if_neg (fun e2 => e (by rw [e2])), if_pos this]; rfl
    · rw [tp, if_neg (fun e2 => e (by rw [e2])), if_neg (fun e2 => f (by rw [e2]))]
  obtain ⟨m2, e1, e2, e3⟩ := m_year (y1 := nI p) (y2 := nI q) (S := pq2 p q) (mf := tp p q) g hB hb hS ⟨h1, Or.inr ⟨nI_ne_m1 (by omega), h2⟩⟩ h
  exact ⟨m2, _, e1, e2, e3⟩
/-! years of two, of one and whom it is wed to: the class -/
theorem c_yr2 {r : Ru} {x : Lf} {m : Mem} {a B p q : Nat} (ha : 25 ≤ a) (g : GX r x) (hB : WL r x B) (hb : B + 2 ≤ 900000) (hp : p < rP r) (hq : q < rP r) (hn : p ≠ q) (h : IC r x m a) : ∃ m2, X10_passYearOfTwo a (nI p) (nI q) m = some ((), m2) ∧ IC r (yr2 r (pq2 p q) p q x) m2 a ∧ Fr (s16 a) m m2 := by
  have hP := g.P
  obtain ⟨m1, e1, e2, e3⟩ := c_growOlder ha g h hp
  have g1 : GX r (grw r (one p) (one p) x) := g.mk (hB.xw _ _) (by omega)
  obtain ⟨m2, f1, f2, f3⟩ := c_growOlder ha g1 e2 hq
  have ee : EL r (grw r (one q) (one q) (grw r (one p) (one p) x)) (grw r (pq2 p q) (pq2 p q) x) := by
    refine ⟨fun i _ => ?_, fun _ _ => rfl, fun i t _ _ => ?_, rfl⟩
    · rw [lag_grw, lag_grw, lag_grw]
      by_cases h1 : i = p
      · subst h1; simp [one, pq2, hn]
      · by_cases h2 : i = q
        · subst h2; simp [one, pq2, h1]
        · simp [one, pq2, h1, h2]
    · rw [lsn_grw, lsn_grw, lsn_grw]
      by_cases h1 : i = p
      · subst h1; simp [one, pq2, hn]
      · by_cases h2 : i = q
        · subst h2; simp [one, pq2, h1]
        · simp [one, pq2, h1, h2]
  have w2 : WL r (grw r (pq2 p q) (pq2 p q) x) (B + 1) := hB.xw _ _
  have g2 : GX r (exD r (fun _ => false) (tp p q) (grw r (pq2 p q) (pq2 p q) x)) := g.mk (w2.xe _ _) (by omega)
  obtain ⟨m3, h1, h2, h3⟩ := c_exchange ha g2 ((f2.el ee).el exD_no) hp hq (g.mk ((w2.xe _ _).xa _ _) (by omega))
  have h2 := h2.el (exD_two (D2 := al) hn (by rw [tp, if_pos rfl]) (by rw [tp, if_neg (Ne.symm hn), if_pos rfl]) rfl rfl rfl rfl (fun i _ i1 i2 => Or.inr (by rw [exf, tp, if_neg i1, if_neg i2])))
  have hy : gi m3 (a + 1) 0 = nI (lyr x) := h2.yr
  have hyr := g.yr
  refine ⟨si m3 (a + 1) 0 (nI (lyr x + 1)), ?_, h2.wyr ha _, (((e3.tr f3).tr (h3.mono (fun c => s46_16))).tr (Fr.si (by unfold s16; omega)))⟩
  rw [X10_passYearOfTwo, e1, bq, f1, bq, h1, bq]
  simp (disch := omega) only [nadn, gsn, gss, gsi, if_true, if_false, chk_in, chk_tt, bq, lq, ix_nI, jle_t, jle_f, jlt_t, jlt_f, jeq_t, jeq_f, nadd, nmul, nsub, nshl, nshl2, nor, nand, nandn, ↓kn1, K0, K1, K2, K3, K4, K5, K6, K7, K8, K9, K10, K11, K12, K13, K14, K20, K24, K25, K32, K33, K40, K41, K60, K63, K64, K100, K112, K120, K128, K129, K153, K161, K162, K163, K255, K256, K900, K903, K999, K1000, K1195, K1196, K2000, K2096, K3000, K3001, K3002, K3003, K3004, K3005, K3006, K3007, K3008, hy]
