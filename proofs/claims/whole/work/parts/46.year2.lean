/-! a year, the class -/
theorem c_grow_loop {r : Ru} {x : Lf} {a p : Nat} (ha : 25 ≤ a) (hT : rT r ≤ 14) (hP : rP r ≤ 8) (hp : p < rP r) (hs : ∀ i t v, lsn x i t = some v → v ≤ 900000) (hw : ∀ t, t < rT r → rwan r t ≤ 99) : ∀ n k m, k ≤ rT r → rT r - k < n → IC r (mid r x p k) m a → ∃ m2, X10_growOlder_b17 a n (nI p) (nI (ct (fun t => wnd r t (lsn x p t)) k)) (nI k) m = some (nI (ct (fun t => wnd r t (lsn x p t)) (rT r)), m2) ∧ IC r (mid r x p (rT r)) m2 a ∧ Fr (s46 a) m m2 := by
  intro n
  induction n with
  | zero => intro k m _ h; omega
  | succ n ih =>
    intro k m hk hn h
    rw [X10_growOlder_b17]
    rcases Nat.eq_or_lt_of_le hk with he | hl
    · subst he
      simp (disch := omega) only [nadn, gsn, gss, gsi, if_true, if_false, chk_in, chk_tt, bq, lq, ix_nI, jle_t, jle_f, jlt_t, jlt_f, jeq_t, jeq_f, nadd, nmul, nsub, nshl, nshl2, nor, nand, nandn, ↓kn1, K0, K1, K2, K3, K4, K5, K6, K7, K8, K9, K10, K11, K12, K13, K14, K20, K24, K25, K32, K33, K40, K41, K60, K63, K64, K100, K112, K120, K128, K129, K153, K161, K162, K163, K255, K256, K900, K903, K999, K1000, K1195, K1196, K2000, K2096, K3000, K3001, K3002, K3003, K3004, K3005, K3006, K3007, K3008, h.T]
      exact ⟨m, rfl, h, Fr.rf⟩
    · have e := c_hs hT hP h hp (show k < 14 by omega)
      rw [has, lsn_midk] at e
      simp (disch := omega) only [nadn, gsn, gss, gsi, if_true, if_false, chk_in, chk_tt, bq, lq, ix_nI, jle_t, jle_f, jlt_t, jlt_f, jeq_t, jeq_f, nadd, nmul, nsub, nshl, nshl2, nor, nand, nandn, ↓kn1, K0, K1, K2, K3, K4, K5, K6, K7, K8, K9, K10, K11, K12, K13, K14, K20, K24, K25, K32, K33, K40, K41, K60, K63, K64, K100, K112, K120, K128, K129, K153, K161, K162, K163, K255, K256, K900, K903, K999, K1000, K1195, K1196, K2000, K2096, K3000, K3001, K3002, K3003, K3004, K3005, K3006, K3007, K3008, h.T, e]
      cases hx : lsn x p k with
      | none =>
        have ih2 := ih (k + 1) m (by omega) (by omega) (h.el (mid_none hx))
        rw [ct, hx] at ih2
        simpa [wnd] using ih2
      | some v =>
        have hv := hs _ _ _ hx
        have hh := h.held hp hl (lsn_midk.trans hx)
        have h5 := h.whd ha hT hp hl (lsn_midk.trans hx) (v + 1)
        have hwk := h.wan hl
        have hw9 := hw k hl
        have e0 : (decide (k < rT r) && (some v).isSome) = true := by simp [hl]
        simp (disch := omega) only [e0, if_true, jeq_f, hh, hwk, chk_in, nadd, ix_nI, lq, gss]
        have e46 : Fr (s46 a) m (si m (a + 1 + 5) (p * 14 + k) (nI (v + 1))) := Fr.si (by unfold s46; omega)
        by_cases h0 : rwan r k = 0
        · have ih2 := ih (k + 1) _ (by omega) (by omega) (h5.el (mid_st (fun i t hb => by rw [lsn_st, if_neg hb]) rfl rfl rfl (o := some (v + 1)) (by rw [lsn_st, if_pos ⟨rfl, rfl⟩]) (by rw [hx, gwo, if_neg (by omega)])))
          rw [ct, hx, wnd, decide_eq_false (by omega)] at ih2
          obtain ⟨m2, e1, e2, e3⟩ := ih2
          refine ⟨m2, ?_, e2, e46.tr e3⟩
          rw [← e1]
          simp (disch := omega) only [h0, jle_t]
          rfl
        · by_cases h1 : rwan r k ≤ v + 1
          · obtain ⟨m6, d1, d2, d3⟩ := c_drop ha hT hP h5 hp hl
            have ih2 := ih (k + 1) _ (by omega) (by omega) (d2.el (mid_st (fun i t hb => by rw [lsn_st, if_neg hb, lsn_st, if_neg hb]) rfl rfl rfl (o := none) (by rw [lsn_st, if_pos ⟨rfl, rfl⟩]) (by rw [hx, gwo, if_pos (by omega)])))
            rw [ct, hx, wnd, decide_eq_true (by omega)] at ih2
            obtain ⟨m2, e1, e2, e3⟩ := ih2
            refine ⟨m2, ?_, e2, (e46.tr d3).tr e3⟩
            rw [← e1]
            simp (disch := omega) only [jle_f, jlt_f, d1, bq]
            rfl
          · have ih2 := ih (k + 1) _ (by omega) (by omega) (h5.el (mid_st (fun i t hb => by rw [lsn_st, if_neg hb]) rfl rfl rfl (o := some (v + 1)) (by rw [lsn_st, if_pos ⟨rfl, rfl⟩]) (by rw [hx, gwo, if_neg (by omega)])))
            rw [ct, hx, wnd, decide_eq_false (by omega)] at ih2
            obtain ⟨m2, e1, e2, e3⟩ := ih2
            refine ⟨m2, ?_, e2, e46.tr e3⟩
            rw [← e1]
            simp (disch := omega) only [jle_f, jlt_t]
            rfl
/-- all cells of a life -/
def s16 (a c : Nat) : Prop := a + 1 ≤ c ∧ c ≤ a + 6
theorem s46_16 {a c : Nat} (h : s46 a c) : s16 a c := by unfold s46 at h; unfold s16; omega
def one (p i : Nat) : Bool := decide (i = p)
theorem c_growOlder {r : Ru} {x : Lf} {m : Mem} {a p : Nat} (ha : 25 ≤ a) (g : GX r x) (h : IC r x m a) (hp : p < rP r) : ∃ m2, X10_growOlder a (nI p) m = some (nI (ct (fun t => wnd r t (lsn x p t)) (rT r)), m2) ∧ IC r (grw r (one p) (one p) x) m2 a ∧ Fr (s16 a) m m2 := by
  have hP := g.P; have hag := g.age hp
  rw [X10_growOlder]
  simp (disch := omega) only [nadn, gsn, gss, gsi, if_true, if_false, chk_in, chk_tt, bq, lq, ix_nI, jle_t, jle_f, jlt_t, jlt_f, jeq_t, jeq_f, nadd, nmul, nsub, nshl, nshl2, nor, nand, nandn, ↓kn1, K0, K1, K2, K3, K4, K5, K6, K7, K8, K9, K10, K11, K12, K13, K14, K20, K24, K25, K32, K33, K40, K41, K60, K63, K64, K100, K112, K120, K128, K129, K153, K161, K162, K163, K255, K256, K900, K903, K999, K1000, K1195, K1196, K2000, K2096, K3000, K3001, K3002, K3003, K3004, K3005, K3006, K3007, K3008, h.age hp]
  have h8 := h.wag ha (p := p) (lag x p + 1)
  obtain ⟨m2, e1, e2, e3⟩ := c_grow_loop (x := sag x p (lag x p + 1)) ha g.T g.P hp (fun i t v hv => g.sn hv) (fun t ht => g.wan ht) FU 0 _ (by omega) (by have := g.T; unfold FU; omega) (h8.el mid_z)
  refine ⟨m2, e1, e2.el ⟨fun i _ => ?_, fun _ _ => rfl, fun i t _ ht => ?_, rfl⟩, (Fr.si (by unfold s16; omega)).tr (e3.mono (fun c => s46_16))⟩
  · show (if i = p then lag x p + 1 else lag x i) = (if one p i = true then lag x i + 1 else lag x i)
    by_cases hi : i = p
    · subst hi; simp [one]
    · simp [one, hi]
  · rw [lsn_mid, lsn_grw]
    show (if i = p ∧ t < rT r then gwo r t (lsn x i t) else lsn x i t) = _
    by_cases hi : i = p
    · subst hi; simp [one, ht]
    · simp [one, hi]
theorem exD_cong {r : Ru} {D D2 : Nat → Bool} {mf : Nat → Option Nat} {y : Lf} (h : ∀ i, i < rP r → D i = D2 i ∨ exf r mf y i = none) : EL r (exD r D mf y) (exD r D2 mf y) := ⟨fun _ _ => rfl, fun _ _ => rfl, fun i t hi _ => by
  rw [lsn_exD, lsn_exD]
  rcases h i hi with e | e
  · rw [e]
  · rw [e, if_neg (fun q => by cases q.2), if_neg (fun q => by cases q.2)], rfl⟩
theorem exD_no {r : Ru} {mf : Nat → Option Nat} {y : Lf} : EL r y (exD r (fun _ => false) mf y) := ⟨fun _ _ => rfl, fun _ _ => rfl, fun i t _ _ => by rw [lsn_exD, if_neg (fun q => Bool.noConfusion q.1)], rfl⟩
theorem lsn_adn (x : Lf) (p : Nat) (o : Option Nat) (i t : Nat) : lsn (adn x p o) i t = if i = p ∧ o = some t then some 0 else lsn x i t := by
  cases o with
  | none => rw [if_neg (fun q => by cases q.2)]; rfl
  | some u =>
    show (if i = p ∧ t = u then some 0 else lsn x i t) = _
    by_cases h : i = p ∧ t = u
    · rw [if_pos h, if_pos ⟨h.1, by rw [h.2]⟩]
    · rw [if_neg h, if_neg (fun q => h ⟨q.1, by injection q.2 with e; exact e.symm⟩)]
theorem lag_adn (x : Lf) (p : Nat) (o : Option Nat) : lag (adn x p o) = lag x := by cases o <;> rfl
theorem lmt_adn (x : Lf) (p : Nat) (o : Option Nat) : lmt (adn x p o) = lmt x := by cases o <;> rfl
theorem lyr_adn (x : Lf) (p : Nat) (o : Option Nat) : lyr (adn x p o) = lyr x := by cases o <;> rfl
theorem exD_two {r : Ru} {D D2 : Nat → Bool} {mf : Nat → Option Nat} {y : Lf} {p q : Nat} (hpq : p ≠ q) (hp : mf p = some q) (hq : mf q = some p) (d1 : D p = false) (d2 : D q = false) (d3 : D2 p = true) (d4 : D2 q = true) (h : ∀ i, i < rP r → i ≠ p → i ≠ q → D i = D2 i ∨ exf r mf y i = none) : EL r (adn (adn (exD r D mf y) p (wis r (exD r D mf y) p q)) q (wis r (exD r D mf y) q p)) (exD r D2 mf y) := by
  have l1 : ls r (exD r D mf y) p = ls r y p := exD_ls d1
  have l2 : ls r (exD r D mf y) q = ls r y q := exD_ls d2
  rw [wis_cong l1 l2, wis_cong l2 l1]
  have f1 : exf r mf y p = wis r y p q := by rw [exf, hp]
  have f2 : exf r mf y q = wis r y q p := by rw [exf, hq]
  refine ⟨fun _ _ => by rw [lag_adn, lag_adn]; rfl, fun _ _ => by rw [lmt_adn, lmt_adn]; rfl, fun i t hi _ => ?_, by rw [lyr_adn, lyr_adn]; rfl⟩
  rw [lsn_adn, lsn_adn, lsn_exD, lsn_exD]
  by_cases h1 : i = p
  · subst h1
    rw [if_neg (fun e => hpq e.1), d1, d3, f1]
    simp
  · by_cases h2 : i = q
    · subst h2
      rw [d2, d4, f2]
      simp [h1]
    · rw [if_neg (fun e => h2 e.1), if_neg (fun e => h1 e.1)]
      rcases h i hi h1 h2 with e | e
      · rw [e]
      · rw [e, if_neg (fun q => by cases q.2), if_neg (fun q => by cases q.2)]
theorem GX.mk {r : Ru} {x y : Lf} {B : Nat} (g : GX r x) (h : WL r y B) (hb : B ≤ 900000) : GX r y := ⟨g.1, h.mono hb⟩
theorem grk_e {r : Ru} {S : Nat → Bool} {x : Lf} {A : Nat → Bool} : EL r (grk r A S x (rP r)) (grw r A S x) := ⟨fun p hp => by rw [grk_lag, lag_grw, decide_eq_true hp, Bool.true_and], fun _ _ => rfl, fun p t hp _ => by rw [grk_lsn, lsn_grw, decide_eq_true hp, Bool.true_and], rfl⟩
theorem grk_n {r : Ru} {x : Lf} {k : Nat} : EL r (grw r (one k) (one k) (grk r al al x k)) (grk r al al x (k + 1)) := by
  refine ⟨fun p _ => ?_, fun _ _ => rfl, fun p t _ _ => ?_, rfl⟩
  · rw [lag_grw, grk_lag, grk_lag]
    by_cases h : p = k
    · subst h; simp [one, al]
    · have : (p < k + 1) = (p < k) := by apply propext; omega
      simp [one, h, this]
  · rw [lsn_grw, grk_lsn, grk_lsn]
    by_cases h : p = k
    · subst h; simp [one, al]
    · have : (p < k + 1) = (p < k) := by apply propext; omega
      simp [one, h, this]
theorem c_year_a {r : Ru} {x : Lf} {a B : Nat} (ha : 25 ≤ a) (g : GX r x) (hB : WL r x B) (hb : B + 1 ≤ 900000) : ∀ n k m, k ≤ rP r → rP r - k < n → IC r (grk r al al x k) m a → ∃ m2, X10_passYear_b4 a n (nI (wns r al x k)) (nI k) m = X10_passYear_b31 a FU (nI (wns r al x (rP r))) (nI 0) m2 ∧ IC r (grw r al al x) m2 a ∧ Fr (s16 a) m m2 := by
  have hT := g.T; have hP := g.P
  intro n
  induction n with
  | zero => intro k m _ h; omega
  | succ n ih =>
    intro k m hk hn h
    rw [X10_passYear_b4]
    rcases Nat.eq_or_lt_of_le hk with he | hl
    · subst he
      simp (disch := omega) only [nadn, gsn, gss, gsi, if_true, if_false, chk_in, chk_tt, bq, lq, ix_nI, jle_t, jle_f, jlt_t, jlt_f, jeq_t, jeq_f, nadd, nmul, nsub, nshl, nshl2, nor, nand, nandn, ↓kn1, K0, K1, K2, K3, K4, K5, K6, K7, K8, K9, K10, K11, K12, K13, K14, K20, K24, K25, K32, K33, K40, K41, K60, K63, K64, K100, K112, K120, K128, K129, K153, K161, K162, K163, K255, K256, K900, K903, K999, K1000, K1195, K1196, K2000, K2096, K3000, K3001, K3002, K3003, K3004, K3005, K3006, K3007, K3008, h.P]
      exact ⟨m, rfl, h.el grk_e, Fr.rf⟩
    · have gk : GX r (grk r al al x k) := g.mk (hB.xw _ _) hb
      obtain ⟨m1, e1, e2, e3⟩ := c_growOlder ha gk h hl
      obtain ⟨m2, f1, f2, f3⟩ := ih (k + 1) m1 (by omega) (by omega) (e2.el grk_n)
      refine ⟨m2, ?_, f2, e3.tr f3⟩
      have e4 : ct (fun t => wnd r t (lsn (grk r al al x k) k t)) (rT r) = ct (fun t => wnd r t (lsn x k t)) (rT r) := ct_cong (fun t _ => by
        rw [grk_lsn, show (decide (k < k) && al k) = false by simp, if_neg (by decide)])
      rw [e4] at e1
      rw [← f1, wns_s rfl]
      simp (disch := omega) only [nadn, gsn, gss, gsi, if_true, if_false, chk_in, chk_tt, bq, lq, ix_nI, jle_t, jle_f, jlt_t, jlt_f, jeq_t, jeq_f, nadd, nmul, nsub, nshl, nshl2, nor, nand, nandn, ↓kn1, K0, K1, K2, K3, K4, K5, K6, K7, K8, K9, K10, K11, K12, K13, K14, K20, K24, K25, K32, K33, K40, K41, K60, K63, K64, K100, K112, K120, K128, K129, K153, K161, K162, K163, K255, K256, K900, K903, K999, K1000, K1195, K1196, K2000, K2096, K3000, K3001, K3002, K3003, K3004, K3005, K3006, K3007, K3008, h.P, e1]
/-- whose exchange is done -/
def dn (x : Lf) (k i : Nat) : Bool := decide (i < k) || (match lmt x i with
  | none => false
  | some q => decide (q < k))
theorem c_year_b {r : Ru} {x y : Lf} {a w : Nat} (ha : 25 ≤ a) (g : GX r y) (hxy : lmt y = lmt x) : ∀ n k m, k ≤ rP r → rP r - k < n → IC r (exD r (dn x k) (lmt x) y) m a → ∃ m2, X10_passYear_b31 a n (nI w) (nI k) m = some (nI w, m2) ∧ IC r (syr (exD r al (lmt x) y) (lyr y + 1)) m2 a ∧ Fr (s16 a) m m2 := by
  have hT := g.T; have hP := g.P
  have hmt : ∀ {p q : Nat}, p < rP r → lmt x p = some q → q < rP r ∧ q ≠ p ∧ lmt x q = some p := fun hp hq => by
    rw [← hxy] at hq ⊢
    exact g.mt hp hq
  intro n
  induction n with
  | zero => intro k m _ h; omega
  | succ n ih =>
    intro k m hk hn h
    have gz : GX r (exD r (dn x k) (lmt x) y) := g.mk (g.2.xe _ _) (Nat.le_refl _)
    rw [X10_passYear_b31]
    rcases Nat.eq_or_lt_of_le hk with he | hl
    · subst he
      have h2 := h.el (exD_cong (D2 := al) (fun i hi => Or.inl (by rw [dn, decide_eq_true hi]; rfl)))
      have hy : gi m (a + 1) 0 = nI (lyr y) := h2.yr
      have h3 := h2.wyr ha (lyr y + 1)
      have := g.yr
      simp (disch := omega) only [nadn, gsn, gss, gsi, if_true, if_false, chk_in, chk_tt, bq, lq, ix_nI, jle_t, jle_f, jlt_t, jlt_f, jeq_t, jeq_f, nadd, nmul, nsub, nshl, nshl2, nor, nand, nandn, ↓kn1, K0, K1, K2, K3, K4, K5, K6, K7, K8, K9, K10, K11, K12, K13, K14, K20, K24, K25, K32, K33, K40, K41, K60, K63, K64, K100, K112, K120, K128, K129, K153, K161, K162, K163, K255, K256, K900, K903, K999, K1000, K1195, K1196, K2000, K2096, K3000, K3001, K3002, K3003, K3004, K3005, K3006, K3007, K3008, h.P, hy]
      exact ⟨_, rfl, h3, Fr.si (by unfold s16; omega)⟩
    · have hm : gi m (a + 1 + 2) k = oN (lmt x k) := by rw [← hxy]; exact h.mate hl
      cases hx : lmt x k with
      | none =>
        rw [hx] at hm
        have hD : ∀ i, i < rP r → dn x k i = dn x (k + 1) i ∨ exf r (lmt x) y i = none := fun i hi => by
          by_cases hik : i = k
          · subst hik
            exact Or.inr (by rw [exf, hx])
          · left
            rw [dn, dn]
            have e : (i < k + 1) = (i < k) := by apply propext; omega
            cases hi2 : lmt x i with
            | none => simp [e]
            | some q =>
              have hq : q ≠ k := fun hq => by
                have := (hmt hi hi2).2.2
                rw [hq, hx] at this
                cases this
              have e2 : (q < k + 1) = (q < k) := by apply propext; omega
              simp [e, e2]
        obtain ⟨m2, f1, f2, f3⟩ := ih (k + 1) m (by omega) (by omega) (h.el (exD_cong hD))
        refine ⟨m2, ?_, f2, f3⟩
        rw [← f1]
        simp (disch := omega) only [nadn, gsn, gss, gsi, if_true, if_false, chk_in, chk_tt, bq, lq, ix_nI, jle_t, jle_f, jlt_t, jlt_f, jeq_t, jeq_f, nadd, nmul, nsub, nshl, nshl2, nor, nand, nandn, ↓kn1, K0, K1, K2, K3, K4, K5, K6, K7, K8, K9, K10, K11, K12, K13, K14, K20, K24, K25, K32, K33, K40, K41, K60, K63, K64, K100, K112, K120, K128, K129, K153, K161, K162, K163, K255, K256, K900, K903, K999, K1000, K1195, K1196, K2000, K2096, K3000, K3001, K3002, K3003, K3004, K3005, K3006, K3007, K3008, h.P, hm, oN_none, jml_t]
      | some q =>
        rw [hx] at hm
        have hq := hmt hl hx
        have dcase : ∀ i, i < rP r → i ≠ k → i ≠ q → dn x k i = dn x (k + 1) i := fun i hi h1 h2 => by
          rw [dn, dn]
          have e : (i < k + 1) = (i < k) := by apply propext; omega
          cases hi2 : lmt x i with
          | none => simp [e]
          | some u =>
            have hu : u ≠ k := fun hu => by
              have := (hmt hi hi2).2.2
              rw [hu, hx] at this
              injection this with this
              exact h2 this.symm
            have e2 : (u < k + 1) = (u < k) := by apply propext; omega
            simp [e, e2]
        by_cases hqk : q ≤ k
        · have hD : ∀ i, i < rP r → dn x k i = dn x (k + 1) i ∨ exf r (lmt x) y i = none := fun i hi => by
            left
            by_cases h1 : i = k
            · subst h1
              rw [dn, dn, hx]
              have q1 : q < i := by omega
              have q2 : q < i + 1 := by omega
              simp [q1, q2]
            · by_cases h2 : i = q
              · have q1 : i < k := by omega
                have q2 : i < k + 1 := by omega
                rw [dn, dn]
                simp [q1, q2]
              · exact dcase i hi h1 h2
          obtain ⟨m2, f1, f2, f3⟩ := ih (k + 1) m (by omega) (by omega) (h.el (exD_cong hD))
          refine ⟨m2, ?_, f2, f3⟩
          rw [← f1]
          simp (disch := omega) only [nadn, gsn, gss, gsi, if_true, if_false, chk_in, chk_tt, bq, lq, ix_nI, jle_t, jle_f, jlt_t, jlt_f, jeq_t, jeq_f, nadd, nmul, nsub, nshl, nshl2, nor, nand, nandn, ↓kn1, K0, K1, K2, K3, K4, K5, K6, K7, K8, K9, K10, K11, K12, K13, K14, K20, K24, K25, K32, K33, K40, K41, K60, K63, K64, K100, K112, K120, K128, K129, K153, K161, K162, K163, K255, K256, K900, K903, K999, K1000, K1195, K1196, K2000, K2096, K3000, K3001, K3002, K3003, K3004, K3005, K3006, K3007, K3008, h.P, hm, oN_some]
        · obtain ⟨m1, e1, e2, e3⟩ := c_exchange ha gz h hl hq.1 (g.mk ((g.2.xe _ _).xa _ _) (Nat.le_refl _))
          obtain ⟨m2, f1, f2, f3⟩ := ih (k + 1) m1 (by omega) (by omega) (e2.el (exD_two (D2 := dn x (k + 1)) (Ne.symm hq.2.1) hx hq.2.2 (by rw [dn, hx]; simp; omega) (by rw [dn, hq.2.2]; simp; omega) (by rw [dn]; simp) (by rw [dn, hq.2.2]; simp) (fun i hi h1 h2 => Or.inl (dcase i hi h1 h2))))
          refine ⟨m2, ?_, f2, (e3.mono (fun c => s46_16)).tr f3⟩
          rw [← f1]
          simp (disch := omega) only [nadn, gsn, gss, gsi, if_true, if_false, chk_in, chk_tt, bq, lq, ix_nI, jle_t, jle_f, jlt_t, jlt_f, jeq_t, jeq_f, nadd, nmul, nsub, nshl, nshl2, nor, nand, nandn, ↓kn1, K0, K1, K2, K3, K4, K5, K6, K7, K8, K9, K10, K11, K12, K13, K14, K20, K24, K25, K32, K33, K40, K41, K60, K63, K64, K100, K112, K120, K128, K129, K153, K161, K162, K163, K255, K256, K900, K903, K999, K1000, K1195, K1196, K2000, K2096, K3000, K3001, K3002, K3003, K3004, K3005, K3006, K3007, K3008, h.P, hm, oN_some, e1]
/-- a year -/
def yrf (r : Ru) (x : Lf) : Lf := syr (exD r al (lmt x) (grw r al al x)) (lyr x + 1)
theorem WL.xf {r : Ru} {x : Lf} {B : Nat} (h : WL r x B) : WL r (yrf r x) (B + 1) := ((h.xw _ _).xe _ _).xy (by have := h.2.1; omega)
theorem c_passYear {r : Ru} {x : Lf} {m : Mem} {a B : Nat} (ha : 25 ≤ a) (g : GX r x) (hB : WL r x B) (hb : B + 1 ≤ 900000) (h : IC r x m a) : ∃ m2, X10_passYear a m = some (nI (wns r al x (rP r)), m2) ∧ IC r (yrf r x) m2 a ∧ Fr (s16 a) m m2 := by
  have hP := g.P
  obtain ⟨m1, e1, e2, e3⟩ := c_year_a ha g hB hb FU 0 m (by omega) (by unfold FU; omega) (h.el grk_z)
  have gy : GX r (grw r al al x) := g.mk (hB.xw _ _) hb
  have hD : ∀ i, i < rP r → (fun _ => false) i = dn x 0 i ∨ exf r (lmt x) (grw r al al x) i = none := fun i hi => by
    left
    rw [dn]
    cases lmt x i <;> simp
  obtain ⟨m2, f1, f2, f3⟩ := c_year_b (w := wns r al x (rP r)) ha gy (x := x) rfl FU 0 m1 (by omega) (by unfold FU; omega) (e2.el (exD_no.tr (exD_cong hD)))
  exact ⟨m2, e1.trans f1, f2, e3.tr f3⟩
