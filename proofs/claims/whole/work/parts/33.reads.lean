/-! the class: who is a person, a thing -/
theorem c_isPerson_t {r : Ru} {x : Lf} {m : Mem} {a : Nat} (g : GX r x) (h : IC r x m a) {p : Nat} (hp : p < rP r) : X10_isPerson a (nI p) m = some (nI 1, m) := by
  have hP := g.P
  rw [X10_isPerson]
  simp (disch := omega) only [nadn, gsn, gss, gsi, if_true, if_false, chk_in, chk_tt, bq, lq, ix_nI, jle_t, jle_f, jlt_t, jlt_f, jeq_t, jeq_f, nadd, nmul, nsub, nshl, nshl2, nor, nand, nandn, ↓kn1, K0, K1, K2, K3, K4, K5, K6, K7, K8, K9, K10, K11, K12, K13, K14, K20, K24, K25, K32, K33, K40, K41, K60, K63, K64, K100, K112, K120, K128, K129, K153, K161, K162, K163, K255, K256, K900, K903, K999, K1000, K1195, K1196, K2000, K2096, K3000, K3001, K3002, K3003, K3004, K3005, K3006, K3007, K3008, h.P]
theorem c_isPerson_f {r : Ru} {x : Lf} {m : Mem} {a : Nat} (g : GX r x) (h : IC r x m a) {b : Int32} (hb : ¬ prs (rP r) b) : X10_isPerson a b m = some (nI 0, m) := by
  have hP := g.P
  rw [prs_iff (by omega)] at hb
  rw [X10_isPerson]
  by_cases h1 : b < 0
  · rw [if_pos h1]; rfl
  · rw [if_neg h1, h.P, if_pos]
    · rfl
    · rw [le_iff]
      rw [le_iff, lt_iff, zI] at hb
      rw [lt_iff, zI] at h1
      omega
theorem c_isThing_t {r : Ru} {x : Lf} {m : Mem} {a : Nat} (g : GX r x) (h : IC r x m a) {p : Nat} (hp : p < rT r) : X10_isThing a (nI p) m = some (nI 1, m) := by
  have hP := g.T
  rw [X10_isThing]
  simp (disch := omega) only [nadn, gsn, gss, gsi, if_true, if_false, chk_in, chk_tt, bq, lq, ix_nI, jle_t, jle_f, jlt_t, jlt_f, jeq_t, jeq_f, nadd, nmul, nsub, nshl, nshl2, nor, nand, nandn, ↓kn1, K0, K1, K2, K3, K4, K5, K6, K7, K8, K9, K10, K11, K12, K13, K14, K20, K24, K25, K32, K33, K40, K41, K60, K63, K64, K100, K112, K120, K128, K129, K153, K161, K162, K163, K255, K256, K900, K903, K999, K1000, K1195, K1196, K2000, K2096, K3000, K3001, K3002, K3003, K3004, K3005, K3006, K3007, K3008, h.T]
theorem c_isThing_f {r : Ru} {x : Lf} {m : Mem} {a : Nat} (g : GX r x) (h : IC r x m a) {b : Int32} (hb : ¬ prs (rT r) b) : X10_isThing a b m = some (nI 0, m) := by
  have hP := g.T
  rw [prs_iff (by omega)] at hb
  rw [X10_isThing]
  by_cases h1 : b < 0
  · rw [if_pos h1]; rfl
  · rw [if_neg h1, h.T, if_pos]
    · rfl
    · rw [le_iff]
      rw [le_iff, lt_iff, zI] at hb
      rw [lt_iff, zI] at h1
      omega
theorem c_areTwo_t {r : Ru} {x : Lf} {m : Mem} {a : Nat} (g : GX r x) (h : IC r x m a) {p q : Nat} (hp : p < rP r) (hq : q < rP r) (hn : p ≠ q) : X10_areTwo a (nI p) (nI q) m = some (nI 1, m) := by
  have hP := g.P
  rw [X10_areTwo]
  simp (disch := omega) only [nadn, gsn, gss, gsi, if_true, if_false, chk_in, chk_tt, bq, lq, ix_nI, jle_t, jle_f, jlt_t, jlt_f, jeq_t, jeq_f, nadd, nmul, nsub, nshl, nshl2, nor, nand, nandn, ↓kn1, K0, K1, K2, K3, K4, K5, K6, K7, K8, K9, K10, K11, K12, K13, K14, K20, K24, K25, K32, K33, K40, K41, K60, K63, K64, K100, K112, K120, K128, K129, K153, K161, K162, K163, K255, K256, K900, K903, K999, K1000, K1195, K1196, K2000, K2096, K3000, K3001, K3002, K3003, K3004, K3005, K3006, K3007, K3008, c_isPerson_t g h hp, c_isPerson_t g h hq]
theorem c_areTwo_f {r : Ru} {x : Lf} {m : Mem} {a : Nat} (g : GX r x) (h : IC r x m a) {b c : Int32} (hn : ¬ tw (rP r) b c) : X10_areTwo a b c m = some (nI 0, m) := by
  have hP := g.P
  rw [X10_areTwo]
  by_cases hb : prs (rP r) b
  · obtain ⟨p, hp, rfl⟩ := hb
    by_cases hc : prs (rP r) c
    · obtain ⟨q, hq, rfl⟩ := hc
      have e : p = q := Classical.byContradiction (fun e => hn ⟨p, q, hp, hq, e, rfl, rfl⟩)
      subst e
      simp (disch := omega) only [nadn, gsn, gss, gsi, if_true, if_false, chk_in, chk_tt, bq, lq, ix_nI, jle_t, jle_f, jlt_t, jlt_f, jeq_t, jeq_f, nadd, nmul, nsub, nshl, nshl2, nor, nand, nandn, ↓kn1, K0, K1, K2, K3, K4, K5, K6, K7, K8, K9, K10, K11, K12, K13, K14, K20, K24, K25, K32, K33, K40, K41, K60, K63, K64, K100, K112, K120, K128, K129, K153, K161, K162, K163, K255, K256, K900, K903, K999, K1000, K1195, K1196, K2000, K2096, K3000, K3001, K3002, K3003, K3004, K3005, K3006, K3007, K3008, c_isPerson_t g h hp]
    · simp (disch := omega) only [nadn, gsn, gss, gsi, if_true, if_false, chk_in, chk_tt, bq, lq, ix_nI, jle_t, jle_f, jlt_t, jlt_f, jeq_t, jeq_f, nadd, nmul, nsub, nshl, nshl2, nor, nand, nandn, ↓kn1, K0, K1, K2, K3, K4, K5, K6, K7, K8, K9, K10, K11, K12, K13, K14, K20, K24, K25, K32, K33, K40, K41, K60, K63, K64, K100, K112, K120, K128, K129, K153, K161, K162, K163, K255, K256, K900, K903, K999, K1000, K1195, K1196, K2000, K2096, K3000, K3001, K3002, K3003, K3004, K3005, K3006, K3007, K3008, c_isPerson_t g h hp, c_isPerson_f g h hc]
  · simp (disch := omega) only [nadn, gsn, gss, gsi, if_true, if_false, chk_in, chk_tt, bq, lq, ix_nI, jle_t, jle_f, jlt_t, jlt_f, jeq_t, jeq_f, nadd, nmul, nsub, nshl, nshl2, nor, nand, nandn, ↓kn1, K0, K1, K2, K3, K4, K5, K6, K7, K8, K9, K10, K11, K12, K13, K14, K20, K24, K25, K32, K33, K40, K41, K60, K63, K64, K100, K112, K120, K128, K129, K153, K161, K162, K163, K255, K256, K900, K903, K999, K1000, K1195, K1196, K2000, K2096, K3000, K3001, K3002, K3003, K3004, K3005, K3006, K3007, K3008, c_isPerson_f g h hb]
theorem c_rarity {r : Ru} {x : Lf} {m : Mem} {a : Nat} (g : GX r x) (h : IC r x m a) {t : Nat} (ht : t < rT r) : X10_rarity a (nI t) m = some (nI (ra r x t), m) := by
  have hT := g.T; have hP := g.P
  have hw := wh_lt g.P x t
  have hc := wh_pc x t g.P
  rw [X10_rarity]
  simp (disch := omega) only [nadn, gsn, gss, gsi, if_true, if_false, chk_in, chk_tt, bq, lq, ix_nI, jle_t, jle_f, jlt_t, jlt_f, jeq_t, jeq_f, nadd, nmul, nsub, nshl, nshl2, nor, nand, nandn, ↓kn1, K0, K1, K2, K3, K4, K5, K6, K7, K8, K9, K10, K11, K12, K13, K14, K20, K24, K25, K32, K33, K40, K41, K60, K63, K64, K100, K112, K120, K128, K129, K153, K161, K162, K163, K255, K256, K900, K903, K999, K1000, K1195, K1196, K2000, K2096, K3000, K3001, K3002, K3003, K3004, K3005, K3006, K3007, K3008, h.who ht, h.P, bitc]
  rfl
theorem c_whoAre_loop {r : Ru} {x : Lf} {m : Mem} {a : Nat} (g : GX r x) (h : IC r x m a) {t : Nat} (ht : t < rT r) : ∀ n k, k ≤ rP r → rP r - k < n → X8_whoAre_b4 2 n (nI t) (nI (bs k (fun p => (rtr r p).testBit t))) (nI k) m = some (nI (ai r t), m) := by
  have hT := g.T; have hP := g.P
  intro n
  induction n with
  | zero => intro k _ h; omega
  | succ n ih =>
    intro k hk hn
    rw [X8_whoAre_b4]
    rcases Nat.eq_or_lt_of_le hk with he | hl
    · subst he
      simp (disch := omega) only [nadn, gsn, gss, gsi, if_true, if_false, chk_in, chk_tt, bq, lq, ix_nI, jle_t, jle_f, jlt_t, jlt_f, jeq_t, jeq_f, nadd, nmul, nsub, nshl, nshl2, nor, nand, nandn, ↓kn1, K0, K1, K2, K3, K4, K5, K6, K7, K8, K9, K10, K11, K12, K13, K14, K20, K24, K25, K32, K33, K40, K41, K60, K63, K64, K100, K112, K120, K128, K129, K153, K161, K162, K163, K255, K256, K900, K903, K999, K1000, K1195, K1196, K2000, K2096, K3000, K3001, K3002, K3003, K3004, K3005, K3006, K3007, K3008, h.P]
      rfl
    · have ih2 := ih (k + 1) (by omega) (by omega)
      have hb := g.tr14 hl
      have e : gi m (2 + 2) k = nI (rtr r k) := h.tr hl
      by_cases hx : (rtr r k).testBit t = true
      · rw [bs, hx] at ih2
        simp (disch := first | exact hx | omega) only [nadn, gsn, gss, gsi, if_true, if_false, chk_in, chk_tt, bq, lq, ix_nI, jle_t, jle_f, jlt_t, jlt_f, jeq_t, jeq_f, nadd, nmul, nsub, nshl, nshl2, nor, nand, nandn, ↓kn1, K0, K1, K2, K3, K4, K5, K6, K7, K8, K9, K10, K11, K12, K13, K14, K20, K24, K25, K32, K33, K40, K41, K60, K63, K64, K100, K112, K120, K128, K129, K153, K161, K162, K163, K255, K256, K900, K903, K999, K1000, K1195, K1196, K2000, K2096, K3000, K3001, K3002, K3003, K3004, K3005, K3006, K3007, K3008, h.P, e, jbit_t]
        simpa using ih2
      · have hx : (rtr r k).testBit t = false := by simpa using hx
        rw [bs, hx] at ih2
        simp (disch := first | exact hx | omega) only [nadn, gsn, gss, gsi, if_true, if_false, chk_in, chk_tt, bq, lq, ix_nI, jle_t, jle_f, jlt_t, jlt_f, jeq_t, jeq_f, nadd, nmul, nsub, nshl, nshl2, nor, nand, nandn, ↓kn1, K0, K1, K2, K3, K4, K5, K6, K7, K8, K9, K10, K11, K12, K13, K14, K20, K24, K25, K32, K33, K40, K41, K60, K63, K64, K100, K112, K120, K128, K129, K153, K161, K162, K163, K255, K256, K900, K903, K999, K1000, K1195, K1196, K2000, K2096, K3000, K3001, K3002, K3003, K3004, K3005, K3006, K3007, K3008, h.P, e, jbit_f]
        simpa using ih2
theorem c_whoAre {r : Ru} {x : Lf} {m : Mem} {a : Nat} (g : GX r x) (h : IC r x m a) {t : Nat} (ht : t < rT r) : X8_whoAre 2 (nI t) m = some (nI (ai r t), m) :=
  c_whoAre_loop g h ht FU 0 (by omega) (by have := g.P; unfold FU; omega)
theorem c_has {r : Ru} {x : Lf} {m : Mem} {a : Nat} (g : GX r x) (h : IC r x m a) {p t : Nat} (hp : p < rP r) (ht : t < rT r) : X5_has (a + 1) (nI p) (nI t) m = some (nI (if has x p t then 1 else 0), m) := by
  have hT := g.T; have hP := g.P
  have hl := ls_lt g.T x p
  have hb : (ls r x p).testBit t = has x p t := by rw [ls, bs_bit]; simp [ht]
  rw [X5_has]
  cases hx : has x p t with
  | true => simp (disch := first | exact hb.trans hx | omega) only [nadn, gsn, gss, gsi, if_true, if_false, chk_in, chk_tt, bq, lq, ix_nI, jle_t, jle_f, jlt_t, jlt_f, jeq_t, jeq_f, nadd, nmul, nsub, nshl, nshl2, nor, nand, nandn, ↓kn1, K0, K1, K2, K3, K4, K5, K6, K7, K8, K9, K10, K11, K12, K13, K14, K20, K24, K25, K32, K33, K40, K41, K60, K63, K64, K100, K112, K120, K128, K129, K153, K161, K162, K163, K255, K256, K900, K903, K999, K1000, K1195, K1196, K2000, K2096, K3000, K3001, K3002, K3003, K3004, K3005, K3006, K3007, K3008, h.list hp, jbit_t]
  | false => simp (disch := first | exact hb.trans hx | omega) only [nadn, gsn, gss, gsi, if_true, if_false, chk_in, chk_tt, bq, lq, ix_nI, jle_t, jle_f, jlt_t, jlt_f, jeq_t, jeq_f, nadd, nmul, nsub, nshl, nshl2, nor, nand, nandn, ↓kn1, K0, K1, K2, K3, K4, K5, K6, K7, K8, K9, K10, K11, K12, K13, K14, K20, K24, K25, K32, K33, K40, K41, K60, K63, K64, K100, K112, K120, K128, K129, K153, K161, K162, K163, K255, K256, K900, K903, K999, K1000, K1195, K1196, K2000, K2096, K3000, K3001, K3002, K3003, K3004, K3005, K3006, K3007, K3008, h.list hp, jbit_f]; rfl
theorem St_fault_ok : St_fault Rel := by
  intro k N mx mm hk ⟨s, e, ib, hw, hc, hm⟩ a
  have c1 := hc.2.2.2.1; have m1 := hm.2.2.2.1
  rw [X11_fault, X12_fault, lq]
  have hf : FM mm (si mm 0 0 0) := FM.s0 (by omega) (by omega) (by omega)
  by_cases h0 : a = 0
  · rw [if_pos h0, if_pos h0, gsi (by omega), c1.2.1, m1.1]
    exact ⟨_, _, _, rfl, rfl, Rel.rd hk hw hc hm FX.rf hf⟩
  · rw [if_neg h0, if_neg h0]
    by_cases h1 : a = 1
    · rw [if_pos h1, if_pos h1, gsi (by omega), c1.2.2, m1.2]
      exact ⟨_, _, _, rfl, rfl, Rel.rd hk hw hc hm FX.rf hf⟩
    · rw [if_neg h1, if_neg h1]
      exact ⟨_, _, _, rfl, rfl, Rel.rd hk hw hc hm FX.rf hf⟩
theorem FM.th {m : Mem} : FM m (si m 0 0 (nI 0)) := FM.s0 (by omega) (by omega) (by omega)
theorem St_person_ok : St_person Rel := by
  intro k N mx mm hk ⟨s, e, ib, hw, hc, hm⟩ a b
  have g := hw.gx
  have hT := g.T; have hP := g.P
  have h := hc.2.1
  have hi := hm.2.1.si (c := 0) (by decide) 0 (nI 0)
  rw [X11_person, X12_person, K0, lq]
  by_cases ha : prs (rP (sR s)) a
  · obtain ⟨p, hp, rfl⟩ := ha
    have c27 : gi mx 27 p = _ := h.age hp
    have c28 : gi mx 28 p = _ := h.mate hp
    have c29 : gi mx 29 p = _ := h.list hp
    simp (disch := omega) only [c_isPerson_t g h hp, m_isPerson_t g hi hp, bq, jeq_f, chk_in, ix_nI, K33, K25, K153, nadd, c27, c28, c29, h.tr hp, hi.age hp, hi.tr hp, hi.wed hp, m_listOf g hi hp]
    by_cases h0 : b = nI 0
    · rw [if_pos h0, if_pos h0]
      exact ⟨_, _, _, rfl, rfl, Rel.rd hk hw hc hm FX.rf FM.th⟩
    · rw [if_neg h0, if_neg h0]
      by_cases h1 : b = 1
      · rw [if_pos h1, if_pos h1]
        exact ⟨_, _, _, rfl, rfl, Rel.rd hk hw hc hm FX.rf FM.th⟩
      · rw [if_neg h1, if_neg h1]
        by_cases h2 : b = 2
        · rw [if_pos h2, if_pos h2]
          exact ⟨_, _, _, rfl, rfl, Rel.rd hk hw hc hm FX.rf FM.th⟩
        · rw [if_neg h2, if_neg h2]
          by_cases h3 : b = 3
          · rw [if_pos h3, if_pos h3]
            exact ⟨_, _, _, rfl, rfl, Rel.rd hk hw hc hm FX.rf FM.th⟩
          · rw [if_neg h3, if_neg h3]
            exact ⟨_, _, _, rfl, rfl, Rel.rd hk hw hc hm FX.rf FM.th⟩
  · simp (disch := omega) only [c_isPerson_f g h ha, m_isPerson_f g hi ha, bq, jeq_t]
    exact ⟨_, _, _, rfl, rfl, Rel.rd hk hw hc hm FX.rf FM.th⟩
