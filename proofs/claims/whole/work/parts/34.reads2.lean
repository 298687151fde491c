theorem St_since_ok : St_since Rel := by
  intro k N mx mm hk ⟨s, e, ib, hw, hc, hm⟩ a b
  have g := hw.gx
  have hT := g.T; have hP := g.P
  have h := hc.2.1
  have hi := hm.2.1.si (c := 0) (by decide) 0 (nI 0)
  rw [X11_since, X12_since, K0, lq]
  by_cases ha : prs (rP (sR s)) a
  · obtain ⟨p, hp, rfl⟩ := ha
    by_cases hb : prs (rT (sR s)) b
    · obtain ⟨t, ht, rfl⟩ := hb
      have c1 := c_has g h hp ht
      cases hx : lsn (sX s) p t with
      | none =>
        have hh : has (sX s) p t = false := by rw [has, hx]; rfl
        have e1 := hi.sn hp ht
        rw [hx] at e1
        rw [hh] at c1
        simp (disch := omega) only [c_isPerson_t g h hp, m_isPerson_t g hi hp, c_isThing_t g h ht, m_isThing_t g hi ht, bq, jeq_f, chk_in, ix_nI, K41, K14, nadd, nmul, e1, c1]
        exact ⟨_, _, _, rfl, rfl, Rel.rd hk hw hc hm FX.rf FM.th⟩
      | some v =>
        have hh : has (sX s) p t = true := by rw [has, hx]; rfl
        have e1 := hi.sn hp ht
        rw [hx] at e1
        rw [hh] at c1
        have e2 : gi mx 31 (p * 14 + t) = nI v := h.held hp ht hx
        simp (disch := omega) only [c_isPerson_t g h hp, m_isPerson_t g hi hp, c_isThing_t g h ht, m_isThing_t g hi ht, bq, jeq_f, chk_in, ix_nI, K41, K14, nadd, nmul, e1, c1, if_true, e2]
        exact ⟨_, _, _, rfl, rfl, Rel.rd hk hw hc hm FX.rf FM.th⟩
    · simp (disch := omega) only [c_isPerson_t g h hp, m_isPerson_t g hi hp, c_isThing_f g h hb, m_isThing_f g hi hb, bq, jeq_f, jeq_t]
      exact ⟨_, _, _, rfl, rfl, Rel.rd hk hw hc hm FX.rf FM.th⟩
  · simp (disch := omega) only [c_isPerson_f g h ha, m_isPerson_f g hi ha, bq, jeq_t]
    exact ⟨_, _, _, rfl, rfl, Rel.rd hk hw hc hm FX.rf FM.th⟩
theorem St_thing_ok : St_thing Rel := by
  intro k N mx mm hk ⟨s, e, ib, hw, hc, hm⟩ a b
  have g := hw.gx
  have hT := g.T; have hP := g.P
  have h := hc.2.1
  have hi := hm.2.1.si (c := 0) (by decide) 0 (nI 0)
  rw [X11_thing, X12_thing, K0, lq]
  by_cases ha : prs (rT (sR s)) a
  · obtain ⟨p, hp, rfl⟩ := ha
    have c30 : gi mx 30 p = _ := h.who hp
    simp (disch := omega) only [c_isThing_t g h hp, m_isThing_t g hi hp, bq, jeq_f, chk_in, ix_nI, K11, nadd, c30, h.wan hp, hi.wan hp, m_loathers g hi hp, m_rareOf g hi hp, m_areIt g hi hp, c_rarity g h hp, c_whoAre g h hp]
    by_cases h0 : b = nI 0
    · rw [if_pos h0, if_pos h0]
      exact ⟨_, _, _, rfl, rfl, Rel.rd hk hw hc hm FX.rf FM.th⟩
    · rw [if_neg h0, if_neg h0]
      by_cases h1 : b = 1
      · rw [if_pos h1, if_pos h1]
        exact ⟨_, _, _, rfl, rfl, Rel.rd hk hw hc hm FX.rf FM.th⟩
      · rw [if_neg h1, if_neg h1]
        by_cases h2 : b = 2
        · rw [if_pos h2, if_pos h2]
          exact ⟨_, _, _, rfl, rfl, Rel.rd hk hw hc hm FX.rf FM.th⟩
        · rw [if_neg h2, if_neg h2]
          by_cases h3 : b = 3
          · rw [if_pos h3, if_pos h3]
            exact ⟨_, _, _, rfl, rfl, Rel.rd hk hw hc hm FX.rf FM.th⟩
          · rw [if_neg h3, if_neg h3]
            exact ⟨_, _, _, rfl, rfl, Rel.rd hk hw hc hm FX.rf FM.th⟩
  · simp (disch := omega) only [c_isThing_f g h ha, m_isThing_f g hi ha, bq, jeq_t]
    exact ⟨_, _, _, rfl, rfl, Rel.rd hk hw hc hm FX.rf FM.th⟩
theorem fx24 {m m2 : Mem} (h : Fr s24 m m2) : FX m m2 := h.fx (fun c hc => by unfold s24 at hc; unfold scx; omega)
theorem fm56 {m m2 : Mem} (h : Fr s56 m m2) : FM m m2 := h.fm (fun c hc => by unfold s56 at hc; unfold scm; omega)
theorem St_good_ok : St_good Rel := by
  intro k N mx mm hk ⟨s, e, ib, hw, hc, hm⟩ a b
  have g := hw.gx
  have hT := g.T; have hP := g.P
  have h := hc.2.1
  have hi := hm.2.1.si (c := 0) (by decide) 0 (nI 0)
  rw [X11_good, X12_good, K0, lq]
  by_cases ha : tw (rP (sR s)) a b
  · obtain ⟨p, q, hp, hq, hn, rfl, rfl⟩ := ha
    obtain ⟨m2, e1, f1⟩ := c_goodness (by decide) g h hp hq
    obtain ⟨m3, e2, f2⟩ := m_goodOf g hi hp hq
    simp (disch := omega) only [c_areTwo_t g h hp hq hn, m_areTwo_t g hi hp hq hn, bq, jeq_f, e1, e2]
    exact ⟨_, _, _, rfl, rfl, Rel.rd hk hw hc hm (fx24 f1) (FM.th.tr (fm56 f2))⟩
  · simp (disch := omega) only [c_areTwo_f g h ha, m_areTwo_f g hi ha, bq, jeq_t]
    exact ⟨_, _, _, rfl, rfl, Rel.rd hk hw hc hm FX.rf FM.th⟩
theorem St_may_ok : St_may Rel := by
  intro k N mx mm hk ⟨s, e, ib, hw, hc, hm⟩ a b
  have g := hw.gx
  have hT := g.T; have hP := g.P
  have h := hc.2.1
  have hi := hm.2.1.si (c := 0) (by decide) 0 (nI 0)
  rw [X11_may, X12_may, K0, lq]
  by_cases ha : tw (rP (sR s)) a b
  · obtain ⟨p, q, hp, hq, hn, rfl, rfl⟩ := ha
    obtain ⟨m2, e1, f1⟩ := c_isAllowed (by decide) g h hp hq
    obtain ⟨m3, e2, f2⟩ := m_mayWed g hi hp hq
    simp (disch := omega) only [c_areTwo_t g h hp hq hn, m_areTwo_t g hi hp hq hn, bq, jeq_f, e1, e2]
    by_cases hy : my (sR s) (sX s) p q = true
    · simp (disch := omega) only [hy, if_true, jeq_f]
      exact ⟨_, _, _, rfl, rfl, Rel.rd hk hw hc hm (fx24 f1) (FM.th.tr (fm56 f2))⟩
    · simp (disch := omega) only [if_neg hy, jeq_t]
      exact ⟨_, _, _, rfl, rfl, Rel.rd hk hw hc hm (fx24 f1) (FM.th.tr (fm56 f2))⟩
  · simp (disch := omega) only [c_areTwo_f g h ha, m_areTwo_f g hi ha, bq, jeq_t]
    exact ⟨_, _, _, rfl, rfl, Rel.rd hk hw hc hm FX.rf FM.th⟩
theorem l64_5 : (5 : Int64) = Int32.toInt64 (nI 5) := by decide
theorem wk_t {n k : Nat} {c : Int64} (hc : c = Int32.toInt64 (nI k)) (h : n ≤ k) (hk : k < 2147483648) (m : Mem) : X12_within (Int32.toInt64 (nI n)) 0 c m = some (nI 1, m) := by rw [hc]; exact wj_t h hk m
theorem wk_f {a : Int32} {k : Nat} {c : Int64} (hc : c = Int32.toInt64 (nI k)) (h : ¬ prs (k + 1) a) (hk : k < 2147483647) (m : Mem) : X12_within (Int32.toInt64 a) 0 c m = some (nI 0, m) := by
  rw [hc]
  have := wi_f (k := k + 1) (by omega) h m
  rwa [nsub (by omega), Nat.add_sub_cancel] at this
theorem St_pair_ok : St_pair Rel := by
  intro k N mx mm hk ⟨s, e, ib, hw, hc, hm⟩ a b c
  have g := hw.gx
  have hT := g.T; have hP := g.P
  have h := hc.2.1
  have hi := hm.2.1.si (c := 0) (by decide) 0 (nI 0)
  rw [X11_pair, X12_pair, K0, lq]
  by_cases ha : tw (rP (sR s)) a b
  · obtain ⟨p, q, hp, hq, hn, rfl, rfl⟩ := ha
    have c1 : gi mx 29 p = _ := h.list hp
    have c2 : gi mx 29 q = _ := h.list hq
    have e1 := c_measure (by decide) g h hp hq (LY.rf hp hq)
    have e2 := m_laysTwo g hi hp hq
    by_cases hz : prs 6 c
    · obtain ⟨v, hv, rfl⟩ := hz
      by_cases h5 : v = 5
      · simp (disch := omega) only [c_areTwo_t g h hp hq hn, m_areTwo_t g hi hp hq hn, bq, jeq_f, jlt_f, jle_t, K5, jeq_t, wk_t l64_5, chk_in, ix_nI, c1, c2, m_listOf g hi hp, m_listOf g hi hq]
        exact ⟨_, _, _, rfl, rfl, Rel.rd hk hw hc hm FX.rf FM.th⟩
      · simp (disch := omega) only [c_areTwo_t g h hp hq hn, m_areTwo_t g hi hp hq hn, bq, jeq_f, jlt_f, jle_t, K5, wk_t l64_5, chk_in, ix_nI, c1, c2, e1, e2, wrw_w]
        exact ⟨_, _, _, rfl, rfl, Rel.rd hk hw hc hm (wrw_f.fx (fun c hc => by unfold scx; omega)) (FM.th.tr (wrw_f.fm (fun c hc => by unfold scm; omega)))⟩
    · have hz2 := hz
      rw [prs_iff (by omega)] at hz2
      simp (disch := first | exact hz | omega) only [c_areTwo_t g h hp hq hn, m_areTwo_t g hi hp hq hn, bq, jeq_f, jeq_t, wk_f l64_5]
      by_cases h0 : c < nI 0
      · rw [if_pos h0]
        exact ⟨_, _, _, rfl, rfl, Rel.rd hk hw hc hm FX.rf FM.th⟩
      · rw [if_neg h0, if_neg (fun q => hz2 ?_)]
        · exact ⟨_, _, _, rfl, rfl, Rel.rd hk hw hc hm FX.rf FM.th⟩
        · rw [lt_iff, tI (by omega)] at h0
          rw [le_iff, show (5 : Int32).toInt = 5 by decide] at q
          rw [le_iff, lt_iff, tI (by omega), zI]
          omega
  · simp (disch := omega) only [c_areTwo_f g h ha, m_areTwo_f g hi ha, bq, jeq_t]
    exact ⟨_, _, _, rfl, rfl, Rel.rd hk hw hc hm FX.rf FM.th⟩
