/-! a deed's number -/
theorem dnum : ∀ n, n < 3000 → (nI n - nI n / nI 1000 * nI 1000) / nI 100 = nI (n % 1000 / 100) ∧ nI n - nI n / nI 100 * nI 100 = nI (n % 100) ∧ nI n / nI 1000 = nI (n / 1000) ∧ nI n / nI 100 - nI n / nI 100 / nI 10 * nI 10 = nI (n % 1000 / 100) := by
  intro n hn
  refine ⟨?_, ?_, ?_, ?_⟩
  · rw [pk_rem (by omega) (by omega) (by omega), pk_div (by omega) (by omega) (by omega)]
  · rw [pk_rem (by omega) (by omega) (by omega)]
  · rw [pk_div (by omega) (by omega) (by omega)]
  · rw [pk_div (by omega) (by omega) (by omega), pk_rem (by omega) (by omega) (by omega), show n / 100 % 10 = n % 1000 / 100 by omega]
theorem d64 {n : Nat} (h : n < 3000) : Int64.toInt32 (Int32.toInt64 (nI n)) = nI n := by simp
theorem l64_2999 : (2999 : Int64) = Int32.toInt64 (nI 2999) := by decide
theorem ne_m1 {n : Nat} (h : n < 2147483648) : ¬ lg_cmp (Int32.toInt64 (nI n)) (-1) = 0 := by
  rw [lg_cmp_eq, show (-1 : Int64) = Int32.toInt64 NO by decide, toI64_eq]
  exact nI_ne_m1 h
def wt (r : Ru) (x : Lf) (p t : Nat) : Nat := if p < rP r ∧ t < rT r then (if has x p t = true ∨ pcn (ls r x p) < rroom r then 0 else 4) else 1
theorem wt_lt (r : Ru) (x : Lf) (p t : Nat) : wt r x p t < 5 := by
  unfold wt
  repeat' split
  all_goals omega
theorem nprs {k p : Nat} (hk : k < 2147483648) (hp : p < 2147483648) (h : ¬ p < k) : ¬ prs k (nI p) := fun ⟨n, hn, e⟩ => h (by rw [nI_inj hp (by omega) e]; exact hn)
theorem c_whyNotTake {r : Ru} {x : Lf} {m : Mem} {a : Nat} (g : GX r x) (h : IC r x m a) {p t : Nat} (hp : p < 2147483648) (ht : t < 2147483648) : X10_whyNotTake a (nI p) (nI t) m = some (nI (wt r x p t), m) := by
  have hT := g.T; have hP := g.P
  rw [X10_whyNotTake, wt]
  by_cases h1 : p < rP r
  · by_cases h2 : t < rT r
    · have e := c_hs hT hP h h1 (show t < 14 by omega)
      rw [decide_eq_true h2, Bool.true_and] at e
      rw [if_pos ⟨h1, h2⟩]
      simp (disch := omega) only [c_isPerson_t g h h1, c_isThing_t g h h2, bq, K0, jeq_f, e]
      by_cases hx : has x p t = true
      · rw [hx, if_pos rfl, jeq_f (by omega) (by omega) (by omega), if_pos (Or.inl rfl)]
      · have hx : has x p t = false := by simpa using hx
        rw [hx, if_pos (by decide), c_hasRoom g h h1, bq]
        by_cases hr : pcn (ls r x p) < rroom r
        · rw [if_pos hr, jeq_f (by omega) (by omega) (by omega), if_pos (Or.inr hr)]
        · rw [if_neg hr, jeq_t rfl, if_neg (fun q => by
            rcases q with q | q
            · cases q
            · exact hr q)]
          rfl
    · rw [if_neg (fun q => h2 q.2), c_isPerson_t g h h1, bq, K0, jeq_f (by omega) (by omega) (by omega), c_isThing_f g h (nprs (by omega) ht h2), bq, jeq_t rfl]
      rfl
  · rw [if_neg (fun q => h1 q.1), c_isPerson_f g h (nprs (by omega) hp h1), bq, K0, jeq_t rfl]
    rfl
theorem m_hasRoom {r : Ru} {x : Lf} {m : Mem} (g : GX r x) (h : IM r x m) {p : Nat} (hp : p < rP r) : X12_hasRoom (nI p) m = some (nI (if pcn (ls r x p) < rroom r then 1 else 0), m) := by
  have hP := g.P; have hl := ls_lt g.T x p; have hc := pcn_le (ls r x p); have hr := g.rm2
  rw [X12_hasRoom]
  by_cases hx : pcn (ls r x p) < rroom r
  · simp (disch := omega) only [nadn, gsn, gss, gsi, if_true, if_false, chk_in, chk_tt, bq, lq, ix_nI, jle_t, jle_f, jlt_t, jlt_f, jeq_t, jeq_f, nadd, nmul, nsub, nshl, nshl2, nor, nand, nandn, ↓kn1, K0, K1, K2, K3, K4, K5, K6, K7, K8, K9, K10, K11, K12, K13, K14, K20, K24, K25, K32, K33, K40, K41, K60, K63, K64, K100, K112, K120, K128, K129, K153, K161, K162, K163, K255, K256, K900, K903, K999, K1000, K1195, K1196, K2000, K2096, K3000, K3001, K3002, K3003, K3004, K3005, K3006, K3007, K3008, m_listOf g h hp, m_bitsOf, h.room]
    rw [if_pos hx]
  · simp (disch := omega) only [nadn, gsn, gss, gsi, if_true, if_false, chk_in, chk_tt, bq, lq, ix_nI, jle_t, jle_f, jlt_t, jlt_f, jeq_t, jeq_f, nadd, nmul, nsub, nshl, nshl2, nor, nand, nandn, ↓kn1, K0, K1, K2, K3, K4, K5, K6, K7, K8, K9, K10, K11, K12, K13, K14, K20, K24, K25, K32, K33, K40, K41, K60, K63, K64, K100, K112, K120, K128, K129, K153, K161, K162, K163, K255, K256, K900, K903, K999, K1000, K1195, K1196, K2000, K2096, K3000, K3001, K3002, K3003, K3004, K3005, K3006, K3007, K3008, m_listOf g h hp, m_bitsOf, h.room]
    rw [if_neg hx]
/-- why a taking can't be, as the reference says it of a number -/
theorem m_whyT {r : Ru} {x : Lf} {m : Mem} (g : GX r x) (h : IM r x m) {n : Nat} (h1 : 1000 ≤ n) (h2 : n < 2000) : X12_whyNot (Int32.toInt64 (nI n)) m = some (nI (wt r x (n % 1000 / 100) (n % 100)), m) := by
  have hT := g.T; have hP := g.P
  obtain ⟨d1, d2, d3, d4⟩ := dnum n (by omega)
  have hp : n % 1000 / 100 < 10 := by omega
  have hq : n % 100 < 100 := by omega
  rw [X12_whyNot, if_neg (ne_m1 (by omega)), l64_0, wl_t (l := 0) (k := 2999) rfl l64_2999 (by omega) (by omega) (by omega), bq, K0, jeq_f (by omega) (by omega) (by omega), d64 (by omega), lq, K100, K10, d4, lq, d2, lq, K1000, jlt_f (by omega) (by omega), K2000, jle_f (by omega) (by omega), wt]
  by_cases a1 : n % 1000 / 100 < rP r
  · by_cases a2 : n % 100 < rT r
    · rw [if_pos ⟨a1, a2⟩]
      have e := h.sn a1 a2
      simp (disch := omega) only [m_isPerson_t g h a1, m_isThing_t g h a2, bq, jeq_f, K41, K14, nmul, nadd, chk_in, ix_nI, e, kn1]
      cases hx : lsn x (n % 1000 / 100) (n % 100) with
      | none =>
        have hx2 : has x (n % 1000 / 100) (n % 100) = false := by rw [has, hx]; rfl
        rw [oN_none, jm_t, m_hasRoom g h a1, bq]
        by_cases hr : pcn (ls r x (n % 1000 / 100)) < rroom r
        · rw [if_pos hr, jeq_f (by omega) (by omega) (by omega), if_pos (Or.inr hr)]
        · rw [if_neg hr, jeq_t rfl, if_neg (fun q => by
            rcases q with q | q
            · rw [hx2] at q; cases q
            · exact hr q)]
          rfl
      | some v =>
        have hv := g.sn hx
        rw [oN_some, jm_f (by omega), if_pos (Or.inl (by rw [has, hx]; rfl))]
    · rw [if_neg (fun q => a2 q.2), m_isPerson_t g h a1, bq, jeq_f (by omega) (by omega) (by omega), m_isThing_f g h (nprs (by omega) (by omega) a2), bq, jeq_t rfl]
      rfl
  · rw [if_neg (fun q => a1 q.1), m_isPerson_f g h (nprs (by omega) (by omega) a1), bq, jeq_t rfl]
    rfl
theorem m_doesT {r : Ru} {x : Lf} {m : Mem} (g : GX r x) (h : IM r x m) {n : Nat} (h1 : 1000 ≤ n) (h2 : n < 2000) (hp : n % 1000 / 100 < rP r) (ht : n % 100 < rT r) : ∃ m2, X12_does (nI n) m = some ((), m2) ∧ IM r (tgv x (n % 1000 / 100) (n % 100)) m2 ∧ FL s8 m m2 := by
  have hT := g.T; have hP := g.P
  obtain ⟨d1, d2, d3, d4⟩ := dnum n (by omega)
  have e := h.sn hp ht
  rw [X12_does, K100, K10, d4, lq, d2, lq, kn1, jm_f (by omega), K2000, jlt_t h2 (by omega), K1000, jlt_f h1 (by omega), K41, K14]
  simp (disch := omega) only [nmul, nadd, chk_in, ix_nI, e, tgv]
  cases hx : lsn x (n % 1000 / 100) (n % 100) with
  | none =>
    rw [oN_none, jm_t, lq, has, hx]
    exact ⟨_, rfl, h.wst hT hP hp ht (some 0), FL.s1 (by omega) (by omega)⟩
  | some v =>
    have hv := g.sn hx
    rw [oN_some, jm_f (by omega), lq, has, hx]
    exact ⟨_, rfl, h.wst hT hP hp ht none, FL.s1 (by omega) (by omega)⟩
theorem m_doesC {r : Ru} {x : Lf} {m : Mem} (g : GX r x) (h : IM r x m) {n : Nat} (h1 : 2000 ≤ n) (h2 : n < 3000) (hp : n % 1000 / 100 < rP r) (hq : n % 100 < rP r) (hn : n % 1000 / 100 ≠ n % 100) : ∃ m2, X12_does (nI n) m = some ((), m2) ∧ IM r (cpy x (n % 1000 / 100) (n % 100)) m2 ∧ FL s8 m m2 := by
  obtain ⟨d1, d2, d3, d4⟩ := dnum n (by omega)
  rw [X12_does, K100, K10, d4, lq, d2, lq, kn1, jm_f (by omega), K2000, jlt_f h1 (by omega), K0]
  exact m_copy g.T g.P h hp hq hn
theorem St_takes_ok : St_takes Rel := by
  intro k N mx mm hk ⟨s, e, ib, hw, hc, hm⟩ a b
  have g := hw.gx
  have hT := g.T; have hP := g.P
  have h := hc.2.1
  have hm0 := hm.th
  have hi := hm0.2.1
  have fin : Rel (k + 1) N mx (si mm 0 0 (nI 0)) := Rel.rd hk hw hc hm FX.rf FM.th
  rw [X11_takes, X12_takes, K0, lq]
  by_cases ht : prs (rP (sR s)) a
  · obtain ⟨p, hp, rfl⟩ := ht
    by_cases ht2 : prs (rT (sR s)) b
    · obtain ⟨t, ht, rfl⟩ := ht2
      have en : (1000 : Int32) + 100 * nI p + nI t = nI (1000 + 100 * p + t) := by rw [K1000, K100, nmul, nadd, nadd]
      have e1 : (1000 + 100 * p + t) % 1000 / 100 = p := by omega
      have e2 : (1000 + 100 * p + t) % 100 = t := by omega
      have w1 := m_whyT g hi (n := 1000 + 100 * p + t) (by omega) (by omega)
      rw [e1, e2] at w1
      rw [m_isPerson_t g hi hp, bq, jeq_f (by omega) (by omega) (by omega), m_isThing_t g hi ht, bq, jeq_f (by omega) (by omega) (by omega), en, w1, bq, X12_takes_b42, K0, en, c_whyNotTake g h (by omega) (by omega), bq]
      have hl := wt_lt (sR s) (sX s) p t
      by_cases h0 : wt (sR s) (sX s) p t = 0
      · rw [jeq_t h0, jeq_t h0]
        obtain ⟨mx2, e2', k1, k2, k3, k4⟩ := c_keeps hw hc
        obtain ⟨mx3, l1, l2, l3⟩ := c_takeOrGive (by decide) g k3 hp ht
        obtain ⟨mm2, n1, n2, n3⟩ := m_keeps hT hP hi
        obtain ⟨mm3, o1, o2, o3⟩ := m_doesT g (hi.fr (fun j => (n3 1 (by decide) j).1)) (n := 1000 + 100 * p + t) (by omega) (by omega) (by rw [e1]; exact hp) (by rw [e2]; exact ht)
        rw [e1, e2] at o2
        obtain ⟨mm4, p1, p2, p3, p4⟩ := m_noted hw hm0 n2 n3 o2 o3
        have wx : WL (sR s) (tgv (sX s) p t) (bd (k + 1)) := (hw.2.2.2.2.1.mono (bd_le (by omega))).xg p t
        have g2 : GX (sR s) (tgv (sX s) p t) := g.mk wx (by unfold bd; omega)
        have c1 : gi mx3 29 p = nI (ls (sR s) (tgv (sX s) p t) p) := l2.list hp
        have hll := ls_lt hT (tgv (sX s) p t) p
        simp (disch := omega) only [bq, k1, l1, n1, o1, p1, chk_in, ix_nI, c1, bitc, m_listOf g2 p2 hp, m_bitsOf]
        exact ⟨_, _, _, rfl, rfl, Rel.kp hk hw hc hm wx ((xh40 k4).tr (xh46 l3)) l2 (k2.f46 l3) (FM.th.mh.tr p4) p2 p3⟩
      · rw [jeq_f h0 (by omega) (by omega), jeq_f h0 (by omega) (by omega)]
        exact ⟨_, _, _, rfl, rfl, fin⟩
    · have hz : ¬ ∃ n, n < rT (sR s) ∧ b = nI n := ht2
      rw [X10_whyNotTake, c_isPerson_t g h hp, bq, K0, jeq_f (by omega) (by omega) (by omega), c_isThing_f g h ht2, bq, jeq_t rfl, bq, m_isPerson_t g hi hp, bq, jeq_f (by omega) (by omega) (by omega), m_isThing_f g hi ht2, bq, jeq_t rfl, X12_takes_b42, K0, K1]
      exact ⟨_, _, _, rfl, rfl, fin⟩
  · rw [X10_whyNotTake, c_isPerson_f g h ht, bq, K0, jeq_t rfl, bq, m_isPerson_f g hi ht, bq, jeq_t rfl, X12_takes_b42, K0, K1]
    exact ⟨_, _, _, rfl, rfl, fin⟩
theorem St_copies_ok : St_copies Rel := by
  intro k N mx mm hk ⟨s, e, ib, hw, hc, hm⟩ a b
  have g := hw.gx
  have hT := g.T; have hP := g.P
  have h := hc.2.1
  have hm0 := hm.th
  have hi := hm0.2.1
  have fin : Rel (k + 1) N mx (si mm 0 0 (nI 0)) := Rel.rd hk hw hc hm FX.rf FM.th
  rw [X11_copies, X12_copies, K0, lq]
  by_cases ht : tw (rP (sR s)) a b
  · obtain ⟨p, q, hp, hq, hn, rfl, rfl⟩ := ht
    have en : (2000 : Int32) + 100 * nI p + nI q = nI (2000 + 100 * p + q) := by rw [K2000, K100, nmul, nadd, nadd]
    have e1 : (2000 + 100 * p + q) % 1000 / 100 = p := by omega
    have e2 : (2000 + 100 * p + q) % 100 = q := by omega
    rw [c_areTwo_t g h hp hq hn, bq, m_areTwo_t g hi hp hq hn, bq, jeq_f (by omega) (by omega) (by omega), jeq_f (by omega) (by omega) (by omega), en]
    obtain ⟨mx2, e2', k1, k2, k3, k4⟩ := c_keeps hw hc
    obtain ⟨mx3, l1, l2, l3⟩ := c_copyList (by decide) g k3 hp hq hn
    have l1 : X5_copyList 26 (nI p) (nI q) mx2 = some ((), mx3) := l1
    obtain ⟨mm2, n1, n2, n3⟩ := m_keeps hT hP hi
    obtain ⟨mm3, o1, o2, o3⟩ := m_doesC g (hi.fr (fun j => (n3 1 (by decide) j).1)) (n := 2000 + 100 * p + q) (by omega) (by omega) (by rw [e1]; exact hp) (by rw [e2]; exact hq) (by rw [e1, e2]; exact hn)
    rw [e1, e2] at o2
    obtain ⟨mm4, p1, p2, p3, p4⟩ := m_noted hw hm0 n2 n3 o2 o3
    have wx : WL (sR s) (cpy (sX s) p q) (bd (k + 1)) := (hw.2.2.2.2.1.mono (bd_le (by omega))).xc p q
    have g2 : GX (sR s) (cpy (sX s) p q) := g.mk wx (by unfold bd; omega)
    have c1 : gi mx3 29 p = nI (ls (sR s) (cpy (sX s) p q) p) := l2.list hp
    have hll := ls_lt hT (cpy (sX s) p q) p
    simp (disch := omega) only [bq, k1, l1, n1, o1, p1, chk_in, ix_nI, c1, bitc, m_listOf g2 p2 hp, m_bitsOf]
    exact ⟨_, _, _, rfl, rfl, Rel.kp hk hw hc hm wx ((xh40 k4).tr (xh46 l3)) l2 (k2.f46 l3) (FM.th.mh.tr p4) p2 p3⟩
  · rw [c_areTwo_f g h ht, bq, m_areTwo_f g hi ht, bq, jeq_t rfl, jeq_t rfl]
    exact ⟨_, _, _, rfl, rfl, fin⟩
