/-! one person's list in years -/
/-- alike as far as one person's list and whom it is wed to go -/
def E1 (r : Ru) (p : Nat) (x y : Lf) : Prop := lmt x p = lmt y p ∧ (∀ t, t < rT r → lsn x p t = lsn y p t) ∧ ∀ q, lmt y p = some q → ∀ t, t < rT r → lsn x q t = lsn y q t
def yra (r : Ru) (p : Nat) (x : Lf) : Lf := match lmt x p with
  | none => grw r (one p) (one p) x
  | some q => yr2 r (pq2 p q) p q x
theorem WL.xr {r : Ru} {x : Lf} {B p : Nat} (h : WL r x B) : WL r (yra r p x) (B + 1) := by
  unfold yra
  cases lmt x p with
  | none => exact h.xw _ _
  | some q => exact h.x2 _ _ _
theorem E1.yr {r : Ru} {p : Nat} {x y : Lf} (g : GX r y) (h : E1 r p x y) (hp : p < rP r) : E1 r p (yra r p x) (yrf r y) := by
  obtain ⟨h1, h2, h3⟩ := h
  unfold yra
  cases hm : lmt x p with
  | none =>
    have hy : lmt y p = none := by rw [← h1]; exact hm
    refine ⟨h1, fun t ht => ?_, fun q hq => ?_⟩
    · show lsn (grw r (one p) (one p) x) p t = lsn (exD r al (lmt y) (grw r al al y)) p t
      simp [lsn_grw, lsn_exD, exf, hy, h2 t ht, one, al]
    · have hq : lmt y p = some q := hq
      rw [hy] at hq; cases hq
  | some q =>
    have hy : lmt y p = some q := by rw [← h1]; exact hm
    have hq := g.mt hp hy
    have gp : ∀ t, t < rT r → lsn (grw r (pq2 p q) (pq2 p q) x) p t = lsn (grw r al al y) p t := fun t ht => by
      rw [lsn_grw, lsn_grw, h2 t ht]
      simp [pq2, al]
    have gq : ∀ t, t < rT r → lsn (grw r (pq2 p q) (pq2 p q) x) q t = lsn (grw r al al y) q t := fun t ht => by
      rw [lsn_grw, lsn_grw, h3 q hy t ht]
      simp [pq2, al]
    have lp : ls r (grw r (pq2 p q) (pq2 p q) x) p = ls r (grw r al al y) p := ls_eq (fun t ht => by rw [has, has, gp t ht])
    have lq' : ls r (grw r (pq2 p q) (pq2 p q) x) q = ls r (grw r al al y) q := ls_eq (fun t ht => by rw [has, has, gq t ht])
    refine ⟨h1, fun t ht => ?_, fun u hu t ht => ?_⟩
    · show lsn (exD r al (tp p q) (grw r (pq2 p q) (pq2 p q) x)) p t = lsn (exD r al (lmt y) (grw r al al y)) p t
      have ex : exf r (tp p q) (grw r (pq2 p q) (pq2 p q) x) p = exf r (lmt y) (grw r al al y) p := by
        rw [exf, exf, tp, if_pos rfl, hy]
        exact wis_cong lp lq'
      rw [lsn_exD, lsn_exD, gp t ht, ex]
    · have hu : lmt y p = some u := hu
      rw [hy] at hu
      injection hu with hu
      subst hu
      show lsn (exD r al (tp p q) (grw r (pq2 p q) (pq2 p q) x)) q t = lsn (exD r al (lmt y) (grw r al al y)) q t
      have ex : exf r (tp p q) (grw r (pq2 p q) (pq2 p q) x) q = exf r (lmt y) (grw r al al y) q := by
        rw [exf, exf, tp, if_neg hq.2.1, if_pos rfl, hq.2.2]
        exact wis_cong lq' lp
      rw [lsn_exD, lsn_exD, gq t ht, ex]
theorem c_around {r : Ru} {x : Lf} {m : Mem} {B p : Nat} (g : GX r x) (hB : WL r x B) (hb : B + 2 ≤ 900000) (hp : p < rP r) (h : IC r x m 32) : ∃ m2, X10_passYearAround 32 (nI p) m = some ((), m2) ∧ IC r (yra r p x) m2 32 ∧ FX m m2 := by
  have hP := g.P
  have e := h.mate hp
  rw [X10_passYearAround, chk_in (by omega) (by omega), ix_nI (by omega), e, lq, K0]
  unfold yra
  cases hm : lmt x p with
  | none =>
    obtain ⟨m2, e1, e2, e3⟩ := c_growOlder (a := 32) (by decide) g h hp
    rw [oN_none, c_isPerson_f g h (fun ⟨n, hn, e⟩ => nI_ne_m1 (show n < 2147483648 by omega) e.symm), bq, jeq_t rfl, e1, bq]
    exact ⟨m2, rfl, e2, fxS e3⟩
  | some q =>
    have hq := g.mt hp hm
    obtain ⟨m2, e1, e2, e3⟩ := c_yr2 (a := 32) (by decide) g hB hb hp hq.1 (Ne.symm hq.2.1) h
    rw [oN_some, c_isPerson_t g h hq.1, bq, jeq_f (by omega) (by omega) (by omega), e1, bq]
    exact ⟨m2, rfl, e2, fxS e3⟩
theorem later_loop {r : Ru} {p B e : Nat} (hr : WR r) (hb : B + 100 ≤ 900000) (he : e ≤ 60) (hp : p < rP r) : ∀ n k x y mx mm, k ≤ e → e - k < n → WL r x (B + k) → WL r y (B + k) → E1 r p x y → IC r x mx 32 → IM r y mm → ∃ v y2 mx2 mm2, X11_later_b46 n (nI p) (nI e) (nI k) mx = some (v, mx2) ∧ X12_later_b38 n (nI p) (nI e) (nI k) mm = (bnd (X12_isAhead mm2) fun _ m_11 => some (v, m_11)) ∧ FX mx mx2 ∧ IM r y2 mm2 ∧ FL (fun c => c = 5 ∨ c = 6 ∨ c = 8) mm mm2 := by
  have hP := hr.2.1
  intro n
  induction n with
  | zero => intro k x y mx mm _ h; omega
  | succ n ih =>
    intro k x y mx mm hk hn wx wy hE hc hm
    have gx : GX r x := ⟨hr, wx.mono (by omega)⟩
    have gy : GX r y := ⟨hr, wy.mono (by omega)⟩
    rw [X11_later_b46, X12_later_b38, kn1, K1]
    rcases Nat.eq_or_lt_of_le hk with he | hl
    · subst he
      have c1 : gi mx 36 p = _ := hc.list hp
      have el : ls r x p = ls r y p := ls_eq (fun t ht => by rw [has, has, hE.2.1 t ht])
      rw [jle_t (by omega) (by omega), jle_t (by omega) (by omega), chk_in (by omega) (by omega), ix_nI (by omega), c1, m_listOf gy hm hp, bq, el]
      exact ⟨_, _, _, _, rfl, rfl, FX.rf, hm, FL.rf⟩
    · obtain ⟨mx1, a1, a2, a3⟩ := c_around gx wx (by omega) hp hc
      obtain ⟨mm1, b1, b2, b3⟩ := m_yrf (y2 := NO) gy wy (by omega) hm
      obtain ⟨v, y2, mx2, mm2, i1, i2, i3, i4, i5⟩ := ih (k + 1) _ _ mx1 mm1 (by omega) (by omega) wx.xr wy.xf (hE.yr gy hp) a2 b2
      rw [jle_f hl (by omega), jle_f hl (by omega), a1, bq, b1, bq, nadd]
      exact ⟨v, y2, mx2, mm2, i1, i2, a3.tr i3, i4, (fl8 b3).tr i5⟩
theorem E1.rf {r : Ru} {p : Nat} {x : Lf} : E1 r p x x := ⟨rfl, fun _ _ => rfl, fun _ _ _ _ => rfl⟩
theorem St_later_ok : St_later Rel := by
  intro k N mx mm hk ⟨s, e, ib, hw, hc, hm⟩ a b
  have g := hw.gx
  have hT := g.T; have hP := g.P
  have h := hc.2.1
  have hm0 := hm.th
  have hi := hm0.2.1
  have fin : Rel (k + 1) N mx (si mm 0 0 (nI 0)) := Rel.rd hk hw hc hm FX.rf FM.th
  rw [X11_later, X12_later, K0, lq, K60]
  by_cases ha : prs (rP (sR s)) a
  · obtain ⟨p, hp, rfl⟩ := ha
    rw [c_isPerson_t g h hp, bq, m_isPerson_t g hi hp, bq, jeq_f (by omega) (by omega) (by omega), jeq_f (by omega) (by omega) (by omega)]
    by_cases hz : rg 0 60 b
    · obtain ⟨n, _, n2, rfl⟩ := hz
      obtain ⟨mx1, a1, a2, a3⟩ := c_trial hw hc
      obtain ⟨mm1, b1, b2, b3⟩ := m_keepsAhead hT hP hi
      obtain ⟨v, y2, mx2, mm2, i1, i2, i3, i4, i5⟩ := later_loop (B := bd k) hw.2.2.2.1 (by unfold bd; omega) n2 hp FU 0 (sX s) (sX s) mx1 mm1 (by omega) (by unfold FU; omega) hw.2.2.2.2.1 hw.2.2.2.2.1 E1.rf a2 (hi.fr (fun j => (b3 1 (by decide) j).1))
      obtain ⟨mm3, b7, b8⟩ := back hw hm0 b2 b3 i4 i5 (fun c q => q)
      rw [jlt_f (by omega) (by omega), jle_t n2 (by omega), wk_t l64_60 n2 (by omega), bq, jeq_f (by omega) (by omega) (by omega), a1, bq, b1, bq, i1, i2, b7, bq]
      exact ⟨_, _, _, rfl, rfl, s, e, ib, hw.mono (by omega) (by omega), hc.fx (a3.tr i3), b8⟩
    · rw [out hz (by omega) (by omega), out_w (l := 0) l64_0 l64_60 hz (by omega) (by omega), bq, jeq_t rfl]
      exact ⟨_, _, _, rfl, rfl, fin⟩
  · rw [c_isPerson_f g h ha, bq, m_isPerson_f g hi ha, bq, jeq_t rfl, jeq_t rfl]
    exact ⟨_, _, _, rfl, rfl, fin⟩
theorem byWhen_loop {r : Ru} {p t B : Nat} (hr : WR r) (hb : B + 100 ≤ 900000) (hp : p < rP r) (ht : t < rT r) : ∀ n k x y mx mm, k ≤ 61 → 62 - k < n → WL r x (B + k) → WL r y (B + k) → E1 r p x y → IC r x mx 32 → IM r y mm → ∃ v y2 mx2 mm2, X11_byWhen_b44 n (nI p) (nI t) (nI k) mx = some (v, mx2) ∧ X12_byWhen_b35 n (nI p) (nI t) NO (nI k) mm = (bnd (X12_isAhead mm2) fun _ m_11 => some (v, m_11)) ∧ FX mx mx2 ∧ IM r y2 mm2 ∧ FL (fun c => c = 5 ∨ c = 6 ∨ c = 8) mm mm2 := by
  have hP := hr.2.1
  have hT := hr.1
  intro n
  induction n with
  | zero => intro k x y mx mm _ h; omega
  | succ n ih =>
    intro k x y mx mm hk hn wx wy hE hc hm
    have gx : GX r x := ⟨hr, wx.mono (by omega)⟩
    have gy : GX r y := ⟨hr, wy.mono (by omega)⟩
    rw [X11_byWhen_b44, X12_byWhen_b35, kn1, K60, K1, K0]
    rcases Nat.eq_or_lt_of_le hk with he | hl
    · subst he
      rw [jlt_t (by omega) (by omega), jlt_t (by omega) (by omega)]
      exact ⟨_, _, _, _, rfl, rfl, FX.rf, hm, FL.rf⟩
    · have c1 := c_has (a := 32) gx hc hp ht
      have c1 : X5_has 33 (nI p) (nI t) mx = _ := c1
      have d1 := hm.sn hp ht
      obtain ⟨mm1, b1, b2, b3⟩ := m_yrf (y2 := NO) gy wy (by omega) hm
      rw [jlt_f (by omega) (by omega), jlt_f (by omega) (by omega), jm_t, c1, bq, X12_byWhen_b68, X12_byWhen_b68, kn1, b1, bq, bq, has, hE.2.1 t ht]
      simp (disch := omega) only [K41, K14, nmul, nadd, chk_in, ix_nI, d1, K1]
      cases hs : lsn y p t with
      | none =>
        obtain ⟨mx1, a1, a2, a3⟩ := c_around gx wx (by omega) hp hc
        obtain ⟨v, y2, mx2, mm2, i1, i2, i3, i4, i5⟩ := ih (k + 1) _ _ mx1 mm1 (by omega) (by omega) wx.xr wy.xf (hE.yr gy hp) a2 b2
        rw [if_pos (show nI (if (none : Option Nat).isSome = true then 1 else 0) = nI 0 from rfl), a1, bq, oN_none, jm_t]
        exact ⟨v, y2, mx2, mm2, i1, i2, a3.tr i3, i4, (fl8 b3).tr i5⟩
      | some w =>
        have hw := gy.sn hs
        rw [if_neg (show ¬ nI (if (some w).isSome = true then 1 else 0) = nI 0 from show ¬ nI 1 = nI 0 by decide), oN_some, jm_f (by omega)]
        refine ⟨nI k, _, mx, mm1, rfl, ?_, FX.rf, b2, fl8 b3⟩
        obtain ⟨n2, rfl⟩ : ∃ n2, n = n2 + 1 := ⟨n - 1, by omega⟩
        rw [X12_byWhen_b35, kn1, K60]
        by_cases h60 : 60 < k + 1
        · rw [jlt_t h60 (by omega)]
        · rw [jlt_f (by omega) (by omega), jm_f (by omega)]
theorem St_byWhen_ok : St_byWhen Rel := by
  intro k N mx mm hk ⟨s, e, ib, hw, hc, hm⟩ a b
  have g := hw.gx
  have hT := g.T; have hP := g.P
  have h := hc.2.1
  have hm0 := hm.th
  have hi := hm0.2.1
  have fin : Rel (k + 1) N mx (si mm 0 0 (nI 0)) := Rel.rd hk hw hc hm FX.rf FM.th
  rw [X11_byWhen, X12_byWhen, K0, lq, kn1]
  by_cases ha : prs (rP (sR s)) a
  · obtain ⟨p, hp, rfl⟩ := ha
    rw [c_isPerson_t g h hp, bq, m_isPerson_t g hi hp, bq, jeq_f (by omega) (by omega) (by omega), jeq_f (by omega) (by omega) (by omega)]
    by_cases hz : prs (rT (sR s)) b
    · obtain ⟨t, ht, rfl⟩ := hz
      obtain ⟨mx1, a1, a2, a3⟩ := c_trial hw hc
      obtain ⟨mm1, b1, b2, b3⟩ := m_keepsAhead hT hP hi
      obtain ⟨v, y2, mx2, mm2, i1, i2, i3, i4, i5⟩ := byWhen_loop (B := bd k) hw.2.2.2.1 (by unfold bd; omega) hp ht FU 0 (sX s) (sX s) mx1 mm1 (by omega) (by unfold FU; omega) hw.2.2.2.2.1 hw.2.2.2.2.1 E1.rf a2 (hi.fr (fun j => (b3 1 (by decide) j).1))
      obtain ⟨mm3, b7, b8⟩ := back hw hm0 b2 b3 i4 i5 (fun c q => q)
      rw [c_isThing_t g h ht, bq, m_isThing_t g hi ht, bq, jeq_f (by omega) (by omega) (by omega), jeq_f (by omega) (by omega) (by omega), a1, bq, b1, bq, i1, i2, b7, bq]
      exact ⟨_, _, _, rfl, rfl, s, e, ib, hw.mono (by omega) (by omega), hc.fx (a3.tr i3), b8⟩
    · rw [c_isThing_f g h hz, bq, m_isThing_f g hi hz, bq, jeq_t rfl, jeq_t rfl]
      exact ⟨_, _, _, rfl, rfl, fin⟩
  · rw [c_isPerson_f g h ha, bq, m_isPerson_f g hi ha, bq, jeq_t rfl, jeq_t rfl]
    exact ⟨_, _, _, rfl, rfl, fin⟩
