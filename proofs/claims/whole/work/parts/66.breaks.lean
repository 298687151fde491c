/-! dearest -/
theorem dearest_loop {s : Sg} {e : Nat} {ib : Nat → Nat} {N k p : Nat} {mm : Mem} (hw : WS s k) (hm : MI s mm) (hT : MT (rP (sR s)) (Om s 0 0) (gd (sR s) (sX s)) mm) (hp : p < rP (sR s)) : ∀ n q its (v : Int32) mx, q ≤ rP (sR s) → rP (sR s) - q < n → CI s e ib N mx → (∀ u, its = some u → u < rP (sR s) ∧ u ≠ p ∧ v = gd (sR s) (sX s) p u) → ∃ o mx2, X11_dearest_b21 n (nI p) (oN its) v (nI q) mx = some (o, mx2) ∧ X12_dearest_b27 n (nI p) (oN its) (nI q) mm = some (o, mm) ∧ Fr s24 mx mx2 := by
  have g := hw.gx
  have hP := g.P
  intro n
  induction n with
  | zero => intro q its v mx _ h; omega
  | succ n ih =>
    intro q its v mx hq hn hc hu
    have hPx : gi mx 2 1 = nI (rP (sR s)) := hc.2.1.P
    rw [X11_dearest_b21, X12_dearest_b27, K2, chk_in (by omega) (by omega), ix_nI (by omega), hm.2.1.P, hPx, kn1, K1, K0, K8]
    rcases Nat.eq_or_lt_of_le hq with he | hl
    · subst he
      rw [jle_t (by omega) (by omega), jle_t (by omega) (by omega)]
      exact ⟨_, mx, rfl, rfl, Fr.rf⟩
    · rw [jle_f hl (by omega), jle_f hl (by omega), nadd]
      by_cases hqp : q = p
      · subst hqp
        obtain ⟨o, mx2, i1, i2, i3⟩ := ih (q + 1) its v mx (by omega) (by omega) hc hu
        rw [jeq_t rfl, jeq_t rfl]
        exact ⟨o, mx2, i1, i2, i3⟩
      · obtain ⟨t1, t2⟩ := hT p q hp hl (Ne.symm hqp)
        have hO : Om s 0 0 p q = my (sR s) (sX s) p q := by simp [Om]
        rw [hO] at t2
        obtain ⟨mx1, a1, f1⟩ := c_isAllowed (a := 25) (by decide) g hc.2.1 hp hl
        have hc1 := hc.f24 f1
        rw [jeq_f hqp (by omega) (by omega), jeq_f hqp (by omega) (by omega), a1, bq]
        simp (disch := omega) only [nmul, nadd, chk_in, ix_nI, t1, t2]
        by_cases hmy : my (sR s) (sX s) p q = true
        · obtain ⟨mx2, a2, f2⟩ := c_goodness (a := 25) (by decide) g hc1.2.1 hp hl
          have hc2 := hc1.f24 f2
          rw [hmy, if_pos rfl, b1, if_pos rfl, jeq_f (by omega) (by omega) (by omega), jeq_f (by omega) (by omega) (by omega), a2, bq]
          cases its with
          | none =>
            obtain ⟨o, mx3, i1, i2, i3⟩ := ih (q + 1) (some q) (gd (sR s) (sX s) p q) mx2 (by omega) (by omega) hc2 (fun u e => by injection e with e; subst e; exact ⟨hl, hqp, rfl⟩)
            rw [oN_none, jm_t, jm_t, X11_dearest_b75, K1, nadd]
            exact ⟨o, mx3, i1, i2, (f1.tr f2).tr i3⟩
          | some u =>
            obtain ⟨u1, u2, u3⟩ := hu u rfl
            obtain ⟨t3, t4⟩ := hT p u hp u1 (Ne.symm u2)
            rw [oN_some, jm_f (by omega), jm_f (by omega)]
            simp (disch := omega) only [nmul, nadd, chk_in, ix_nI, t3]
            rw [u3]
            by_cases hle : gd (sR s) (sX s) p q ≤ gd (sR s) (sX s) p u
            · obtain ⟨o, mx3, i1, i2, i3⟩ := ih (q + 1) (some u) (gd (sR s) (sX s) p u) mx2 (by omega) (by omega) hc2 (fun w e => by injection e with e; subst e; exact ⟨u1, u2, rfl⟩)
              rw [if_pos hle, if_pos hle]
              exact ⟨o, mx3, i1, i2, (f1.tr f2).tr i3⟩
            · obtain ⟨o, mx3, i1, i2, i3⟩ := ih (q + 1) (some q) (gd (sR s) (sX s) p q) mx2 (by omega) (by omega) hc2 (fun w e => by injection e with e; subst e; exact ⟨hl, hqp, rfl⟩)
              rw [if_neg hle, if_neg hle, X11_dearest_b75, K1, nadd]
              exact ⟨o, mx3, i1, i2, (f1.tr f2).tr i3⟩
        · have hmy : my (sR s) (sX s) p q = false := by simpa using hmy
          obtain ⟨o, mx2, i1, i2, i3⟩ := ih (q + 1) its v mx1 (by omega) (by omega) hc1 hu
          rw [hmy, if_pos (show nI (if false = true then 1 else 0) = nI 0 by decide), if_pos (show nI (b1 false) = nI 0 by decide)]
          exact ⟨o, mx2, i1, i2, f1.tr i3⟩
theorem St_dearest_ok : St_dearest Rel := by
  intro k N mx mm hk ⟨s, e, ib, hw, hc, hm⟩ a
  have g := hw.gx
  have hP := g.P
  have h := hc.2.1
  have hm0 := hm.th
  have hi := hm0.2.1
  have fin : Rel (k + 1) N mx (si mm 0 0 (nI 0)) := Rel.rd hk hw hc hm FX.rf FM.th
  rw [X11_dearest, X12_dearest, K0, lq, kn1]
  by_cases ha : prs (rP (sR s)) a
  · obtain ⟨p, hp, rfl⟩ := ha
    obtain ⟨mm1, a1, a2, a3⟩ := m_laysPairs (away := 0) (years := 0) (by omega) hw (by omega) (by omega) hm0
    obtain ⟨o, mx2, i1, i2, i3⟩ := dearest_loop hw a2 a3 hp FU 0 none (nI 0) mx (by omega) (by unfold FU; omega) hc (fun u e => by cases e)
    rw [oN_none] at i1 i2
    rw [c_isPerson_t g h hp, bq, m_isPerson_t g hi hp, bq, jeq_f (by omega) (by omega) (by omega), jeq_f (by omega) (by omega) (by omega), a1, bq, i1, i2]
    exact ⟨_, _, _, rfl, rfl, s, e, ib, hw.mono (by omega) (by omega), hc.f24 i3, a2⟩
  · rw [c_isPerson_f g h ha, bq, m_isPerson_f g hi ha, bq, jeq_t rfl, jeq_t rfl]
    exact ⟨_, _, _, rfl, rfl, fin⟩
/-! breaks -/
def VW (P : Nat) (w : Nat → Option Nat) : Prop := ∀ i u, i < P → w i = some u → u < P ∧ u ≠ i
def GB (P : Nat) (G : Nat → Nat → Int32) : Prop := ∀ p q, p < P → q < P → -1000000 ≤ (G p q).toInt ∧ (G p q).toInt ≤ 1000000
/-- whether one would rather have so much good -/
def bl (G : Nat → Nat → Int32) (w : Nat → Option Nat) (i : Nat) (v : Int32) : Bool := match w i with
  | none => true
  | some u => decide (¬ v ≤ G i u)
def bk (O : Nat → Nat → Bool) (G : Nat → Nat → Int32) (w : Nat → Option Nat) (p q : Nat) : Bool := O p q && bl G w p (G p q) && bl G w q (G p q)
def ff (f : Nat → Bool) : Nat → Nat → Option Nat
  | 0, _ => none
  | n + 1, k => if f k then some k else ff f n (k + 1)
def fb (P : Nat) (f : Nat → Nat → Bool) : Nat → Nat → Option Nat
  | 0, _ => none
  | n + 1, p => match ff (f p) (P - (p + 1)) (p + 1) with
    | some q => some (10 * p + q)
    | none => fb P f n (p + 1)
/-- who is with whom, as the class and as the reference hold it -/
def CW (P : Nat) (w : Nat → Option Nat) (m : Mem) : Prop := ∀ i, i < P → gi m 95 i = oN (w i)
def MW (P : Nat) (w : Nat → Option Nat) (m : Mem) : Prop := ∀ i, i < P → gi m 10 i = oN (w i)
theorem c_goodNow {P : Nat} {O : Nat → Nat → Bool} {G : Nat → Nat → Int32} {w : Nat → Option Nat} {m : Mem} (hP : P ≤ 8) (hG : GB P G) (hT : CT P O G m) (hW : CW P w m) (hv : VW P w) {i : Nat} (hi : i < P) : ∃ v, X6_goodNow (nI i) m = some (v, m) ∧ ∀ p q, p < P → q < P → (G p q ≤ v ↔ bl G w i (G p q) = false) := by
  rw [X6_goodNow, chk_in (by omega) (by omega), ix_nI (by omega), hW i hi, lq, hT.1, K8]
  cases hw : w i with
  | none =>
    rw [oN_none, if_pos (by decide)]
    refine ⟨_, rfl, fun p q hp hq => ?_⟩
    have := hG p q hp hq
    rw [le_iff, show (-2000000000 : Int32).toInt = -2000000000 by decide, bl, hw]
    constructor
    · intro h; omega
    · intro h; cases h
  | some u =>
    obtain ⟨h1, h2⟩ := hv i u hi hw
    rw [oN_some, if_neg (by rw [L0, nI_ltI (by omega) (by omega)]; omega), jlt_t h1 (by omega)]
    simp (disch := omega) only [nmul, nadd, chk_in, ix_nI]
    refine ⟨_, rfl, fun p q hp hq => ?_⟩
    rw [(hT.2 i u hi h1 (Ne.symm h2)).2, bl, hw]
    simp
theorem m_goodAs {P : Nat} {O : Nat → Nat → Bool} {G : Nat → Nat → Int32} {w : Nat → Option Nat} {m : Mem} (hP : P ≤ 8) (hG : GB P G) (hT : MT P O G m) (hW : MW P w m) (hv : VW P w) {i : Nat} (hi : i < P) : ∃ v, X12_goodAs (nI i) m = some (v, m) ∧ ∀ p q, p < P → q < P → (G p q ≤ v ↔ bl G w i (G p q) = false) := by
  rw [X12_goodAs, chk_in (by omega) (by omega), ix_nI (by omega), hW i hi, K8, kn1]
  cases hw : w i with
  | none =>
    rw [oN_none, jm_t]
    refine ⟨_, rfl, fun p q hp hq => ?_⟩
    have := hG p q hp hq
    rw [le_iff, show (-2000000 : Int32).toInt = -2000000 by decide, bl, hw]
    constructor
    · intro h; omega
    · intro h; cases h
  | some u =>
    obtain ⟨h1, h2⟩ := hv i u hi hw
    rw [oN_some, jm_f (by omega)]
    simp (disch := omega) only [nmul, nadd, chk_in, ix_nI]
    refine ⟨_, rfl, fun p q hp hq => ?_⟩
    rw [(hT i u hi h1 (Ne.symm h2)).1, bl, hw]
    simp
theorem c_isOpen {P : Nat} {O : Nat → Nat → Bool} {G : Nat → Nat → Int32} {m : Mem} (hP : P ≤ 8) (hT : CT P O G m) {p q : Nat} (hp : p < P) (hq : q < P) (hn : p ≠ q) : X6_isOpen (nI p) (nI q) m = some (nI (b1 (O p q)), m) := by
  rw [X6_isOpen, K8]
  simp (disch := omega) only [nmul, nadd, chk_in, ix_nI]
  rw [(hT.2 p q hp hq hn).1, chk_tt]
  cases O p q <;> decide
theorem c_fb_in {P p : Nat} {O : Nat → Nat → Bool} {G : Nat → Nat → Int32} {w : Nat → Option Nat} {m : Mem} {k2 : Int32 → Mem → Option (Int32 × Mem)} (hP : P ≤ 8) (hG : GB P G) (hT : CT P O G m) (hW : CW P w m) (hv : VW P w) (hp : p < P) : ∀ n q, p < q → q ≤ P → P - q < n → X6_firstBreak_b14 k2 n (nI p) (nI q) m = (match ff (bk O G w p) (P - q) q with
    | some u => some (nI (10 * p + u), m)
    | none => k2 (nI (p + 1)) m) := by
  intro n
  induction n with
  | zero => intro q _ _ h; omega
  | succ n ih =>
    intro q hpq hq hn
    rw [X6_firstBreak_b14, hT.1, K1, K0, K8, K10]
    rcases Nat.eq_or_lt_of_le hq with he | hl
    · subst he
      rw [jle_t (by omega) (by omega), Nat.sub_self, nadd]
      rfl
    · have ih2 := ih (q + 1) (by omega) (by omega) (by omega)
      obtain ⟨v1, e1, g1⟩ := c_goodNow hP hG hT hW hv hp
      obtain ⟨v2, e2, g2⟩ := c_goodNow hP hG hT hW hv hl
      rw [show P - q = (P - (q + 1)) + 1 by omega, ff, jle_f hl (by omega)]
      simp (disch := omega) only [nmul, nadd, chk_in, ix_nI, lq, c_isOpen hP hT hp hl (show p ≠ q by omega), bq, (hT.2 p q hp hl (by omega)).2, e1, e2]
      by_cases hO : O p q = true
      · rw [hO, b1, if_pos rfl, jeq_f (by omega) (by omega) (by omega)]
        by_cases h1 : G p q ≤ v1
        · rw [if_pos h1, ih2, bk, (g1 p q hp hl).mp h1]
          simp
        · have b1' : bl G w p (G p q) = true := by
            cases hb : bl G w p (G p q) with
            | true => rfl
            | false => exact absurd ((g1 p q hp hl).mpr hb) h1
          rw [if_neg h1]
          by_cases h2 : G p q ≤ v2
          · rw [if_pos h2, ih2, bk, (g2 p q hp hl).mp h2]
            simp
          · have b2' : bl G w q (G p q) = true := by
              cases hb : bl G w q (G p q) with
              | true => rfl
              | false => exact absurd ((g2 p q hp hl).mpr hb) h2
            rw [if_neg h2, bk, hO, b1', b2']
            rfl
      · have hO : O p q = false := by simpa using hO
        rw [hO, if_pos (show nI (b1 false) = nI 0 by decide), ih2, bk, hO]
        rfl
theorem c_fb {P : Nat} {O : Nat → Nat → Bool} {G : Nat → Nat → Int32} {w : Nat → Option Nat} {m : Mem} (hP : P ≤ 8) (hG : GB P G) (hT : CT P O G m) (hW : CW P w m) (hv : VW P w) : ∀ n p, p ≤ P → P - p < n → X6_firstBreak_b2 n (nI p) m = some (oN (fb P (bk O G w) (P - p) p), m) := by
  intro n
  induction n with
  | zero => intro p _ h; omega
  | succ n ih =>
    intro p hp hn
    rw [X6_firstBreak_b2, hT.1, kn1, K1]
    rcases Nat.eq_or_lt_of_le hp with he | hl
    · subst he
      rw [jle_t (by omega) (by omega), Nat.sub_self]
      rfl
    · rw [jle_f hl (by omega), nadd, lq, c_fb_in hP hG hT hW hv hl FU (p + 1) (by omega) (by omega) (by unfold FU; omega), show P - p = (P - (p + 1)) + 1 by omega, fb]
      cases hf : ff (bk O G w p) (P - (p + 1)) (p + 1) with
      | some u => rfl
      | none => exact ih (p + 1) (by omega) (by omega)
theorem m_fb_in {r : Ru} {x : Lf} {P p : Nat} {O : Nat → Nat → Bool} {G : Nat → Nat → Int32} {w : Nat → Option Nat} {m : Mem} {k2 : Int32 → Mem → Option (Int32 × Mem)} (hP : P ≤ 8) (hG : GB P G) (hPm : gi m 1 2 = nI P) (hT : MT P O G m) (hW : MW P w m) (hv : VW P w) (hp : p < P) : ∀ n q, p < q → q ≤ P → P - q < n → X12_breaksOf_b16 k2 n (nI p) (nI q) m = (match ff (bk O G w p) (P - q) q with
    | some u => some (nI (10 * p + u), m)
    | none => k2 (nI (p + 1)) m) := by
  intro n
  induction n with
  | zero => intro q _ _ h; omega
  | succ n ih =>
    intro q hpq hq hn
    rw [X12_breaksOf_b16, K2, chk_in (by omega) (by omega), ix_nI (by omega), hPm, K1, K0, K8, K10]
    rcases Nat.eq_or_lt_of_le hq with he | hl
    · subst he
      rw [jle_t (by omega) (by omega), Nat.sub_self, nadd]
      rfl
    · have ih2 := ih (q + 1) (by omega) (by omega) (by omega)
      obtain ⟨v1, e1, g1⟩ := m_goodAs hP hG hT hW hv hp
      obtain ⟨v2, e2, g2⟩ := m_goodAs hP hG hT hW hv hl
      obtain ⟨t1, t2⟩ := hT p q hp hl (by omega)
      rw [show P - q = (P - (q + 1)) + 1 by omega, ff, jle_f hl (by omega)]
      simp (disch := omega) only [nmul, nadd, chk_in, ix_nI, bq, t1, t2, e1, e2]
      by_cases hO : O p q = true
      · rw [hO, b1, if_pos rfl, jeq_f (by omega) (by omega) (by omega)]
        by_cases h1 : G p q ≤ v1
        · rw [if_pos h1, ih2, bk, (g1 p q hp hl).mp h1]
          simp
        · have b1' : bl G w p (G p q) = true := by
            cases hb : bl G w p (G p q) with
            | true => rfl
            | false => exact absurd ((g1 p q hp hl).mpr hb) h1
          rw [if_neg h1]
          by_cases h2 : G p q ≤ v2
          · rw [if_pos h2, ih2, bk, (g2 p q hp hl).mp h2]
            simp
          · have b2' : bl G w q (G p q) = true := by
              cases hb : bl G w q (G p q) with
              | true => rfl
              | false => exact absurd ((g2 p q hp hl).mpr hb) h2
            rw [if_neg h2, bk, hO, b1', b2']
            rfl
      · have hO : O p q = false := by simpa using hO
        rw [hO, if_pos (show nI (b1 false) = nI 0 by decide), ih2, bk, hO]
        rfl
theorem m_fb {P : Nat} {O : Nat → Nat → Bool} {G : Nat → Nat → Int32} {w : Nat → Option Nat} {m : Mem} (hP : P ≤ 8) (hG : GB P G) (hPm : gi m 1 2 = nI P) (hT : MT P O G m) (hW : MW P w m) (hv : VW P w) : ∀ n p, p ≤ P → P - p < n → X12_breaksOf_b2 n (nI p) m = some (oN (fb P (bk O G w) (P - p) p), m) := by
  intro n
  induction n with
  | zero => intro p _ h; omega
  | succ n ih =>
    intro p hp hn
    rw [X12_breaksOf_b2, K2, chk_in (by omega) (by omega), ix_nI (by omega), hPm, kn1, K1]
    rcases Nat.eq_or_lt_of_le hp with he | hl
    · subst he
      rw [jle_t (by omega) (by omega), Nat.sub_self]
      rfl
    · rw [jle_f hl (by omega), nadd, lq, m_fb_in (r := r00) (x := x00) hP hG hPm hT hW hv hl FU (p + 1) (by omega) (by omega) (by unfold FU; omega), show P - p = (P - (p + 1)) + 1 by omega, fb]
      cases hf : ff (bk O G w p) (P - (p + 1)) (p + 1) with
      | some u => rfl
      | none => exact ih (p + 1) (by omega) (by omega)
theorem bk_cong {P : Nat} {O O2 : Nat → Nat → Bool} {G : Nat → Nat → Int32} {w : Nat → Option Nat} (h : ∀ p q, p < q → q < P → O p q = O2 p q) : ∀ n p, n + p ≤ P → fb P (bk O G w) n p = fb P (bk O2 G w) n p := by
  have hf : ∀ p n q, p < q → n + q ≤ P → ff (bk O G w p) n q = ff (bk O2 G w p) n q := by
    intro p n
    induction n with
    | zero => intro q _ _; rfl
    | succ n ih =>
      intro q h1 h2
      rw [ff, ff, ih (q + 1) (by omega) (by omega), bk, bk, h p q h1 (by omega)]
  intro n
  induction n with
  | zero => intro p _; rfl
  | succ n ih =>
    intro p hp
    rw [fb, fb, hf p (P - (p + 1)) (p + 1) (by omega) (by omega), ih (p + 1) (by omega)]
theorem c_leave {m : Mem} : ∀ n k, k ≤ 8 → 8 - k < n → X6_leaveAlone_b2 n (nI k) (wig m 95 0 k (fun _ => NO)) = some ((), wig m 95 0 8 (fun _ => NO)) := by
  intro n
  induction n with
  | zero => intro k _ h; omega
  | succ n ih =>
    intro k hk hn
    rw [X6_leaveAlone_b2]
    rcases Nat.eq_or_lt_of_le hk with he | hl
    · subst he
      simp (disch := omega) only [nadn, gsn, gss, gsi, if_true, if_false, chk_in, chk_tt, bq, lq, ix_nI, jle_t, jle_f, jlt_t, jlt_f, jeq_t, jeq_f, nadd, nmul, nsub, nshl, nshl2, nor, nand, nandn, ↓kn1, K0, K1, K2, K3, K4, K5, K6, K7, K8, K9, K10, K11, K12, K13, K14, K20, K24, K25, K32, K33, K40, K41, K60, K63, K64, K100, K112, K120, K128, K129, K153, K161, K162, K163, K255, K256, K900, K903, K999, K1000, K1195, K1196, K2000, K2096, K3000, K3001, K3002, K3003, K3004, K3005, K3006, K3007, K3008]
    · have ih2 := ih (k + 1) (by omega) (by omega)
      simp (disch := omega) only [nadn, gsn, gss, gsi, if_true, if_false, chk_in, chk_tt, bq, lq, ix_nI, jle_t, jle_f, jlt_t, jlt_f, jeq_t, jeq_f, nadd, nmul, nsub, nshl, nshl2, nor, nand, nandn, ↓kn1, K0, K1, K2, K3, K4, K5, K6, K7, K8, K9, K10, K11, K12, K13, K14, K20, K24, K25, K32, K33, K40, K41, K60, K63, K64, K100, K112, K120, K128, K129, K153, K161, K162, K163, K255, K256, K900, K903, K999, K1000, K1195, K1196, K2000, K2096, K3000, K3001, K3002, K3003, K3004, K3005, K3006, K3007, K3008]
      rw [wig_s m 95 0 k (fun _ => NO) _ (by omega)]
      exact ih2
theorem c_leaveAlone (m : Mem) : X6_leaveAlone m = some ((), wig m 95 0 8 (fun _ => NO)) := by
  have h := c_leave (m := m) FU 0 (by omega) (by unfold FU; omega)
  rw [wig_z] at h
  rw [X6_leaveAlone, K0, h]
theorem wig_f {S : Nat → Prop} {m : Mem} {c o n : Nat} {f : Nat → Int32} (h : S c) : Fr S m (wig m c o n f) := fun b hb j => ⟨by
  rw [gi_wig, if_neg (show ¬ (b = c ∧ o ≤ j ∧ j < o + n) from fun q => hb (by rw [q.1]; exact h))], rfl⟩
theorem CT.fr {P : Nat} {O : Nat → Nat → Bool} {G : Nat → Nat → Int32} {m m2 : Mem} (h : CT P O G m) (h90 : gi m2 90 0 = gi m 90 0) (h91 : ∀ j, gi m2 91 j = gi m 91 j) (h92 : ∀ j, gi m2 92 j = gi m 92 j) : CT P O G m2 := ⟨h90.trans h.1, fun p q hp hq hn => ⟨(h91 _).trans (h.2 p q hp hq hn).1, (h92 _).trans (h.2 p q hp hq hn).2⟩⟩
theorem c_seat {P : Nat} {w : Nat → Option Nat} {b : Nat} (hb : b < 90) (hP : P ≤ 8) : ∀ n k m, k ≤ P → P - k < n → gi m 90 0 = nI P → (∀ i, i < P → gi m b i = oN (w i)) → (∀ i, i < k → gi m 95 i = oN (w i)) → ∃ m2, X6_seat_b6 b n (nI k) m = some ((), m2) ∧ CW P w m2 ∧ Fr (fun c => c = 95) m m2 := by
  intro n
  induction n with
  | zero => intro k m _ h; omega
  | succ n ih =>
    intro k m hk hn h90 hb2 h95
    rw [X6_seat_b6, h90, K8, K1]
    rcases Nat.eq_or_lt_of_le hk with he | hl
    · subst he
      rw [jle_t (by omega) (by omega)]
      exact ⟨m, rfl, h95, Fr.rf⟩
    · obtain ⟨m2, i1, i2, i3⟩ := ih (k + 1) (si m 95 k (oN (w k))) (by omega) (by omega) (by rw [gsn (by omega)]; exact h90) (fun i hi => by rw [gsn (by omega)]; exact hb2 i hi) (fun i hi => by
        by_cases he : i = k
        · subst he; exact gss
        · rw [gsi he]; exact h95 i (by omega))
      rw [jle_f hl (by omega), jle_f (by omega) (by omega), chk_in (by omega) (by omega), chk_in (by omega) (by omega), ix_nI (by omega), hb2 k hl, lq, nadd]
      exact ⟨m2, i1, i2, Fr.tr (Fr.si rfl) i3⟩
theorem m_br_loop {r : Ru} {x : Lf} {m : Mem} : ∀ n k, k ≤ 8 → 8 - k < n → X12_breaks_b13 n (nI k) (cq m 1 153 10 0 k) = (bnd (X12_breaksOf (cq m 1 153 10 0 8)) fun r_4 m_5 => some (r_4, m_5)) := by
  intro n
  induction n with
  | zero => intro k _ h; omega
  | succ n ih =>
    intro k hk hn
    rw [X12_breaks_b13]
    rcases Nat.eq_or_lt_of_le hk with he | hl
    · subst he
      simp (disch := omega) only [nadn, gsn, gss, gsi, if_true, if_false, chk_in, chk_tt, bq, lq, ix_nI, jle_t, jle_f, jlt_t, jlt_f, jeq_t, jeq_f, nadd, nmul, nsub, nshl, nshl2, nor, nand, nandn, ↓kn1, K0, K1, K2, K3, K4, K5, K6, K7, K8, K9, K10, K11, K12, K13, K14, K20, K24, K25, K32, K33, K40, K41, K60, K63, K64, K100, K112, K120, K128, K129, K153, K161, K162, K163, K255, K256, K900, K903, K999, K1000, K1195, K1196, K2000, K2096, K3000, K3001, K3002, K3003, K3004, K3005, K3006, K3007, K3008]
    · have ih2 := ih (k + 1) (by omega) (by omega)
      have e : gi (cq m 1 153 10 0 k) 1 (153 + k) = gi m 1 (153 + k) := by rw [gi_cq, if_neg (by omega)]
      simp (disch := omega) only [nadn, gsn, gss, gsi, if_true, if_false, chk_in, chk_tt, bq, lq, ix_nI, jle_t, jle_f, jlt_t, jlt_f, jeq_t, jeq_f, nadd, nmul, nsub, nshl, nshl2, nor, nand, nandn, ↓kn1, K0, K1, K2, K3, K4, K5, K6, K7, K8, K9, K10, K11, K12, K13, K14, K20, K24, K25, K32, K33, K40, K41, K60, K63, K64, K100, K112, K120, K128, K129, K153, K161, K162, K163, K255, K256, K900, K903, K999, K1000, K1195, K1196, K2000, K2096, K3000, K3001, K3002, K3003, K3004, K3005, K3006, K3007, K3008, e]
      rw [cq_s _ _ _ _ _ _ _ (by omega)]
      exact ih2
theorem gd_gb {r : Ru} {x : Lf} (g : GX r x) : GB (rP r) (gd r x) := fun _ _ hp hq => gd_ok g hp hq
theorem gx_vw {r : Ru} {x : Lf} (g : GX r x) : VW (rP r) (lmt x) := fun _ _ hi hu => ⟨(g.mt hi hu).1, (g.mt hi hu).2.1⟩
theorem St_breaks_ok : St_breaks Rel := by
  intro k N mx mm hk ⟨s, e, ib, hw, hc, hm⟩
  have g := hw.gx
  have hP := g.P
  have h := hc.2.1
  have hm0 := hm.th
  rw [X11_breaks, X12_breaks, K0, lq]
  obtain ⟨mx1, a1, a2, a3⟩ := c_survey g h
  have hmt : ∀ i, i < rP (sR s) → gi mx1 28 i = oN (lmt (sX s) i) := fun i hi => by rw [(a3 28 (by unfold s90; omega) i).1]; exact h.mate hi
  obtain ⟨mx2, a4, a5, a6⟩ := c_seat (P := rP (sR s)) (w := lmt (sX s)) (b := 28) (by omega) hP FU 0 (wig mx1 95 0 8 (fun _ => NO)) (by omega) (by unfold FU; omega) (by rw [gi_wig, if_neg (by omega)]; exact a2.1) (fun i hi => by rw [gi_wig, if_neg (by omega)]; exact hmt i hi) (fun i hi => by omega)
  have f2 : Fr s90 mx1 mx2 := (Fr.tr (wig_f (S := s90) (by unfold s90; omega)) (a6.mono (fun c q => by unfold s90; omega)))
  have t2 : CT (rP (sR s)) (my (sR s) (sX s)) (gd (sR s) (sX s)) mx2 := a2.fr (by rw [(a6 90 (by omega) 0).1, gi_wig, if_neg (by omega)]) (fun j => by rw [(a6 91 (by omega) j).1, gi_wig, if_neg (by omega)]) (fun j => by rw [(a6 92 (by omega) j).1, gi_wig, if_neg (by omega)])
  have e1 := c_fb hP (gd_gb g) t2 a5 (gx_vw g) FU 0 (by omega) (by unfold FU; omega)
  obtain ⟨mm1, b1', b2, b3⟩ := m_laysPairs (away := 0) (years := 0) (by omega) hw (by omega) (by omega) hm0
  have l1 := m_br_loop (r := r00) (x := x00) (m := mm1) FU 0 (by omega) (by unfold FU; omega)
  rw [cq_z] at l1
  have fq : FM mm1 (cq mm1 1 153 10 0 8) := Fr.fm (S := fun c => c = 10) (fun c hc j => ⟨by rw [gi_cq, if_neg (fun q => hc q.1)], rfl⟩) (fun c q => by unfold scm; omega)
  have hm2 := b2.fm fq
  have tm : MT (rP (sR s)) (Om s 0 0) (gd (sR s) (sX s)) (cq mm1 1 153 10 0 8) := fun p q hp hq hn => by
    rw [gi_cq, if_neg (by omega), gi_cq, if_neg (by omega)]
    exact b3 p q hp hq hn
  have wm' : MW (rP (sR s)) (lmt (sX s)) (cq mm1 1 153 10 0 8) := fun i hi => by
    rw [gi_cq, if_pos (by omega), ← b2.2.1.wed hi]
    exact gix (by omega)
  have e2 := m_fb hP (gd_gb g) hm2.2.1.P tm wm' (gx_vw g) FU 0 (by omega) (by unfold FU; omega)
  have e3 : fb (rP (sR s)) (bk (Om s 0 0) (gd (sR s) (sX s)) (lmt (sX s))) (rP (sR s) - 0) 0 = fb (rP (sR s)) (bk (my (sR s) (sX s)) (gd (sR s) (sX s)) (lmt (sX s))) (rP (sR s) - 0) 0 := bk_cong (fun p q _ _ => by simp [Om]) _ _ (by omega)
  have c1 : X6_seat 28 mx1 = some ((), mx2) := by rw [X6_seat, c_leaveAlone, bq, K0]; exact a4
  rw [a1, bq, c1, bq, X6_firstBreak, K0, e1, bq, b1', bq, l1, X12_breaksOf, K0, e2, bq, e3]
  exact ⟨_, _, _, rfl, rfl, s, e, ib, hw.mono (by omega) (by omega), hc.fx ((fx90 a3).tr (fx90 f2)), hm2⟩
