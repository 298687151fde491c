/-! all pairs, laid -/
def b1 (b : Bool) : Nat := if b then 1 else 0
theorem b1_lt (b : Bool) : b1 b < 2 := by cases b <;> decide
theorem narb (b : Bool) : vp_nar .boolean (nI (if b then 1 else 0)) = nI (b1 b) := by cases b <;> decide
def CT (P : Nat) (O : Nat → Nat → Bool) (G : Nat → Nat → Int32) (m : Mem) : Prop := gi m 90 0 = nI P ∧ ∀ p q, p < P → q < P → p ≠ q → gi m 91 (p * 8 + q) = nI (b1 (O p q)) ∧ gi m 92 (p * 8 + q) = G p q
def MT (P : Nat) (O : Nat → Nat → Bool) (G : Nat → Nat → Int32) (m : Mem) : Prop := ∀ p q, p < P → q < P → p ≠ q → gi m 9 (8 * p + q) = G p q ∧ gi m 12 (8 * p + q) = nI (b1 (O p q))
def s92 (c : Nat) : Prop := c = 23 ∨ c = 24 ∨ c = 91 ∨ c = 92
theorem c_sur_in {r : Ru} {x : Lf} {p : Nat} {k13 : Int32 → Mem → Option (Unit × Mem)} (g : GX r x) (hp : p < rP r) : ∀ n q m, p < q → q ≤ rP r → rP r - q < n → IC r x m 25 → gi m 90 0 = nI (rP r) → (∀ i j, i < rP r → j < rP r → i ≠ j → (i < p ∨ j < p ∨ (i = p ∧ j < q) ∨ (j = p ∧ i < q)) → gi m 91 (i * 8 + j) = nI (b1 (my r x i j)) ∧ gi m 92 (i * 8 + j) = gd r x i j) → ∃ m2, X6_survey_b25 25 k13 n (nI p) (nI q) m = k13 (nI (p + 1)) m2 ∧ IC r x m2 25 ∧ gi m2 90 0 = nI (rP r) ∧ (∀ i j, i < rP r → j < rP r → i ≠ j → (i < p + 1 ∨ j < p + 1) → gi m2 91 (i * 8 + j) = nI (b1 (my r x i j)) ∧ gi m2 92 (i * 8 + j) = gd r x i j) ∧ Fr s92 m m2 := by
  have hP := g.P
  intro n
  induction n with
  | zero => intro q m _ _ h; omega
  | succ n ih =>
    intro q m hpq hq hn h h90 ht
    rw [X6_survey_b25, h90, K1, K8]
    rcases Nat.eq_or_lt_of_le hq with he | hl
    · subst he
      rw [jle_t (by omega) (by omega), nadd]
      refine ⟨m, rfl, h, h90, fun i j hi hj hij hd => ht i j hi hj hij ?_, Fr.rf⟩
      omega
    · obtain ⟨m1, e1, f1⟩ := c_goodness (a := 25) (by decide) g h hp hl
      have h1 := h.f24 (by decide) f1
      obtain ⟨m2, e2, f2⟩ := c_isAllowed (a := 25) (by decide) g h1 hp hl
      have h2 := h1.f24 (by decide) f2
      have f12 : Fr s92 m m2 := (f1.tr f2).mono (fun c q => by unfold s24 at q; unfold s92; omega)
      have fM : Fr s92 m (si (si (si (si m2 92 (p * 8 + q) (gd r x p q)) 92 (q * 8 + p) (gd r x p q)) 91 (p * 8 + q) (nI (b1 (my r x p q)))) 91 (q * 8 + p) (nI (b1 (my r x p q)))) := (((f12.tr (Fr.si (by unfold s92; omega))).tr (Fr.si (by unfold s92; omega))).tr (Fr.si (by unfold s92; omega))).tr (Fr.si (by unfold s92; omega))
      obtain ⟨m3, i1, i2, i3, i4, i5⟩ := ih (q + 1) _ (by omega) (by omega) (by omega) (h.fr (fun c hc j => (fM c (by unfold s92; omega) j).1)) ((fM 90 (by unfold s92; omega) 0).1.trans h90) (fun i j hi hj hij hd => by
        by_cases c1 : i = p ∧ j = q
        · obtain ⟨rfl, rfl⟩ := c1
          refine ⟨?_, ?_⟩
          · rw [gsi (by omega), gss]
          · rw [gsn (by omega), gsn (by omega), gsi (by omega), gss]
        · by_cases c2 : i = q ∧ j = p
          · obtain ⟨rfl, rfl⟩ := c2
            refine ⟨?_, ?_⟩
            · rw [gss, my_sym]
            · rw [gsn (by omega), gsn (by omega), gss, gd_sym]
          · have q1 := ht i j hi hj hij (by omega)
            refine ⟨?_, ?_⟩
            · rw [gsi (by omega), gsi (by omega), gsn (by omega), gsn (by omega), (f1.tr f2 91 (by unfold s24; omega) _).1]
              exact q1.1
            · rw [gsn (by omega), gsn (by omega), gsi (by omega), gsi (by omega), (f1.tr f2 92 (by unfold s24; omega) _).1]
              exact q1.2)
      refine ⟨m3, ?_, i2, i3, i4, fM.tr i5⟩
      rw [← i1, jle_f hl (by omega), e1, bq, e2, bq, narb]
      simp (disch := omega) only [nmul, nadd, chk_in, ix_nI, lq]
theorem c_sur_out {r : Ru} {x : Lf} (g : GX r x) : ∀ n p m, p ≤ rP r → rP r - p < n → IC r x m 25 → gi m 90 0 = nI (rP r) → (∀ i j, i < rP r → j < rP r → i ≠ j → (i < p ∨ j < p) → gi m 91 (i * 8 + j) = nI (b1 (my r x i j)) ∧ gi m 92 (i * 8 + j) = gd r x i j) → ∃ m2, X6_survey_b13 25 n (nI p) m = some ((), m2) ∧ CT (rP r) (my r x) (gd r x) m2 ∧ Fr s92 m m2 := by
  have hP := g.P
  intro n
  induction n with
  | zero => intro p m _ h; omega
  | succ n ih =>
    intro p m hp hn h h90 ht
    rw [X6_survey_b13, h90, K1]
    rcases Nat.eq_or_lt_of_le hp with he | hl
    · subst he
      rw [jle_t (by omega) (by omega)]
      exact ⟨m, rfl, ⟨h90, fun i j hi hj hij => ht i j hi hj hij (by omega)⟩, Fr.rf⟩
    · obtain ⟨m1, a1, a2, a3, a4, a5⟩ := c_sur_in (k13 := X6_survey_b13 25 n) g hl FU (p + 1) m (by omega) (by omega) (by unfold FU; omega) h h90 (fun i j hi hj hij hd => ht i j hi hj hij (by omega))
      obtain ⟨m2, b1', b2, b3⟩ := ih (p + 1) m1 (by omega) (by omega) a2 a3 a4
      rw [jle_f hl (by omega), nadd, lq, a1, b1']
      exact ⟨m2, rfl, b2, a5.tr b3⟩
def s90 (c : Nat) : Prop := c = 23 ∨ c = 24 ∨ (90 ≤ c ∧ c ≤ 95)
theorem c_survey {r : Ru} {x : Lf} {m : Mem} (g : GX r x) (h : IC r x m 25) : ∃ m2, X6_survey 25 m = some ((), m2) ∧ CT (rP r) (my r x) (gd r x) m2 ∧ Fr s90 m m2 := by
  have hP := g.P
  have h0 : IC r x (si m 90 0 (nI (rP r))) 25 := h.si (by omega) (by omega) _ _
  obtain ⟨m2, a1, a2, a3⟩ := c_sur_out g FU 0 (si m 90 0 (nI (rP r))) (by omega) (by unfold FU; omega) h0 gss (fun i j _ _ _ hd => by omega)
  have hPx : gi m 2 1 = nI (rP r) := h.P
  rw [X6_survey, hPx, lq, K0, a1]
  exact ⟨m2, rfl, a2, (Fr.si (by unfold s90; omega)).tr (a3.mono (fun c q => by unfold s92 at q; unfold s90; omega))⟩
theorem fx90 {m m2 : Mem} (h : Fr s90 m m2) : FX m m2 := h.fx (fun c q => by unfold s90 at q; unfold scx; omega)
/-! the reference -/
def Om (s : Sg) (away years p q : Nat) : Bool := !away.testBit p && !away.testBit q && my (sR s) (sX s) p q && (decide (years = 0) || decide (years ≤ lf (ga (sR s) (sX s) p q) 40 0))
theorem m_lays_in {s : Sg} {k away years p : Nat} {k2 : Int32 → Int32 → Int32 → Mem → Option (Unit × Mem)} (hk : k ≤ 512) (hw : WS s k) (haw : away < 256) (hy : years ≤ 40) (hp : p < rP (sR s)) : ∀ n q m, q ≤ rP (sR s) → rP (sR s) - q < n → MI s m → (∀ i j, i < rP (sR s) → j < rP (sR s) → i ≠ j → (i < p ∨ (i = p ∧ j < q)) → gi m 9 (8 * i + j) = gd (sR s) (sX s) i j ∧ gi m 12 (8 * i + j) = nI (b1 (Om s away years i j))) → ∃ m2, X12_laysPairs_b15 k2 n (nI away) (nI years) (nI p) (nI q) m = k2 (nI away) (nI years) (nI (p + 1)) m2 ∧ MI s m2 ∧ (∀ i j, i < rP (sR s) → j < rP (sR s) → i ≠ j → (i < p + 1) → gi m2 9 (8 * i + j) = gd (sR s) (sX s) i j ∧ gi m2 12 (8 * i + j) = nI (b1 (Om s away years i j))) := by
  have g := hw.gx
  have hP := g.P
  intro n
  induction n with
  | zero => intro q m _ h; omega
  | succ n ih =>
    intro q m hq hn hm ht
    have hPm := hm.2.1.P
    rw [X12_laysPairs_b15, K2, chk_in (by omega) (by omega), ix_nI (by omega), hPm, K1, K0, K8]
    rcases Nat.eq_or_lt_of_le hq with he | hl
    · subst he
      rw [jle_t (by omega) (by omega), nadd]
      exact ⟨m, rfl, hm, fun i j hi hj hij hd => ht i j hi hj hij (by omega)⟩
    · rw [jle_f hl (by omega)]
      by_cases hpq : p = q
      · subst hpq
        obtain ⟨m2, i1, i2, i3⟩ := ih (p + 1) m (by omega) (by omega) hm (fun i j hi hj hij hd => ht i j hi hj hij (by omega))
        rw [jeq_t rfl, nadd]
        exact ⟨m2, i1, i2, i3⟩
      · obtain ⟨m1, e1, f1⟩ := m_goodOf g hm.2.1 hp hl
        have hm1 := hm.f56 f1
        have f9 : FM m1 (si m1 9 (8 * p + q) (gd (sR s) (sX s) p q)) := Fr.fm (S := fun c => c = 9) (Fr.si rfl) (fun c q => by unfold scm; omega)
        have hm2 := hm1.fm f9
        have t2 : ∀ i j, i < rP (sR s) → j < rP (sR s) → i ≠ j → ((i < p ∨ (i = p ∧ j < q)) → gi (si m1 9 (8 * p + q) (gd (sR s) (sX s) p q)) 9 (8 * i + j) = gd (sR s) (sX s) i j ∧ gi (si m1 9 (8 * p + q) (gd (sR s) (sX s) p q)) 12 (8 * i + j) = nI (b1 (Om s away years i j))) := fun i j hi hj hij hd => by
          have q1 := ht i j hi hj hij hd
          exact ⟨by rw [gsi (by omega), (f1 9 (by unfold s56; omega) _).1]; exact q1.1, by rw [gsn (by omega), (f1 12 (by unfold s56; omega) _).1]; exact q1.2⟩
        /- what is left to do once mays is known -/
        have fin : ∀ (m3 : Mem) (b : Bool), MI s m3 → (∀ j, gi m3 9 j = gi (si m1 9 (8 * p + q) (gd (sR s) (sX s) p q)) 9 j ∧ gi m3 12 j = gi (si m1 9 (8 * p + q) (gd (sR s) (sX s) p q)) 12 j) → Om s away years p q = b → ∃ m2, X12_laysPairs_b15 k2 n (nI away) (nI years) (nI p) (nI (q + 1)) (si m3 12 (8 * p + q) (nI (b1 b))) = k2 (nI away) (nI years) (nI (p + 1)) m2 ∧ MI s m2 ∧ (∀ i j, i < rP (sR s) → j < rP (sR s) → i ≠ j → (i < p + 1) → gi m2 9 (8 * i + j) = gd (sR s) (sX s) i j ∧ gi m2 12 (8 * i + j) = nI (b1 (Om s away years i j))) := fun m3 b hm3 hk3 hb => by
          have f12 : FM m3 (si m3 12 (8 * p + q) (nI (b1 b))) := Fr.fm (S := fun c => c = 12) (Fr.si rfl) (fun c q => by unfold scm; omega)
          refine ih (q + 1) _ (by omega) (by omega) (hm3.fm f12) (fun i j hi hj hij hd => ?_)
          by_cases c1 : i = p ∧ j = q
          · obtain ⟨rfl, rfl⟩ := c1
            exact ⟨by rw [gsn (by omega), (hk3 _).1, gss], by rw [gss, hb]⟩
          · have q1 := t2 i j hi hj hij (by omega)
            exact ⟨by rw [gsn (by omega), (hk3 _).1]; exact q1.1, by rw [gsi (by omega), (hk3 _).2]; exact q1.2⟩
        have n0 : vp_nar .boolean (nI 0) = nI (b1 false) := by decide
        have n1 : vp_nar .boolean (nI 1) = nI (b1 true) := by decide
        rw [jeq_f hpq (by omega) (by omega), e1, bq]
        simp (disch := omega) only [nmul, nadd, chk_in, ix_nI, lq, isIn_e, bq, X12_laysPairs_b109, K1, n0, n1]
        by_cases ha1 : away.testBit p = true
        · rw [if_pos ha1, jeq_f (by omega) (by omega) (by omega)]
          exact fin _ false hm2 (fun j => ⟨rfl, rfl⟩) (by rw [Om, ha1]; rfl)
        · have ha1 : away.testBit p = false := by simpa using ha1
          rw [ha1, if_pos (show nI (if false = true then 1 else 0) = nI 0 by decide)]
          by_cases ha2 : away.testBit q = true
          · rw [if_pos ha2, jeq_f (by omega) (by omega) (by omega)]
            exact fin _ false hm2 (fun j => ⟨rfl, rfl⟩) (by rw [Om, ha1, ha2]; rfl)
          · have ha2 : away.testBit q = false := by simpa using ha2
            obtain ⟨m3, e3, f3⟩ := m_mayWed g hm2.2.1 hp hl
            have hm3 := hm2.f56 f3
            have k3 : ∀ j, gi m3 9 j = gi (si m1 9 (8 * p + q) (gd (sR s) (sX s) p q)) 9 j ∧ gi m3 12 j = gi (si m1 9 (8 * p + q) (gd (sR s) (sX s) p q)) 12 j := fun j => ⟨(f3 9 (by unfold s56; omega) j).1, (f3 12 (by unfold s56; omega) j).1⟩
            rw [ha2, if_pos (show nI (if false = true then 1 else 0) = nI 0 by decide), e3, bq]
            by_cases hmy : my (sR s) (sX s) p q = true
            · rw [if_pos hmy, jeq_f (by omega) (by omega) (by omega)]
              by_cases hy0 : years = 0
              · rw [jeq_t hy0]
                exact fin _ true hm3 k3 (by rw [Om, ha1, ha2, hmy, decide_eq_true hy0]; rfl)
              · obtain ⟨m4, e4, hm4, f4⟩ := m_holdsFor hk hw hm3 hp hl hpq
                have hlf := (lf_le (ga (sR s) (sX s) p q) 40 0).2
                have k4 : ∀ j, gi m4 9 j = gi (si m1 9 (8 * p + q) (gd (sR s) (sX s) p q)) 9 j ∧ gi m4 12 j = gi (si m1 9 (8 * p + q) (gd (sR s) (sX s) p q)) 12 j := fun j => ⟨(f4.1 9 (by omega) (by omega) j).1.trans (k3 j).1, (f4.1 12 (by omega) (by omega) j).1.trans (k3 j).2⟩
                rw [jeq_f hy0 (by omega) (by omega), e4, bq]
                by_cases hh : years ≤ lf (ga (sR s) (sX s) p q) 40 0
                · rw [jlt_f hh (by omega)]
                  exact fin _ true hm4 k4 (by rw [Om, ha1, ha2, hmy, decide_eq_true hh]; simp)
                · rw [jlt_t (by omega) (by omega)]
                  exact fin _ false hm4 k4 (by rw [Om, ha1, ha2, hmy, decide_eq_false hh, decide_eq_false hy0]; rfl)
            · have hmy : my (sR s) (sX s) p q = false := by simpa using hmy
              rw [hmy, if_pos (show nI (if false = true then 1 else 0) = nI 0 by decide)]
              exact fin _ false hm3 k3 (by rw [Om, hmy]; simp)
theorem m_lays_out {s : Sg} {k away years : Nat} (hk : k ≤ 512) (hw : WS s k) (haw : away < 256) (hy : years ≤ 40) : ∀ n p m, p ≤ rP (sR s) → rP (sR s) - p < n → MI s m → (∀ i j, i < rP (sR s) → j < rP (sR s) → i ≠ j → i < p → gi m 9 (8 * i + j) = gd (sR s) (sX s) i j ∧ gi m 12 (8 * i + j) = nI (b1 (Om s away years i j))) → ∃ m2, X12_laysPairs_b2 n (nI away) (nI years) (nI p) m = some ((), m2) ∧ MI s m2 ∧ MT (rP (sR s)) (Om s away years) (gd (sR s) (sX s)) m2 := by
  have g := hw.gx
  have hP := g.P
  intro n
  induction n with
  | zero => intro p m _ h; omega
  | succ n ih =>
    intro p m hp hn hm ht
    have hPm := hm.2.1.P
    rw [X12_laysPairs_b2, K2, chk_in (by omega) (by omega), ix_nI (by omega), hPm, K0]
    rcases Nat.eq_or_lt_of_le hp with he | hl
    · subst he
      rw [jle_t (by omega) (by omega)]
      exact ⟨m, rfl, hm, fun i j hi hj hij => ht i j hi hj hij hi⟩
    · obtain ⟨m1, a1, a2, a3⟩ := m_lays_in (k2 := X12_laysPairs_b2 n) hk hw haw hy hl FU 0 m (by omega) (by unfold FU; omega) hm (fun i j hi hj hij hd => ht i j hi hj hij (by omega))
      obtain ⟨m2, c1, c2, c3⟩ := ih (p + 1) m1 (by omega) (by omega) a2 a3
      rw [jle_f hl (by omega), a1, c1]
      exact ⟨m2, rfl, c2, c3⟩
theorem m_laysPairs {s : Sg} {k away years : Nat} {m : Mem} (hk : k ≤ 512) (hw : WS s k) (haw : away < 256) (hy : years ≤ 40) (hm : MI s m) : ∃ m2, X12_laysPairs (nI away) (nI years) m = some ((), m2) ∧ MI s m2 ∧ MT (rP (sR s)) (Om s away years) (gd (sR s) (sX s)) m2 := by
  have g := hw.gx
  have hP := g.P
  rw [X12_laysPairs, K0]
  exact m_lays_out hk hw haw hy FU 0 m (by omega) (by unfold FU; omega) hm (fun i j _ _ _ h => by omega)
