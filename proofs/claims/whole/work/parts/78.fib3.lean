/-! the class seeks the fewest things -/
theorem c_measB_loop {r : Ru} {x : Lf} {m : Mem} {a : Nat} (ha : 25 ≤ a) (g : GX r x) (h : IC r x m a) {p q A : Nat} (hp : p < rP r) (hq : q < rP r) (h1 : A < 16384) (E1 : A &&& ls r x q = ls r x p &&& ls r x q) (E2 : A &&& rtr r q = ls r x p &&& rtr r q) : ∀ n k, k ≤ rT r → rT r - k < n → X10_measure_b21 a n (nI p) (nI q) (nI A) (nI (ls r x q)) (nI (ls r x p &&& ls r x q)) (nI (2 ^ p ||| 2 ^ q)) (nI (ras r x (ls r x p &&& ls r x q) k)) (nI k) m = some ((), wrw 23 m (fun k => if k = 3 then pcn A + pcn (ls r x q) else ww r x p q k)) := by
  have hT := g.T; have hP := g.P
  have h0 := ls_lt g.T x p; have h2 := ls_lt g.T x q
  have h3 := g.tr14 hp; have h4 := g.tr14 hq
  have h5 := g.age hp; have h6 := g.age hq
  have b1 := @and_lt14 (ls r x p) (ls r x q) h0
  have b2 := @and_lt14 (ls r x p) (rtr r q) h0
  have b3 := @and_lt14 (ls r x q) (rtr r p) h2
  obtain ⟨y1, y2, y3, y4⟩ := LY.rf (x := x) hp hq
  intro n
  induction n with
  | zero => intro k _ h; omega
  | succ n ih =>
    intro k hk hn
    rw [X10_measure_b21]
    rcases Nat.eq_or_lt_of_le hk with he | hl
    · subst he
      simp (disch := omega) only [nadn, gsn, gss, gsi, if_true, if_false, chk_in, chk_tt, bq, lq, ix_nI, jle_t, jle_f, jlt_t, jlt_f, jeq_t, jeq_f, nadd, nmul, nsub, nshl, nshl2, nor, nand, nandn, ↓kn1, K0, K1, K2, K3, K4, K5, K6, K7, K8, K9, K10, K11, K12, K13, K14, K20, K24, K25, K32, K33, K40, K41, K60, K63, K64, K100, K112, K120, K128, K129, K153, K161, K162, K163, K255, K256, K900, K903, K999, K1000, K1195, K1196, K2000, K2096, K3000, K3001, K3002, K3003, K3004, K3005, K3006, K3007, K3008, h.T, bitc, h.tr hp, h.tr hq, h.age hp, h.age hq, h.yr, E2]
      unfold wrw
      have e0 : ww r x p q 0 = pcn (ls r x p &&& ls r x q) := rfl
      have e1 : ww r x p q 1 = ras r x (ls r x p &&& ls r x q) (rT r) := rfl
      have e2 : ww r x p q 2 = pcn (ls r x p &&& rtr r q) + pcn (ls r x q &&& rtr r p) := rfl
      have e4 : ww r x p q 4 = (if lag x p ≤ lag x q then lag x q - lag x p else lag x p - lag x q) := rfl
      have e5 : ww r x p q 5 = (if lag x p ≤ lag x q then lag x q else lag x p) := rfl
      have e6 : ww r x p q 6 = lyr x := rfl
      rw [absd (by omega) (by omega)]
      simp only [reduceIte, show ¬ (0 : Nat) = 3 by decide, show ¬ (1 : Nat) = 3 by decide, show ¬ (2 : Nat) = 3 by decide, show ¬ (4 : Nat) = 3 by decide, show ¬ (5 : Nat) = 3 by decide, show ¬ (6 : Nat) = 3 by decide, e0, e1, e2, e4, e5, e6]
      by_cases hl : lag x p < lag x q
      · simp (disch := omega) only [jlt_t, if_pos (show lag x p ≤ lag x q by omega)]
      · simp (disch := omega) only [jlt_f]
        by_cases hl2 : lag x p = lag x q
        · rw [hl2]; simp
        · rw [if_neg (show ¬ lag x p ≤ lag x q by omega)]
          rw [if_neg (show ¬ lag x p ≤ lag x q by omega)]
    · have ih2 := ih (k + 1) (by omega) (by omega)
      have hw := wh_lt g.P x k
      have hc := wh_pc x k g.P
      by_cases hx : (ls r x p &&& ls r x q).testBit k = true
      · rw [ras, su, if_pos hx] at ih2
        simp (disch := first | exact hx | omega) only [nadn, gsn, gss, gsi, if_true, if_false, chk_in, chk_tt, bq, lq, ix_nI, jle_t, jle_f, jlt_t, jlt_f, jeq_t, jeq_f, nadd, nmul, nsub, nshl, nshl2, nor, nand, nandn, ↓kn1, K0, K1, K2, K3, K4, K5, K6, K7, K8, K9, K10, K11, K12, K13, K14, K20, K24, K25, K32, K33, K40, K41, K60, K63, K64, K100, K112, K120, K128, K129, K153, K161, K162, K163, K255, K256, K900, K903, K999, K1000, K1195, K1196, K2000, K2096, K3000, K3001, K3002, K3003, K3004, K3005, K3006, K3007, K3008, h.T, h.P, jbit_t, h.who hl, y4 k hl hx, bitc]
        exact ih2
      · have hx : (ls r x p &&& ls r x q).testBit k = false := by simpa using hx
        rw [ras, su, hx] at ih2
        simp (disch := first | exact hx | omega) only [nadn, gsn, gss, gsi, if_true, if_false, chk_in, chk_tt, bq, lq, ix_nI, jle_t, jle_f, jlt_t, jlt_f, jeq_t, jeq_f, nadd, nmul, nsub, nshl, nshl2, nor, nand, nandn, ↓kn1, K0, K1, K2, K3, K4, K5, K6, K7, K8, K9, K10, K11, K12, K13, K14, K20, K24, K25, K32, K33, K40, K41, K60, K63, K64, K100, K112, K120, K128, K129, K153, K161, K162, K163, K255, K256, K900, K903, K999, K1000, K1195, K1196, K2000, K2096, K3000, K3001, K3002, K3003, K3004, K3005, K3006, K3007, K3008, h.T, jbit_f]
        simpa [ras] using ih2
theorem c_measB {r : Ru} {x : Lf} {m : Mem} {a : Nat} (ha : 25 ≤ a) (g : GX r x) (h : IC r x m a) {p q A : Nat} (hp : p < rP r) (hq : q < rP r) (h1 : A < 16384) (E1 : A &&& ls r x q = ls r x p &&& ls r x q) (E2 : A &&& rtr r q = ls r x p &&& rtr r q) : X10_measure a (nI p) (nI q) (nI A) (nI (ls r x q)) m = some ((), wrw 23 m (fun k => if k = 3 then pcn A + pcn (ls r x q) else ww r x p q k)) := by
  have hP := g.P
  rw [X10_measure]
  simp (disch := omega) only [nadn, gsn, gss, gsi, if_true, if_false, chk_in, chk_tt, bq, lq, ix_nI, jle_t, jle_f, jlt_t, jlt_f, jeq_t, jeq_f, nadd, nmul, nsub, nshl, nshl2, nor, nand, nandn, ↓kn1, K0, K1, K2, K3, K4, K5, K6, K7, K8, K9, K10, K11, K12, K13, K14, K20, K24, K25, K32, K33, K40, K41, K60, K63, K64, K100, K112, K120, K128, K129, K153, K161, K162, K163, K255, K256, K900, K903, K999, K1000, K1195, K1196, K2000, K2096, K3000, K3001, K3002, K3003, K3004, K3005, K3006, K3007, K3008, E1]
  exact c_measB_loop ha g h hp hq h1 E1 E2 FU 0 (by omega) (by have := g.T; unfold FU; omega)
/-- what taking up t does -/
def efl (r : Ru) (x : Lf) (p q t : Nat) : Nat := if t < rT r then 64 * ww r (fbx x p (2 ^ t)) p q 1 + ww r (fbx x p (2 ^ t)) p q 2 else 64 * ww r x p q 1 + ww r x p q 2
theorem ww1_le {r : Ru} {x : Lf} (g : GX r x) (p q : Nat) : ww r x p q 1 ≤ 126 := ras_le g.P x _ g.T
theorem ww2_le (r : Ru) (x : Lf) (p q : Nat) : ww r x p q 2 ≤ 28 := by
  have := pcn_le (ls r x p &&& rtr r q)
  have := pcn_le (ls r x q &&& rtr r p)
  show pcn (ls r x p &&& rtr r q) + pcn (ls r x q &&& rtr r p) ≤ 28
  omega
theorem hi_and {a b t T : Nat} (hb : b < 2 ^ T) (ht : T ≤ t) : (a ||| 2 ^ t) &&& b = a &&& b := by
  apply Nat.eq_of_testBit_eq
  intro i
  rw [Nat.testBit_and, Nat.testBit_and, or_bit]
  by_cases e : t = i
  · subst e
    rw [Nat.testBit_lt_two_pow (Nat.lt_of_lt_of_le hb (Nat.pow_le_pow_right (by decide) ht))]
    simp
  · simp [e]
def s23 (c : Nat) : Prop := c = 23
theorem c_effect {r : Ru} {x : Lf} {m : Mem} (g : GX r x) (h : IC r x m 25) {p q t : Nat} (hp : p < rP r) (hq : q < rP r) (hn : p ≠ q) (h1 : gi m 96 1 = nI p) (h2 : gi m 96 2 = nI q) (ht : t < 14) : ∃ m2, X1_effect (nI t) m = some (nI (efl r x p q t), m2) ∧ Fr s23 m m2 := by
  have hP := g.P; have hT := g.T
  have c1 : gi m 29 p = _ := h.list hp
  have c2 : gi m 29 q = _ := h.list hq
  rw [X1_effect, h1, h2]
  simp (disch := omega) only [chk_in, ix_nI, c1, c2, K1, nshl, nor]
  by_cases hl : t < rT r
  · have gy : GX r (fbx x p (2 ^ t)) := g.mk (g.2.xb) (Nat.le_refl _)
    have hA : 2 ^ t < 2 ^ rT r := Nat.pow_lt_pow_right (by decide) hl
    have e := c_measure (by decide) g h hp hq (fbx_ly (x := x) (A := 2 ^ t) hp hq hn)
    rw [ls_fbx_p hA, ls_fbx_o (Ne.symm hn)] at e
    have k1 := ww1_le gy p q
    have k2 := ww2_le r (fbx x p (2 ^ t)) p q
    rw [e, bq]
    simp (disch := omega) only [K2, K64, ix_nI, chk_in, wrw_w, nmul, nadd]
    rw [efl, if_pos hl]
    exact ⟨_, rfl, wrw_f⟩
  · have b1 : ls r x p ||| 2 ^ t < 2 ^ 14 := Nat.or_lt_two_pow (ls_lt hT x p) (Nat.pow_lt_pow_right (by decide) ht)
    have e := c_measB (by decide) g h hp hq b1 (hi_and (bs_lt _ _) (by omega)) (hi_and (g.tr hq) (by omega))
    have k1 := ww1_le g p q
    have k2 := ww2_le r x p q
    rw [e, bq]
    simp (disch := omega) only [K2, K64, ix_nI, chk_in, wrw_w]
    simp (disch := omega) only [show ¬ (1 : Nat) = 3 by decide, show ¬ (2 : Nat) = 3 by decide, if_false, nmul, nadd]
    rw [efl, if_neg hl]
    exact ⟨_, rfl, wrw_f⟩
/-- alike in what they do -/
theorem ef_alike {r : Ru} {x : Lf} {p q : Nat} (g : GX r x) (hp : p < rP r) (hq : q < rP r) (hn : p ≠ q) {t u : Nat} (ht : t < rT r) (hu : u < rT r) (hft : (ls r x p).testBit t = false) (hfu : (ls r x p).testBit u = false) (he : efl r x p q t = efl r x p q u) : cft r x p q t = cft r x p q u ∧ (rtr r q).testBit t = (rtr r q).testBit u := by
  have hT := g.T; have hP := g.P
  have hqp : q ≠ p := Ne.symm hn
  have one : ∀ t, t < rT r → (ls r x p).testBit t = false → ww r (fbx x p (2 ^ t)) p q 1 = ww r x p q 1 + cft r x p q t ∧ ww r (fbx x p (2 ^ t)) p q 2 = ww r x p q 2 + (if (rtr r q).testBit t then 1 else 0) := by
    intro t ht hf
    have hA : 2 ^ t < 2 ^ rT r := Nat.pow_lt_pow_right (by decide) ht
    have l1 := ls_fbx_p (x := x) (p := p) hA
    have l2 : ls r (fbx x p (2 ^ t)) q = ls r x q := ls_fbx_o hqp
    have lb : ls r x p < 2 ^ rT r := bs_lt _ _
    have lbq : ls r x q < 2 ^ rT r := bs_lt _ _
    have o1 : ls r x p ||| 2 ^ t < 2 ^ rT r := Nat.or_lt_two_pow lb hA
    refine ⟨?_, ?_⟩
    · show ras r (fbx x p (2 ^ t)) (ls r (fbx x p (2 ^ t)) p &&& ls r (fbx x p (2 ^ t)) q) (rT r) = ras r x (ls r x p &&& ls r x q) (rT r) + cft r x p q t
      rw [l1, l2, ras, ras, su_pt _ t (rT r) ht, su_pt (fun i => if (ls r x p &&& ls r x q).testBit i = true then ra r x i else 0) t (rT r) ht]
      have z : (ls r x p &&& ls r x q).testBit t = false := by rw [Nat.testBit_and, hf]; rfl
      have e1 : (if ((ls r x p ||| 2 ^ t) &&& ls r x q).testBit t = true then ra r (fbx x p (2 ^ t)) t else 0) = cft r x p q t := by
        rw [cft, Nat.testBit_and, or_bit, hf]
        simp only [decide_true, Bool.or_true, Bool.true_and]
        cases hb : (ls r x q).testBit t with
        | false => rfl
        | true =>
          have := (fbx_ly (x := x) (A := 2 ^ t) hp hq hn).2.2.2 t ht (by rw [l1, l2, Nat.testBit_and, or_bit, hb]; simp)
          rw [if_pos rfl, if_pos rfl, ra, ← this]
      have e2 : su (fun i => if i = t then 0 else (if ((ls r x p ||| 2 ^ t) &&& ls r x q).testBit i = true then ra r (fbx x p (2 ^ t)) i else 0)) (rT r) = su (fun i => if i = t then 0 else (if (ls r x p &&& ls r x q).testBit i = true then ra r x i else 0)) (rT r) := su_cong (fun i hi => by
        by_cases c : i = t
        · rw [if_pos c, if_pos c]
        · rw [if_neg c, if_neg c, Nat.testBit_and, Nat.testBit_and, or_bit, ra, ra, wh_fbx hp, Nat.testBit_two_pow]
          simp [Ne.symm c])
      rw [e1, e2, z, if_neg (show ¬ false = true by decide)]
      omega
    · show pcn (ls r (fbx x p (2 ^ t)) p &&& rtr r q) + pcn (ls r (fbx x p (2 ^ t)) q &&& rtr r p) = pcn (ls r x p &&& rtr r q) + pcn (ls r x q &&& rtr r p) + (if (rtr r q).testBit t then 1 else 0)
      rw [l1, l2]
      have e : pcn ((ls r x p ||| 2 ^ t) &&& rtr r q) = pcn (ls r x p &&& rtr r q) + (if (rtr r q).testBit t then 1 else 0) := by
        cases hb : (rtr r q).testBit t with
        | false =>
          have : (ls r x p ||| 2 ^ t) &&& rtr r q = ls r x p &&& rtr r q := Nat.eq_of_testBit_eq (fun i => by
            rw [Nat.testBit_and, Nat.testBit_and, or_bit]
            by_cases c : t = i
            · subst c; rw [hb]; simp
            · simp [c])
          rw [this]; rfl
        | true =>
          have : (ls r x p ||| 2 ^ t) &&& rtr r q = (ls r x p &&& rtr r q) ||| 2 ^ t := Nat.eq_of_testBit_eq (fun i => by
            rw [Nat.testBit_and, or_bit, or_bit, Nat.testBit_and]
            by_cases c : t = i
            · subst c; rw [hb]; simp
            · simp [c])
          rw [this, pcn_set (by omega) (by rw [Nat.testBit_and, hf]; rfl)]; rfl
      rw [e]; omega
  have a := one t ht hft
  have b := one u hu hfu
  rw [efl, efl, if_pos ht, if_pos hu, a.1, a.2, b.1, b.2] at he
  have k2 := ww2_le r x p q
  have : (if (rtr r q).testBit t then 1 else 0) = (if (rtr r q).testBit u then (1 : Nat) else 0) ∧ cft r x p q t = cft r x p q u := by
    have w1 := ww2_le r (fbx x p (2 ^ t)) p q
    have w2 := ww2_le r (fbx x p (2 ^ u)) p q
    rw [a.2] at w1
    rw [b.2] at w2
    omega
  refine ⟨this.2, ?_⟩
  cases x1 : (rtr r q).testBit t <;> cases x2 : (rtr r q).testBit u <;> rw [x1, x2] at this <;> first | rfl | (exfalso; simp at this)
theorem c_alike_loop {F t : Nat} {ef : Nat → Nat} {m : Mem} (hF : F < 16384) (ht : t < 14) (h3 : gi m 96 3 = nI F) (h7 : ∀ u, u ≤ t → gi m 97 u = nI (ef u)) (hb : ∀ u, u ≤ t → ef u < 1000000) : ∀ n k, k ≤ t → t - k < n → X1_findAlike_b4 n (nI t) (nI (bs k (fun u => F.testBit u && decide (ef u = ef t)))) (nI k) m = some (nI (alk F ef t), m) := by
  intro n
  induction n with
  | zero => intro k _ h; omega
  | succ n ih =>
    intro k hk hn
    rw [X1_findAlike_b4]
    rcases Nat.eq_or_lt_of_le hk with he | hl
    · subst he
      rw [jle_t (by omega) (by omega)]
      rfl
    · have ih2 := ih (k + 1) (by omega) (by omega)
      rw [bs] at ih2
      rw [jle_f (by omega) (by omega), h3, K0, K1, nshl (by omega), nand, nadd]
      cases hb1 : F.testBit k with
      | false =>
        rw [jbit_f hb1 (by omega)]
        rw [hb1, Bool.false_and, if_neg (by decide), Nat.or_zero] at ih2
        exact ih2
      | true =>
        rw [jbit_t hb1 (by omega), chk_in (by omega) (by omega), chk_in (by omega) (by omega), ix_nI (by omega), ix_nI (by omega), h7 k (by omega), h7 t (Nat.le_refl t)]
        have q1 := hb k (by omega); have q2 := hb t (by omega)
        by_cases e : ef k = ef t
        · rw [if_pos (by rw [e]), lq, nor]
          rw [hb1, decide_eq_true e, Bool.true_and, if_pos rfl] at ih2
          exact ih2
        · rw [jeq_f e (by omega) (by omega)]
          rw [hb1, decide_eq_false e, Bool.true_and, if_neg (by decide), Nat.or_zero] at ih2
          exact ih2
theorem c_alike {F t : Nat} {ef : Nat → Nat} {m : Mem} (hF : F < 16384) (ht : t < 14) (h3 : gi m 96 3 = nI F) (h7 : ∀ u, u ≤ t → gi m 97 u = nI (ef u)) (hb : ∀ u, u ≤ t → ef u < 1000000) : X1_findAlike (nI t) m = some (nI (alk F ef t), m) := by
  rw [X1_findAlike, K0]
  exact c_alike_loop hF ht h3 h7 hb FU 0 (by omega) (by unfold FU; omega)
