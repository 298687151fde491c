/-! lives, changed -/
def st (x : Lf) (p t : Nat) (o : Option Nat) : Lf := (lag x, lmt x, fun i u => if i = p ∧ u = t then o else lsn x i u, lyr x)
def sag (x : Lf) (p v : Nat) : Lf := (fun i => if i = p then v else lag x i, lmt x, lsn x, lyr x)
def smt (x : Lf) (p : Nat) (o : Option Nat) : Lf := (lag x, fun i => if i = p then o else lmt x i, lsn x, lyr x)
def syr (x : Lf) (v : Nat) : Lf := (lag x, lmt x, lsn x, v)
theorem lsn_st (x : Lf) (p t : Nat) (o : Option Nat) (i u : Nat) : lsn (st x p t o) i u = if i = p ∧ u = t then o else lsn x i u := rfl
/-- alike as far as there are people and things -/
def EL (r : Ru) (x y : Lf) : Prop := (∀ p, p < rP r → lag x p = lag y p) ∧ (∀ p, p < rP r → lmt x p = lmt y p) ∧ (∀ p t, p < rP r → t < rT r → lsn x p t = lsn y p t) ∧ lyr x = lyr y
theorem EL.rf {r : Ru} {x : Lf} : EL r x x := ⟨fun _ _ => rfl, fun _ _ => rfl, fun _ _ _ _ => rfl, rfl⟩
theorem EL.tr {r : Ru} {x y z : Lf} (h1 : EL r x y) (h2 : EL r y z) : EL r x z := ⟨fun p hp => (h1.1 p hp).trans (h2.1 p hp), fun p hp => (h1.2.1 p hp).trans (h2.2.1 p hp), fun p t hp ht => (h1.2.2.1 p t hp ht).trans (h2.2.2.1 p t hp ht), h1.2.2.2.trans h2.2.2.2⟩
theorem ls_eq {r : Ru} {x y : Lf} {p q : Nat} (h : ∀ t, t < rT r → has x p t = has y q t) : ls r x p = ls r y q := bs_cong h
theorem wh_eq {r : Ru} {x y : Lf} {t u : Nat} (h : ∀ p, p < rP r → has x p t = has y p u) : wh r x t = wh r y u := bs_cong h
theorem EL.ls {r : Ru} {x y : Lf} (h : EL r x y) {p : Nat} (hp : p < rP r) : ls r x p = ls r y p := ls_eq (fun t ht => by rw [has, has, h.2.2.1 p t hp ht])
theorem EL.wh {r : Ru} {x y : Lf} (h : EL r x y) {t : Nat} (ht : t < rT r) : wh r x t = wh r y t := wh_eq (fun p hp => by rw [has, has, h.2.2.1 p t hp ht])
theorem ML.el {r : Ru} {x y : Lf} {m : Mem} {c o : Nat} (h : ML r x m c o) (e : EL r x y) : ML r y m c o := by
  obtain ⟨h1, h2, h3, h4⟩ := h
  obtain ⟨e1, e2, e3, e4⟩ := e
  exact ⟨fun p hp => by rw [← e1 p hp]; exact h1 p hp, fun p t hp ht => by rw [← e3 p t hp ht]; exact h2 p t hp ht, fun p hp => by rw [← e2 p hp]; exact h3 p hp, by rw [← e4]; exact h4⟩
theorem CL.el {r : Ru} {x y : Lf} {m : Mem} {a : Nat} (h : CL r x m a) (e : EL r x y) : CL r y m a := by
  obtain ⟨h1, h2, h3, h4, h5, h6⟩ := h
  refine ⟨by rw [← e.2.2.2]; exact h1, fun p hp => by rw [← e.1 p hp]; exact h2 p hp, fun p hp => by rw [← e.2.1 p hp]; exact h3 p hp, fun p hp => by rw [← e.ls hp]; exact h4 p hp, fun t ht => by rw [← e.wh ht]; exact h5 t ht, fun p t v hp ht hv => h6 p t v hp ht (by rw [e.2.2.1 p t hp ht]; exact hv)⟩
theorem IM.el {r : Ru} {x y : Lf} {m : Mem} (h : IM r x m) (e : EL r x y) : IM r y m := ⟨h.1, h.2.el e⟩
theorem IC.el {r : Ru} {x y : Lf} {m : Mem} {a : Nat} (h : IC r x m a) (e : EL r x y) : IC r y m a := ⟨h.1, h.2.el e⟩
theorem has_st (x : Lf) (p t : Nat) (o : Option Nat) (i u : Nat) : has (st x p t o) i u = if i = p ∧ u = t then o.isSome else has x i u := by
  rw [has, lsn_st]
  by_cases h : i = p ∧ u = t
  · rw [if_pos h, if_pos h]
  · rw [if_neg h, if_neg h]; rfl
theorem ls_sto {r : Ru} {x : Lf} {p t i : Nat} {o : Option Nat} (h : i ≠ p) : ls r (st x p t o) i = ls r x i := ls_eq (fun u _ => by rw [has_st, if_neg (fun q => h q.1)])
theorem wh_sto {r : Ru} {x : Lf} {p t u : Nat} {o : Option Nat} (h : u ≠ t) : wh r (st x p t o) u = wh r x u := wh_eq (fun i _ => by rw [has_st, if_neg (fun q => h q.2)])
theorem ls_st1 {r : Ru} {x : Lf} {p t v : Nat} (ht : t < rT r) : ls r (st x p t (some v)) p = ls r x p ||| 2 ^ t := by
  apply Nat.eq_of_testBit_eq
  intro i
  rw [Nat.testBit_or, Nat.testBit_two_pow, ls, ls, bs_bit, bs_bit, has_st]
  by_cases hi : i = t
  · subst hi; simp [ht]
  · simp [hi, Ne.symm hi]
theorem ls_st0 {r : Ru} {x : Lf} {p t : Nat} (hT : rT r ≤ 14) : ls r (st x p t none) p = nd (ls r x p) (2 ^ t) := by
  apply Nat.eq_of_testBit_eq
  intro i
  have hl := ls_lt hT x p
  rw [nd_bit (by omega), Nat.testBit_two_pow, ls, ls, bs_bit, bs_bit, has_st]
  by_cases hi : i = t
  · subst hi; simp
  · simp [hi, Ne.symm hi]
theorem wh_st1 {r : Ru} {x : Lf} {p t v : Nat} (hp : p < rP r) : wh r (st x p t (some v)) t = wh r x t ||| 2 ^ p := by
  apply Nat.eq_of_testBit_eq
  intro i
  rw [Nat.testBit_or, Nat.testBit_two_pow, wh, wh, bs_bit, bs_bit, has_st]
  by_cases hi : i = p
  · subst hi; simp [hp]
  · simp [hi, Ne.symm hi]
theorem wh_st0 {r : Ru} {x : Lf} {p t : Nat} (hP : rP r ≤ 8) : wh r (st x p t none) t = nd (wh r x t) (2 ^ p) := by
  apply Nat.eq_of_testBit_eq
  intro i
  have hl := wh_lt hP x t
  rw [nd_bit (by omega), Nat.testBit_two_pow, wh, wh, bs_bit, bs_bit, has_st]
  by_cases hi : i = p
  · subst hi; simp
  · simp [hi, Ne.symm hi]
theorem pl_ne {p t i u : Nat} (ht : t < 14) (hu : u < 14) (h : ¬ (i = p ∧ u = t)) : i * 14 + u ≠ p * 14 + t := by
  intro e
  apply h
  have h1 : (i * 14 + u) / 14 = i := by omega
  have h2 : (p * 14 + t) / 14 = p := by omega
  have h3 : i = p := by rw [← h1, ← h2, e]
  subst h3
  exact ⟨rfl, by omega⟩
/-- the cells of a life's lists -/
def s46 (a c : Nat) : Prop := a + 4 ≤ c ∧ c ≤ a + 6
theorem c_adopt {r : Ru} {x : Lf} {m : Mem} {a : Nat} (ha : 25 ≤ a) (hT : rT r ≤ 14) (hP : rP r ≤ 8) (h : IC r x m a) {p t : Nat} (hp : p < rP r) (ht : t < rT r) (v : Nat) : ∃ m2, X5_adopt (a + 1) (nI p) (nI t) (nI v) m = some ((), m2) ∧ IC r (st x p t (some v)) m2 a ∧ Fr (s46 a) m m2 := by
  have e1 := h.list hp
  have e2 := h.who ht
  rw [X5_adopt]
  simp (disch := omega) only [nadn, gsn, gss, gsi, if_true, if_false, chk_in, chk_tt, bq, lq, ix_nI, jle_t, jle_f, jlt_t, jlt_f, jeq_t, jeq_f, nadd, nmul, nsub, nshl, nshl2, nor, nand, nandn, ↓kn1, K0, K1, K2, K3, K4, K5, K6, K7, K8, K9, K10, K11, K12, K13, K14, K20, K24, K25, K32, K33, K40, K41, K60, K63, K64, K100, K112, K120, K128, K129, K153, K161, K162, K163, K255, K256, K900, K903, K999, K1000, K1195, K1196, K2000, K2096, K3000, K3001, K3002, K3003, K3004, K3005, K3006, K3007, K3008, e1, e2]
  refine ⟨_, rfl, ⟨h.1.fr (fun c _ _ j => ?_), ?_, fun i hi => ?_, fun i hi => ?_, fun i hi => ?_, fun u hu => ?_, fun i u w hi hu hw => ?_⟩, ((Fr.si (by unfold s46; omega)).tr (Fr.si (by unfold s46; omega))).tr (Fr.si (by unfold s46; omega))⟩
  · rw [gsn (by omega), gsn (by omega), gsn (by omega)]
  · rw [gsn (by omega), gsn (by omega), gsn (by omega)]; exact h.yr
  · rw [gsn (by omega), gsn (by omega), gsn (by omega)]; exact h.age hi
  · rw [gsn (by omega), gsn (by omega), gsn (by omega)]; exact h.mate hi
  · rw [gsn (by omega), gsn (by omega)]
    by_cases hip : i = p
    · subst hip
      rw [gss, ls_st1 ht]
    · rw [gsi hip, ls_sto hip]; exact h.list hi
  · rw [gsn (by omega)]
    by_cases hut : u = t
    · subst hut
      rw [gss, wh_st1 hp]
    · rw [gsi hut, gsn (by omega), wh_sto hut]; exact h.who hu
  · by_cases hb : i = p ∧ u = t
    · obtain ⟨rfl, rfl⟩ := hb
      rw [lsn_st, if_pos ⟨rfl, rfl⟩] at hw
      injection hw with hw
      subst hw
      rw [gss]
    · rw [lsn_st, if_neg hb] at hw
      rw [gsi (pl_ne (by omega) (by omega) hb), gsn (by omega), gsn (by omega)]
      exact h.held hi hu hw
theorem c_drop {r : Ru} {x : Lf} {m : Mem} {a : Nat} (ha : 25 ≤ a) (hT : rT r ≤ 14) (hP : rP r ≤ 8) (h : IC r x m a) {p t : Nat} (hp : p < rP r) (ht : t < rT r) : ∃ m2, X5_drop (a + 1) (nI p) (nI t) m = some ((), m2) ∧ IC r (st x p t none) m2 a ∧ Fr (s46 a) m m2 := by
  have e1 := h.list hp
  have e2 := h.who ht
  rw [X5_drop]
  simp (disch := omega) only [nadn, gsn, gss, gsi, if_true, if_false, chk_in, chk_tt, bq, lq, ix_nI, jle_t, jle_f, jlt_t, jlt_f, jeq_t, jeq_f, nadd, nmul, nsub, nshl, nshl2, nor, nand, nandn, ↓kn1, K0, K1, K2, K3, K4, K5, K6, K7, K8, K9, K10, K11, K12, K13, K14, K20, K24, K25, K32, K33, K40, K41, K60, K63, K64, K100, K112, K120, K128, K129, K153, K161, K162, K163, K255, K256, K900, K903, K999, K1000, K1195, K1196, K2000, K2096, K3000, K3001, K3002, K3003, K3004, K3005, K3006, K3007, K3008, e1, e2]
  refine ⟨_, rfl, ⟨h.1.fr (fun c _ _ j => ?_), ?_, fun i hi => ?_, fun i hi => ?_, fun i hi => ?_, fun u hu => ?_, fun i u w hi hu hw => ?_⟩, (Fr.si (by unfold s46; omega)).tr (Fr.si (by unfold s46; omega))⟩
  · rw [gsn (by omega), gsn (by omega)]
  · rw [gsn (by omega), gsn (by omega)]; exact h.yr
  · rw [gsn (by omega), gsn (by omega)]; exact h.age hi
  · rw [gsn (by omega), gsn (by omega)]; exact h.mate hi
  · rw [gsn (by omega)]
    by_cases hip : i = p
    · subst hip
      rw [gss, ls_st0 hT]
    · rw [gsi hip, ls_sto hip]; exact h.list hi
  · by_cases hut : u = t
    · subst hut
      rw [gss, wh_st0 hP]
    · rw [gsi hut, gsn (by omega), wh_sto hut]; exact h.who hu
  · rw [gsn (by omega), gsn (by omega)]
    by_cases hb : i = p ∧ u = t
    · rw [lsn_st, if_pos hb] at hw
      cases hw
    · rw [lsn_st, if_neg hb] at hw
      exact h.held hi hu hw
/-- a thing that isn't told is dropped: nothing changes -/
theorem c_drop2 {r : Ru} {x : Lf} {m : Mem} {a : Nat} (ha : 25 ≤ a) (hT : rT r ≤ 14) (hP : rP r ≤ 8) (h : IC r x m a) {p t : Nat} (hp : p < rP r) (ht : rT r ≤ t) (ht2 : t < 14) : ∃ m2, X5_drop (a + 1) (nI p) (nI t) m = some ((), m2) ∧ IC r x m2 a ∧ Fr (s46 a) m m2 := by
  have e1 := h.list hp
  rw [X5_drop]
  simp (disch := omega) only [nadn, gsn, gss, gsi, if_true, if_false, chk_in, chk_tt, bq, lq, ix_nI, jle_t, jle_f, jlt_t, jlt_f, jeq_t, jeq_f, nadd, nmul, nsub, nshl, nshl2, nor, nand, nandn, ↓kn1, K0, K1, K2, K3, K4, K5, K6, K7, K8, K9, K10, K11, K12, K13, K14, K20, K24, K25, K32, K33, K40, K41, K60, K63, K64, K100, K112, K120, K128, K129, K153, K161, K162, K163, K255, K256, K900, K903, K999, K1000, K1195, K1196, K2000, K2096, K3000, K3001, K3002, K3003, K3004, K3005, K3006, K3007, K3008, e1]
  refine ⟨_, rfl, ⟨h.1.fr (fun c _ _ j => ?_), ?_, fun i hi => ?_, fun i hi => ?_, fun i hi => ?_, fun u hu => ?_, fun i u w hi hu hw => ?_⟩, (Fr.si (by unfold s46; omega)).tr (Fr.si (by unfold s46; omega))⟩
  · rw [gsn (by omega), gsn (by omega)]
  · rw [gsn (by omega), gsn (by omega)]; exact h.yr
  · rw [gsn (by omega), gsn (by omega)]; exact h.age hi
  · rw [gsn (by omega), gsn (by omega)]; exact h.mate hi
  · rw [gsn (by omega)]
    by_cases hip : i = p
    · subst hip
      rw [gss]
      congr 1
      apply Nat.eq_of_testBit_eq
      intro j
      have hl := ls_lt hT x i
      rw [nd_bit (by omega), Nat.testBit_two_pow, ls, bs_bit]
      by_cases hj : t = j
      · have : ¬ j < rT r := by omega
        simp [this]
      · simp [hj]
    · rw [gsi hip]; exact h.list hi
  · rw [gsi (by omega), gsn (by omega)]; exact h.who hu
  · rw [gsn (by omega), gsn (by omega)]; exact h.held hi hu hw
theorem c_hs {r : Ru} {x : Lf} {m : Mem} {a : Nat} (hT : rT r ≤ 14) (hP : rP r ≤ 8) (h : IC r x m a) {p t : Nat} (hp : p < rP r) (ht : t < 14) : X5_has (a + 1) (nI p) (nI t) m = some (nI (if decide (t < rT r) && has x p t then 1 else 0), m) := by
  have hl := ls_lt hT x p
  have hb : (ls r x p).testBit t = (decide (t < rT r) && has x p t) := by rw [ls, bs_bit]
  rw [X5_has]
  by_cases hx : (ls r x p).testBit t = true
  · simp (disch := first | exact hx | omega) only [nadn, gsn, gss, gsi, if_true, if_false, chk_in, chk_tt, bq, lq, ix_nI, jle_t, jle_f, jlt_t, jlt_f, jeq_t, jeq_f, nadd, nmul, nsub, nshl, nshl2, nor, nand, nandn, ↓kn1, K0, K1, K2, K3, K4, K5, K6, K7, K8, K9, K10, K11, K12, K13, K14, K20, K24, K25, K32, K33, K40, K41, K60, K63, K64, K100, K112, K120, K128, K129, K153, K161, K162, K163, K255, K256, K900, K903, K999, K1000, K1195, K1196, K2000, K2096, K3000, K3001, K3002, K3003, K3004, K3005, K3006, K3007, K3008, h.list hp, jbit_t]
    rw [← hb, if_pos hx]
  · have hx : (ls r x p).testBit t = false := by simpa using hx
    simp (disch := first | exact hx | omega) only [nadn, gsn, gss, gsi, if_true, if_false, chk_in, chk_tt, bq, lq, ix_nI, jle_t, jle_f, jlt_t, jlt_f, jeq_t, jeq_f, nadd, nmul, nsub, nshl, nshl2, nor, nand, nandn, ↓kn1, K0, K1, K2, K3, K4, K5, K6, K7, K8, K9, K10, K11, K12, K13, K14, K20, K24, K25, K32, K33, K40, K41, K60, K63, K64, K100, K112, K120, K128, K129, K153, K161, K162, K163, K255, K256, K900, K903, K999, K1000, K1195, K1196, K2000, K2096, K3000, K3001, K3002, K3003, K3004, K3005, K3006, K3007, K3008, h.list hp, jbit_f]
    rw [← hb, hx]
    rfl
