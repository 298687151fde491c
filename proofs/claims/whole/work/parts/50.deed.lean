/-! deeds -/
def mry (x : Lf) (p q : Nat) : Lf := smt (smt x p (some q)) q (some p)
def spl (x : Lf) (p q : Nat) : Lf := smt (smt x p none) q none
def cpy (x : Lf) (p q : Nat) : Lf := (lag x, lmt x, fun i t => if i = p then lsn x q t else lsn x i t, lyr x)
def tgv (x : Lf) (p t : Nat) : Lf := st x p t (if has x p t then none else some 0)
theorem lmt_smt (x : Lf) (p : Nat) (o : Option Nat) (i : Nat) : lmt (smt x p o) i = if i = p then o else lmt x i := rfl
theorem WL.xm {r : Ru} {x : Lf} {B p q : Nat} (h : WL r x B) (hp : p < rP r) (hq : q < rP r) (hn : p ≠ q) (h1 : lmt x p = none) (h2 : lmt x q = none) : WL r (mry x p q) B := by
  obtain ⟨a1, a2, a3, a4⟩ := h
  refine ⟨a1, a2, a3, fun i u hi hu => ?_⟩
  rw [mry, lmt_smt, lmt_smt] at hu ⊢
  by_cases e1 : i = q
  · rw [if_pos e1] at hu
    injection hu with hu
    subst hu e1
    exact ⟨hp, hn, by rw [if_neg hn, if_pos rfl]⟩
  · rw [if_neg e1] at hu
    by_cases e2 : i = p
    · rw [if_pos e2] at hu
      injection hu with hu
      subst hu e2
      exact ⟨hq, Ne.symm hn, by rw [if_pos rfl]⟩
    · rw [if_neg e2] at hu
      have k := a4 i u hi hu
      refine ⟨k.1, k.2.1, ?_⟩
      rw [if_neg (fun e => ?_), if_neg (fun e => ?_)]
      · exact k.2.2
      · rw [e, h1] at k; cases k.2.2
      · rw [e, h2] at k; cases k.2.2
theorem WL.xs {r : Ru} {x : Lf} {B p q : Nat} (h : WL r x B) (hp : p < rP r) (h1 : lmt x p = some q) : WL r (spl x p q) B := by
  obtain ⟨a1, a2, a3, a4⟩ := h
  refine ⟨a1, a2, a3, fun i u hi hu => ?_⟩
  have k0 := a4 p q hp h1
  rw [spl, lmt_smt, lmt_smt] at hu ⊢
  by_cases e1 : i = q
  · rw [if_pos e1] at hu; cases hu
  · rw [if_neg e1] at hu
    by_cases e2 : i = p
    · rw [if_pos e2] at hu; cases hu
    · rw [if_neg e2] at hu
      have k := a4 i u hi hu
      refine ⟨k.1, k.2.1, ?_⟩
      rw [if_neg (fun e => ?_), if_neg (fun e => ?_)]
      · exact k.2.2
      · rw [e, h1] at k
        have := k.2.2
        injection this with this
        exact e1 this.symm
      · rw [e, k0.2.2] at k
        have := k.2.2
        injection this with this
        exact e2 this.symm
theorem WL.xc {r : Ru} {x : Lf} {B : Nat} (h : WL r x B) (p q : Nat) : WL r (cpy x p q) B := by
  obtain ⟨a1, a2, a3, a4⟩ := h
  refine ⟨a1, a2, fun i t v hv => ?_, a4⟩
  have hv : (if i = p then lsn x q t else lsn x i t) = some v := hv
  split at hv
  · exact a3 _ _ _ hv
  · exact a3 _ _ _ hv
theorem WL.xt {r : Ru} {x : Lf} {B : Nat} (h : WL r x B) (p t : Nat) (o : Option Nat) (ho : ∀ v, o = some v → v ≤ B) : WL r (st x p t o) B := by
  obtain ⟨a1, a2, a3, a4⟩ := h
  refine ⟨a1, a2, fun i u v hv => ?_, a4⟩
  rw [lsn_st] at hv
  split at hv
  · exact ho v hv
  · exact a3 _ _ _ hv
theorem WL.xg {r : Ru} {x : Lf} {B : Nat} (h : WL r x B) (p t : Nat) : WL r (tgv x p t) B := h.xt _ _ _ (fun v hv => by
  split at hv
  · cases hv
  · injection hv with hv; omega)
/-! the class does them -/
theorem c_marry {r : Ru} {x : Lf} {m : Mem} {a : Nat} (ha : 25 ≤ a) (hP : rP r ≤ 8) (h : IC r x m a) {p q : Nat} (hp : p < rP r) (hq : q < rP r) : ∃ m2, X5_marry (a + 1) (nI p) (nI q) m = some ((), m2) ∧ IC r (mry x p q) m2 a ∧ Fr (s16 a) m m2 := by
  rw [X5_marry]
  simp (disch := omega) only [nadn, gsn, gss, gsi, if_true, if_false, chk_in, chk_tt, bq, lq, ix_nI, jle_t, jle_f, jlt_t, jlt_f, jeq_t, jeq_f, nadd, nmul, nsub, nshl, nshl2, nor, nand, nandn, ↓kn1, K0, K1, K2, K3, K4, K5, K6, K7, K8, K9, K10, K11, K12, K13, K14, K20, K24, K25, K32, K33, K40, K41, K60, K63, K64, K100, K112, K120, K128, K129, K153, K161, K162, K163, K255, K256, K900, K903, K999, K1000, K1195, K1196, K2000, K2096, K3000, K3001, K3002, K3003, K3004, K3005, K3006, K3007, K3008]
  exact ⟨_, rfl, (h.wmt ha (p := p) (some q)).wmt ha (p := q) (some p), (Fr.si (by unfold s16; omega)).tr (Fr.si (by unfold s16; omega))⟩
theorem c_split {r : Ru} {x : Lf} {m : Mem} {a : Nat} (ha : 25 ≤ a) (hP : rP r ≤ 8) (h : IC r x m a) {p q : Nat} (hp : p < rP r) (hq : q < rP r) (hm : lmt x p = some q) : ∃ m2, X5_split (a + 1) (nI p) m = some ((), m2) ∧ IC r (spl x p q) m2 a ∧ Fr (s16 a) m m2 := by
  have e := h.mate hp
  rw [hm, oN_some] at e
  rw [X5_split]
  simp (disch := omega) only [nadn, gsn, gss, gsi, if_true, if_false, chk_in, chk_tt, bq, lq, ix_nI, jle_t, jle_f, jlt_t, jlt_f, jeq_t, jeq_f, nadd, nmul, nsub, nshl, nshl2, nor, nand, nandn, ↓kn1, K0, K1, K2, K3, K4, K5, K6, K7, K8, K9, K10, K11, K12, K13, K14, K20, K24, K25, K32, K33, K40, K41, K60, K63, K64, K100, K112, K120, K128, K129, K153, K161, K162, K163, K255, K256, K900, K903, K999, K1000, K1195, K1196, K2000, K2096, K3000, K3001, K3002, K3003, K3004, K3005, K3006, K3007, K3008, e]
  exact ⟨_, rfl, (h.wmt ha (p := p) none).wmt ha (p := q) none, (Fr.si (by unfold s16; omega)).tr (Fr.si (by unfold s16; omega))⟩
theorem c_takeOrGive {r : Ru} {x : Lf} {m : Mem} {a : Nat} (ha : 25 ≤ a) (g : GX r x) (h : IC r x m a) {p t : Nat} (hp : p < rP r) (ht : t < rT r) : ∃ m2, X10_takeOrGive a (nI p) (nI t) m = some ((), m2) ∧ IC r (tgv x p t) m2 a ∧ Fr (s46 a) m m2 := by
  have hT := g.T
  have e := c_hs g.T g.P h hp (show t < 14 by omega)
  rw [decide_eq_true ht, Bool.true_and] at e
  rw [X10_takeOrGive, e, bq, tgv]
  by_cases hx : has x p t = true
  · obtain ⟨m2, e1, e2, e3⟩ := c_drop ha g.T g.P h hp ht
    rw [hx, if_neg (by decide), e1, bq, if_pos rfl]
    exact ⟨m2, rfl, e2, e3⟩
  · obtain ⟨m2, e1, e2, e3⟩ := c_adopt ha g.T g.P h hp ht 0
    have hx : has x p t = false := by simpa using hx
    rw [hx, if_pos (by decide), K0, e1, bq, if_neg (by decide)]
    exact ⟨m2, rfl, e2, e3⟩
def cpk (r : Ru) (x : Lf) (p q k : Nat) : Lf := (lag x, lmt x, fun i t => if i = p ∧ t < k then lsn x q t else lsn x i t, lyr x)
theorem lsn_cpk (r : Ru) (x : Lf) (p q k i t : Nat) : lsn (cpk r x p q k) i t = if i = p ∧ t < k then lsn x q t else lsn x i t := rfl
theorem cpk_s {r : Ru} {x : Lf} {p q k : Nat} {o : Option Nat} (ho : o = lsn x q k) : EL r (st (cpk r x p q k) p k o) (cpk r x p q (k + 1)) := ⟨fun _ _ => rfl, fun _ _ => rfl, fun i t _ _ => by
  rw [lsn_st, lsn_cpk, lsn_cpk]
  by_cases h1 : i = p ∧ t = k
  · rw [if_pos h1, if_pos (by omega), ho, h1.2]
  · rw [if_neg h1]
    by_cases h2 : i = p ∧ t < k
    · rw [if_pos h2, if_pos (by omega)]
    · rw [if_neg h2, if_neg (by omega)], rfl⟩
theorem cpk_t {r : Ru} {x : Lf} {p q k : Nat} (hk : rT r ≤ k) : EL r (cpk r x p q k) (cpy x p q) := ⟨fun _ _ => rfl, fun _ _ => rfl, fun i t _ ht => by
  rw [lsn_cpk]
  show _ = (if i = p then lsn x q t else lsn x i t)
  by_cases h1 : i = p
  · rw [if_pos (by omega), if_pos h1]
  · rw [if_neg (by omega), if_neg h1], rfl⟩
theorem cpk_z {r : Ru} {x : Lf} {p q : Nat} : EL r x (cpk r x p q 0) := ⟨fun _ _ => rfl, fun _ _ => rfl, fun i t _ _ => by rw [lsn_cpk, if_neg (by omega)], rfl⟩
theorem c_copy_loop {r : Ru} {x : Lf} {a p q : Nat} (ha : 25 ≤ a) (g : GX r x) (hp : p < rP r) (hq : q < rP r) (hn : p ≠ q) : ∀ n k m, k ≤ 14 → 14 - k < n → IC r (cpk r x p q k) m a → ∃ m2, X5_copyList_b2 (a + 1) n (nI p) (nI q) (nI k) m = some ((), m2) ∧ IC r (cpy x p q) m2 a ∧ Fr (s46 a) m m2 := by
  have hT := g.T; have hP := g.P
  intro n
  induction n with
  | zero => intro k m _ h; omega
  | succ n ih =>
    intro k m hk hn2 h
    rw [X5_copyList_b2]
    rcases Nat.eq_or_lt_of_le hk with he | hl
    · subst he
      simp (disch := omega) only [nadn, gsn, gss, gsi, if_true, if_false, chk_in, chk_tt, bq, lq, ix_nI, jle_t, jle_f, jlt_t, jlt_f, jeq_t, jeq_f, nadd, nmul, nsub, nshl, nshl2, nor, nand, nandn, ↓kn1, K0, K1, K2, K3, K4, K5, K6, K7, K8, K9, K10, K11, K12, K13, K14, K20, K24, K25, K32, K33, K40, K41, K60, K63, K64, K100, K112, K120, K128, K129, K153, K161, K162, K163, K255, K256, K900, K903, K999, K1000, K1195, K1196, K2000, K2096, K3000, K3001, K3002, K3003, K3004, K3005, K3006, K3007, K3008]
      exact ⟨m, rfl, h.el (cpk_t (by omega)), Fr.rf⟩
    · have e := c_hs hT hP h hq hl
      have eq : lsn (cpk r x p q k) q k = lsn x q k := by rw [lsn_cpk, if_neg (fun e => hn e.1.symm)]
      rw [has, eq] at e
      simp (disch := omega) only [nadn, gsn, gss, gsi, if_true, if_false, chk_in, chk_tt, bq, lq, ix_nI, jle_t, jle_f, jlt_t, jlt_f, jeq_t, jeq_f, nadd, nmul, nsub, nshl, nshl2, nor, nand, nandn, ↓kn1, K0, K1, K2, K3, K4, K5, K6, K7, K8, K9, K10, K11, K12, K13, K14, K20, K24, K25, K32, K33, K40, K41, K60, K63, K64, K100, K112, K120, K128, K129, K153, K161, K162, K163, K255, K256, K900, K903, K999, K1000, K1195, K1196, K2000, K2096, K3000, K3001, K3002, K3003, K3004, K3005, K3006, K3007, K3008, e]
      by_cases hk2 : k < rT r
      · cases hx : lsn x q k with
        | none =>
          obtain ⟨m1, e1, e2, e3⟩ := c_drop ha hT hP h hp hk2
          obtain ⟨m2, f1, f2, f3⟩ := ih (k + 1) m1 (by omega) (by omega) (e2.el (cpk_s hx.symm))
          refine ⟨m2, ?_, f2, e3.tr f3⟩
          have e0 : (decide (k < rT r) && (none : Option Nat).isSome) = false := by simp
          simp (disch := omega) only [e0, if_false, jeq_t, e1, bq, Bool.false_eq_true]
          exact f1
        | some v =>
          obtain ⟨m1, e1, e2, e3⟩ := c_adopt ha hT hP h hp hk2 v
          obtain ⟨m2, f1, f2, f3⟩ := ih (k + 1) m1 (by omega) (by omega) (e2.el (cpk_s hx.symm))
          refine ⟨m2, ?_, f2, e3.tr f3⟩
          have hh := h.held hq hk2 (eq.trans hx)
          have e0 : (decide (k < rT r) && (some v).isSome) = true := by simp [hk2]
          simp (disch := omega) only [e0, if_true, jeq_f, chk_in, ix_nI, hh, e1, bq]
          exact f1
      · obtain ⟨m1, e1, e2, e3⟩ := c_drop2 ha hT hP h hp (show rT r ≤ k by omega) hl
        obtain ⟨m2, f1, f2, f3⟩ := ih (k + 1) m1 (by omega) (by omega) (e2.el ⟨fun _ _ => rfl, fun _ _ => rfl, fun i t _ ht => by
          rw [lsn_cpk, lsn_cpk]
          have : (t < k) = (t < k + 1) := by apply propext; omega
          simp only [this], rfl⟩)
        refine ⟨m2, ?_, f2, e3.tr f3⟩
        have e0 : ∀ b : Bool, (decide (k < rT r) && b) = false := fun b => by simp [hk2]
        simp (disch := omega) only [e0, if_false, jeq_t, e1, bq, Bool.false_eq_true]
        exact f1
theorem c_copyList {r : Ru} {x : Lf} {m : Mem} {a p q : Nat} (ha : 25 ≤ a) (g : GX r x) (h : IC r x m a) (hp : p < rP r) (hq : q < rP r) (hn : p ≠ q) : ∃ m2, X5_copyList (a + 1) (nI p) (nI q) m = some ((), m2) ∧ IC r (cpy x p q) m2 a ∧ Fr (s46 a) m m2 :=
  c_copy_loop ha g hp hq hn FU 0 m (by omega) (by unfold FU; omega) (h.el cpk_z)
/-! the reference does them -/
theorem m_weds {r : Ru} {x : Lf} {m : Mem} (hT : rT r ≤ 14) (hP : rP r ≤ 8) (h : IM r x m) {p q : Nat} (hp : p < rP r) (hq : q < rP r) : ∃ m2, X12_weds (nI p) (nI q) m = some ((), m2) ∧ IM r (mry x p q) m2 ∧ FL s8 m m2 := by
  rw [X12_weds]
  simp (disch := omega) only [nadn, gsn, gss, gsi, if_true, if_false, chk_in, chk_tt, bq, lq, ix_nI, jle_t, jle_f, jlt_t, jlt_f, jeq_t, jeq_f, nadd, nmul, nsub, nshl, nshl2, nor, nand, nandn, ↓kn1, K0, K1, K2, K3, K4, K5, K6, K7, K8, K9, K10, K11, K12, K13, K14, K20, K24, K25, K32, K33, K40, K41, K60, K63, K64, K100, K112, K120, K128, K129, K153, K161, K162, K163, K255, K256, K900, K903, K999, K1000, K1195, K1196, K2000, K2096, K3000, K3001, K3002, K3003, K3004, K3005, K3006, K3007, K3008]
  exact ⟨_, rfl, (h.wmt hT hP hp (some q)).wmt hT hP hq (some p), (FL.s1 (by omega) (by omega)).tr (FL.s1 (by omega) (by omega))⟩
theorem m_parts {r : Ru} {x : Lf} {m : Mem} (hT : rT r ≤ 14) (hP : rP r ≤ 8) (h : IM r x m) {p q : Nat} (hp : p < rP r) (hq : q < rP r) (hm : lmt x p = some q) : ∃ m2, X12_parts (nI p) m = some ((), m2) ∧ IM r (spl x p q) m2 ∧ FL s8 m m2 := by
  have e := h.wed hp
  rw [hm, oN_some] at e
  rw [X12_parts]
  simp (disch := omega) only [nadn, gsn, gss, gsi, if_true, if_false, chk_in, chk_tt, bq, lq, ix_nI, jle_t, jle_f, jlt_t, jlt_f, jeq_t, jeq_f, nadd, nmul, nsub, nshl, nshl2, nor, nand, nandn, ↓kn1, K0, K1, K2, K3, K4, K5, K6, K7, K8, K9, K10, K11, K12, K13, K14, K20, K24, K25, K32, K33, K40, K41, K60, K63, K64, K100, K112, K120, K128, K129, K153, K161, K162, K163, K255, K256, K900, K903, K999, K1000, K1195, K1196, K2000, K2096, K3000, K3001, K3002, K3003, K3004, K3005, K3006, K3007, K3008, e]
  refine ⟨_, rfl, ((h.wmt hT hP hq none).wmt hT hP hp none).el ⟨fun _ _ => rfl, fun i _ => ?_, fun _ _ _ _ => rfl, rfl⟩, (FL.s1 (by omega) (by omega)).tr (FL.s1 (by omega) (by omega))⟩
  rw [spl, lmt_smt, lmt_smt, lmt_smt, lmt_smt]
  by_cases h1 : i = p
  · by_cases h2 : i = q
    · rw [if_pos h1, if_pos h2]
    · rw [if_pos h1, if_neg h2, if_pos h1]
  · by_cases h2 : i = q
    · rw [if_neg h1, if_pos h2, if_pos h2]
    · rw [if_neg h1, if_neg h2, if_neg h2, if_neg h1]
theorem m_copy_loop {r : Ru} {x : Lf} {p q : Nat} (hT : rT r ≤ 14) (hP : rP r ≤ 8) (hp : p < rP r) (hq : q < rP r) (hn : p ≠ q) : ∀ n k m, k ≤ 14 → 14 - k < n → IM r (cpk r x p q k) m → ∃ m2, X12_does_b38 n (nI p) (nI q) (nI k) m = some ((), m2) ∧ IM r (cpy x p q) m2 ∧ FL s8 m m2 := by
  intro n
  induction n with
  | zero => intro k m _ h; omega
  | succ n ih =>
    intro k m hk hn2 h
    rw [X12_does_b38]
    rcases Nat.eq_or_lt_of_le hk with he | hl
    · subst he
      simp (disch := omega) only [nadn, gsn, gss, gsi, if_true, if_false, chk_in, chk_tt, bq, lq, ix_nI, jle_t, jle_f, jlt_t, jlt_f, jeq_t, jeq_f, nadd, nmul, nsub, nshl, nshl2, nor, nand, nandn, ↓kn1, K0, K1, K2, K3, K4, K5, K6, K7, K8, K9, K10, K11, K12, K13, K14, K20, K24, K25, K32, K33, K40, K41, K60, K63, K64, K100, K112, K120, K128, K129, K153, K161, K162, K163, K255, K256, K900, K903, K999, K1000, K1195, K1196, K2000, K2096, K3000, K3001, K3002, K3003, K3004, K3005, K3006, K3007, K3008]
      exact ⟨m, rfl, h.el (cpk_t (by omega)), FL.rf⟩
    · simp (disch := omega) only [nadn, gsn, gss, gsi, if_true, if_false, chk_in, chk_tt, bq, lq, ix_nI, jle_t, jle_f, jlt_t, jlt_f, jeq_t, jeq_f, nadd, nmul, nsub, nshl, nshl2, nor, nand, nandn, ↓kn1, K0, K1, K2, K3, K4, K5, K6, K7, K8, K9, K10, K11, K12, K13, K14, K20, K24, K25, K32, K33, K40, K41, K60, K63, K64, K100, K112, K120, K128, K129, K153, K161, K162, K163, K255, K256, K900, K903, K999, K1000, K1195, K1196, K2000, K2096, K3000, K3001, K3002, K3003, K3004, K3005, K3006, K3007, K3008]
      by_cases hk2 : k < rT r
      · have e := h.sn hq hk2
        have eq : lsn (cpk r x p q k) q k = lsn x q k := by rw [lsn_cpk, if_neg (fun e => hn e.1.symm)]
        rw [eq] at e
        rw [e]
        obtain ⟨m2, f1, f2, f3⟩ := ih (k + 1) _ (by omega) (by omega) ((h.wst hT hP hp hk2 (lsn x q k)).el (cpk_s rfl))
        exact ⟨m2, f1, f2, (FL.s1 (by omega) (by omega)).tr f3⟩
      · have hz : IM r (cpk r x p q (k + 1)) (si m 1 (41 + 14 * p + k) (gi m 1 (41 + 14 * q + k))) := by
          have h2 : IM r (cpk r x p q (k + 1)) m := h.el ⟨fun _ _ => rfl, fun _ _ => rfl, fun i t _ ht => by
            rw [lsn_cpk, lsn_cpk]
            have : (t < k) = (t < k + 1) := by apply propext; omega
            simp only [this], rfl⟩
          refine ⟨h2.1.fl hT hP (fun j hj => gsi (by omega)), fun i hi => ?_, fun i u hi hu => ?_, fun i hi => ?_, ?_⟩
          · rw [gsi (by omega)]; exact h2.age hi
          · rw [gsi (by omega)]; exact h2.sn hi hu
          · rw [gsi (by omega)]; exact h2.wed hi
          · rw [gsi (by omega)]; exact h2.yr
        obtain ⟨m2, f1, f2, f3⟩ := ih (k + 1) _ (by omega) (by omega) hz
        exact ⟨m2, f1, f2, (FL.s1 (by omega) (by omega)).tr f3⟩
theorem m_copy {r : Ru} {x : Lf} {m : Mem} {p q : Nat} (hT : rT r ≤ 14) (hP : rP r ≤ 8) (h : IM r x m) (hp : p < rP r) (hq : q < rP r) (hn : p ≠ q) : ∃ m2, X12_does_b38 FU (nI p) (nI q) (nI 0) m = some ((), m2) ∧ IM r (cpy x p q) m2 ∧ FL s8 m m2 :=
  m_copy_loop hT hP hp hq hn FU 0 m (by omega) (by unfold FU; omega) (h.el cpk_z)
