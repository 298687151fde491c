/-! growing older -/
def gwo (r : Ru) (t : Nat) (o : Option Nat) : Option Nat := match o with
  | none => none
  | some v => if rwan r t ≠ 0 ∧ rwan r t ≤ v + 1 then none else some (v + 1)
def wnd (r : Ru) (t : Nat) (o : Option Nat) : Bool := match o with
  | none => false
  | some v => decide (rwan r t ≠ 0 ∧ rwan r t ≤ v + 1)
def grw (r : Ru) (A S : Nat → Bool) (x : Lf) : Lf := (fun p => if A p then lag x p + 1 else lag x p, lmt x, fun p t => if S p then gwo r t (lsn x p t) else lsn x p t, lyr x)
/-- one person's list, grown up to a thing -/
def mid (r : Ru) (x : Lf) (p k : Nat) : Lf := (lag x, lmt x, fun i t => if i = p ∧ t < k then gwo r t (lsn x i t) else lsn x i t, lyr x)
theorem lsn_mid (r : Ru) (x : Lf) (p k i t : Nat) : lsn (mid r x p k) i t = if i = p ∧ t < k then gwo r t (lsn x i t) else lsn x i t := rfl
theorem lsn_grw (r : Ru) (A S : Nat → Bool) (x : Lf) (i t : Nat) : lsn (grw r A S x) i t = if S i then gwo r t (lsn x i t) else lsn x i t := rfl
theorem lag_grw (r : Ru) (A S : Nat → Bool) (x : Lf) (i : Nat) : lag (grw r A S x) i = if A i then lag x i + 1 else lag x i := rfl
theorem mid_z {r : Ru} {x : Lf} {p : Nat} : EL r x (mid r x p 0) := ⟨fun _ _ => rfl, fun _ _ => rfl, fun i t _ _ => by rw [lsn_mid, if_neg (by omega)], rfl⟩
theorem mid_none {r : Ru} {x : Lf} {p k : Nat} (h : lsn x p k = none) : EL r (mid r x p k) (mid r x p (k + 1)) := ⟨fun _ _ => rfl, fun _ _ => rfl, fun i t _ _ => by
  rw [lsn_mid, lsn_mid]
  by_cases hb : i = p ∧ t = k
  · obtain ⟨rfl, rfl⟩ := hb
    rw [if_neg (by omega), if_pos (by omega), h]; rfl
  · by_cases hc : i = p ∧ t < k
    · rw [if_pos hc, if_pos (by omega)]
    · rw [if_neg hc, if_neg (by omega)], rfl⟩
theorem mid_st {r : Ru} {x y : Lf} {p k : Nat} {o : Option Nat} (hy : ∀ i t, ¬ (i = p ∧ t = k) → lsn y i t = lsn (mid r x p k) i t) (h1 : lag y = lag x) (h2 : lmt y = lmt x) (h3 : lyr y = lyr x) (h4 : lsn y p k = o) (ho : o = gwo r k (lsn x p k)) : EL r y (mid r x p (k + 1)) := ⟨fun _ _ => by rw [h1]; rfl, fun _ _ => by rw [h2]; rfl, fun i t _ _ => by
  by_cases hb : i = p ∧ t = k
  · obtain ⟨rfl, rfl⟩ := hb
    rw [h4, ho, lsn_mid, if_pos (by omega)]
  · rw [hy i t hb, lsn_mid, lsn_mid]
    by_cases hc : i = p ∧ t < k
    · rw [if_pos hc, if_pos (by omega)]
    · rw [if_neg hc, if_neg (by omega)], h3⟩
theorem lsn_midk {r : Ru} {x : Lf} {p k : Nat} : lsn (mid r x p k) p k = lsn x p k := by rw [lsn_mid, if_neg (by omega)]
theorem ite3 {β : Type} {c1 c2 c3 : Prop} {D1 : Decidable c1} {D2 : Decidable c2} {D3 : Decidable c3} {A B : β} (h : c1 ∨ c2 ∨ c3) : @ite β c1 D1 A (@ite β c2 D2 A (@ite β c3 D3 A B)) = A := by
  by_cases h1 : c1
  · rw [if_pos h1]
  · rw [if_neg h1]
    by_cases h2 : c2
    · rw [if_pos h2]
    · rw [if_neg h2, if_pos (by
        rcases h with h | h | h
        · exact absurd h h1
        · exact absurd h h2
        · exact h)]
theorem ite3n {β : Type} {c1 c2 c3 : Prop} {D1 : Decidable c1} {D2 : Decidable c2} {D3 : Decidable c3} {A B : β} (h : ¬ (c1 ∨ c2 ∨ c3)) : @ite β c1 D1 A (@ite β c2 D2 A (@ite β c3 D3 A B)) = B := by
  rw [if_neg (fun q => h (Or.inl q)), if_neg (fun q => h (Or.inr (Or.inl q))), if_neg (fun q => h (Or.inr (Or.inr q)))]
theorem m_grow_loop {r : Ru} {x : Lf} {y1 y2 : Int32} {p w : Nat} {k5 : Int32 → Int32 → Int32 → Int32 → Mem → Option (Int32 × Mem)} (hT : rT r ≤ 14) (hP : rP r ≤ 8) (hp : p < rP r) (hs : ∀ i t v, lsn x i t = some v → v ≤ 900000) (hw : ∀ t, t < rT r → rwan r t ≤ 99) (hS : y1 = NO ∨ nI p = y1 ∨ nI p = y2) : ∀ n k m, k ≤ rT r → rT r - k < n → IM r (mid r x p k) m → ∃ m2, X12_year_b33 k5 n y1 y2 (nI (w + ct (fun t => wnd r t (lsn x p t)) k)) (nI p) (nI k) m = k5 y1 y2 (nI (w + ct (fun t => wnd r t (lsn x p t)) (rT r))) (nI (p + 1)) m2 ∧ IM r (mid r x p (rT r)) m2 ∧ FL (fun _ => False) m m2 := by
  intro n
  induction n with
  | zero => intro k m _ h; omega
  | succ n ih =>
    intro k m hk hn h
    rw [X12_year_b33]
    rcases Nat.eq_or_lt_of_le hk with he | hl
    · subst he
      simp (disch := omega) only [nadn, gsn, gss, gsi, if_true, if_false, chk_in, chk_tt, bq, lq, ix_nI, jle_t, jle_f, jlt_t, jlt_f, jeq_t, jeq_f, nadd, nmul, nsub, nshl, nshl2, nor, nand, nandn, ↓kn1, K0, K1, K2, K3, K4, K5, K6, K7, K8, K9, K10, K11, K12, K13, K14, K20, K24, K25, K32, K33, K40, K41, K60, K63, K64, K100, K112, K120, K128, K129, K153, K161, K162, K163, K255, K256, K900, K903, K999, K1000, K1195, K1196, K2000, K2096, K3000, K3001, K3002, K3003, K3004, K3005, K3006, K3007, K3008, h.T]
      exact ⟨m, rfl, h, FL.rf⟩
    · simp (disch := omega) only [nadn, gsn, gss, gsi, if_true, if_false, chk_in, chk_tt, bq, lq, ix_nI, jle_t, jle_f, jlt_t, jlt_f, jeq_t, jeq_f, nadd, nmul, nsub, nshl, nshl2, nor, nand, nandn, ↓kn1, K0, K1, K2, K3, K4, K5, K6, K7, K8, K9, K10, K11, K12, K13, K14, K20, K24, K25, K32, K33, K40, K41, K60, K63, K64, K100, K112, K120, K128, K129, K153, K161, K162, K163, K255, K256, K900, K903, K999, K1000, K1195, K1196, K2000, K2096, K3000, K3001, K3002, K3003, K3004, K3005, K3006, K3007, K3008, h.T]
      rw [ite3 hS, X12_year_b61]
      have e := h.sn hp hl
      rw [lsn_midk] at e
      cases hx : lsn x p k with
      | none =>
        rw [hx] at e
        have ih2 := ih (k + 1) m (by omega) (by omega) (h.el (mid_none hx))
        rw [ct, hx] at ih2
        simp (disch := omega) only [nadn, gsn, gss, gsi, if_true, if_false, chk_in, chk_tt, bq, lq, ix_nI, jle_t, jle_f, jlt_t, jlt_f, jeq_t, jeq_f, nadd, nmul, nsub, nshl, nshl2, nor, nand, nandn, ↓kn1, K0, K1, K2, K3, K4, K5, K6, K7, K8, K9, K10, K11, K12, K13, K14, K20, K24, K25, K32, K33, K40, K41, K60, K63, K64, K100, K112, K120, K128, K129, K153, K161, K162, K163, K255, K256, K900, K903, K999, K1000, K1195, K1196, K2000, K2096, K3000, K3001, K3002, K3003, K3004, K3005, K3006, K3007, K3008, e, oN_none, jm_t]
        simpa [wnd] using ih2
      | some v =>
        rw [hx] at e
        have hv := hs _ _ _ hx
        have h10 := h.wst hT hP hp hl (some (v + 1))
        have hwk := h.wan hl
        have hw9 := hw k hl
        rw [oN_some] at h10
        simp (disch := omega) only [nadn, gsn, gss, gsi, if_true, if_false, chk_in, chk_tt, bq, lq, ix_nI, jle_t, jle_f, jlt_t, jlt_f, jeq_t, jeq_f, nadd, nmul, nsub, nshl, nshl2, nor, nand, nandn, ↓kn1, K0, K1, K2, K3, K4, K5, K6, K7, K8, K9, K10, K11, K12, K13, K14, K20, K24, K25, K32, K33, K40, K41, K60, K63, K64, K100, K112, K120, K128, K129, K153, K161, K162, K163, K255, K256, K900, K903, K999, K1000, K1195, K1196, K2000, K2096, K3000, K3001, K3002, K3003, K3004, K3005, K3006, K3007, K3008, e, oN_some, jm_f]
        by_cases h0 : rwan r k = 0
        · have ih2 := ih (k + 1) _ (by omega) (by omega) (h10.el (mid_st (fun i t hb => by rw [lsn_st, if_neg hb]) rfl rfl rfl (o := some (v + 1)) (by rw [lsn_st, if_pos ⟨rfl, rfl⟩]) (by rw [hx, gwo, if_neg (by omega)])))
          rw [ct, hx, wnd, decide_eq_false (by omega)] at ih2
          obtain ⟨m2, e1, e2, e3⟩ := ih2
          refine ⟨m2, ?_, e2, (FL.s1 (by omega) (by omega)).tr e3⟩
          rw [← e1]
          simp (disch := omega) only [hwk, h0, jeq_t]
          rfl
        · by_cases h1 : rwan r k ≤ v + 1
          · have h11 := h10.wst hT hP hp hl none
            rw [oN_none] at h11
            have ih2 := ih (k + 1) _ (by omega) (by omega) (h11.el (mid_st (fun i t hb => by rw [lsn_st, if_neg hb, lsn_st, if_neg hb]) rfl rfl rfl (o := none) (by rw [lsn_st, if_pos ⟨rfl, rfl⟩]) (by rw [hx, gwo, if_pos (by omega)])))
            rw [ct, hx, wnd, decide_eq_true (by omega)] at ih2
            obtain ⟨m2, e1, e2, e3⟩ := ih2
            refine ⟨m2, ?_, e2, ((FL.s1 (by omega) (by omega)).tr (FL.s1 (by omega) (by omega))).tr e3⟩
            rw [← e1]
            simp (disch := omega) only [hwk, jeq_f, jle_t]
            rfl
          · have ih2 := ih (k + 1) _ (by omega) (by omega) (h10.el (mid_st (fun i t hb => by rw [lsn_st, if_neg hb]) rfl rfl rfl (o := some (v + 1)) (by rw [lsn_st, if_pos ⟨rfl, rfl⟩]) (by rw [hx, gwo, if_neg (by omega)])))
            rw [ct, hx, wnd, decide_eq_false (by omega)] at ih2
            obtain ⟨m2, e1, e2, e3⟩ := ih2
            refine ⟨m2, ?_, e2, (FL.s1 (by omega) (by omega)).tr e3⟩
            rw [← e1]
            simp (disch := omega) only [hwk, jeq_f, jle_f]
            rfl
/-- the first k people grown -/
def grk (r : Ru) (A S : Nat → Bool) (x : Lf) (k : Nat) : Lf := grw r (fun i => decide (i < k) && A i) (fun i => decide (i < k) && S i) x
def wns (r : Ru) (S : Nat → Bool) (x : Lf) (k : Nat) : Nat := su (fun p => if S p then ct (fun t => wnd r t (lsn x p t)) (rT r) else 0) k
theorem wns_s {r : Ru} {S : Nat → Bool} {x : Lf} {k : Nat} (h : S k = true) : wns r S x (k + 1) = wns r S x k + ct (fun t => wnd r t (lsn x k t)) (rT r) := by
  show su _ k + (if S k then _ else 0) = _
  rw [if_pos h]; rfl
theorem wns_o {r : Ru} {S : Nat → Bool} {x : Lf} {k : Nat} (h : S k = false) : wns r S x (k + 1) = wns r S x k := by
  show su _ k + (if S k then _ else 0) = _
  rw [h]; rfl
theorem grk_lsn {r : Ru} {A S : Nat → Bool} {x : Lf} {k i t : Nat} : lsn (grk r A S x k) i t = if (decide (i < k) && S i) = true then gwo r t (lsn x i t) else lsn x i t := rfl
theorem grk_lag {r : Ru} {A S : Nat → Bool} {x : Lf} {k i : Nat} : lag (grk r A S x k) i = if (decide (i < k) && A i) = true then lag x i + 1 else lag x i := rfl
theorem grk_z {r : Ru} {A S : Nat → Bool} {x : Lf} : EL r x (grk r A S x 0) := ⟨fun p _ => by rw [grk_lag]; simp, fun _ _ => rfl, fun p t _ _ => by rw [grk_lsn]; simp, rfl⟩
theorem grk_sn {r : Ru} {A S : Nat → Bool} {x : Lf} {k : Nat} {B : Nat} (h : ∀ i t v, lsn x i t = some v → v ≤ B) : ∀ i t v, lsn (grk r A S x k) i t = some v → v ≤ B + 1 := by
  intro i t v hv
  rw [grk_lsn] at hv
  split at hv
  · cases hx : lsn x i t with
    | none => rw [hx] at hv; cases hv
    | some u =>
      rw [hx, gwo] at hv
      have := h i t u hx
      split at hv
      · cases hv
      · injection hv with hv; omega
  · have := h i t v hv; omega
theorem grk_s {r : Ru} {A S : Nat → Bool} {x : Lf} {k : Nat} (hA : A k = true) (hS : S k = true) : EL r (mid r (sag (grk r A S x k) k (lag x k + 1)) k (rT r)) (grk r A S x (k + 1)) := by
  refine ⟨fun p _ => ?_, fun _ _ => rfl, fun p t _ ht => ?_, rfl⟩
  · show (if p = k then lag x k + 1 else lag (grk r A S x k) p) = _
    rw [grk_lag, grk_lag]
    by_cases h : p = k
    · subst h; simp [hA]
    · have : (p < k + 1) = (p < k) := by apply propext; omega
      simp [h, this]
  · rw [lsn_mid]
    show (if p = k ∧ t < rT r then gwo r t (lsn (grk r A S x k) p t) else lsn (grk r A S x k) p t) = _
    rw [grk_lsn, grk_lsn]
    by_cases h : p = k
    · subst h; simp [hS, ht]
    · have : (p < k + 1) = (p < k) := by apply propext; omega
      simp [h, this]
theorem grk_o {r : Ru} {A S : Nat → Bool} {x : Lf} {k : Nat} (hA : A k = true) (hS : S k = false) : EL r (sag (grk r A S x k) k (lag x k + 1)) (grk r A S x (k + 1)) := by
  refine ⟨fun p _ => ?_, fun _ _ => rfl, fun p t _ ht => ?_, rfl⟩
  · show (if p = k then lag x k + 1 else lag (grk r A S x k) p) = _
    rw [grk_lag, grk_lag]
    by_cases h : p = k
    · subst h; simp [hA]
    · have : (p < k + 1) = (p < k) := by apply propext; omega
      simp [h, this]
  · show lsn (grk r A S x k) p t = _
    rw [grk_lsn, grk_lsn]
    by_cases h : p = k
    · subst h; simp [hS]
    · have : (p < k + 1) = (p < k) := by apply propext; omega
      simp [this]
def al (_ : Nat) : Bool := true
theorem m_grow {r : Ru} {x : Lf} {y1 y2 : Int32} {S : Nat → Bool} (g : GX r x) (hs : ∀ i t v, lsn x i t = some v → v < 900000) (hS : ∀ i, i < rP r → (S i = true ↔ (y1 = NO ∨ nI i = y1 ∨ nI i = y2))) : ∀ n k m, k ≤ rP r → rP r - k < n → IM r (grk r al S x k) m → ∃ m2, X12_year_b5 n y1 y2 (nI (wns r S x k)) (nI k) m = X12_year_b161 FU y1 y2 (nI (wns r S x (rP r))) (nI 0) m2 ∧ IM r (grk r al S x (rP r)) m2 ∧ FL (fun _ => False) m m2 := by
  have hT := g.T; have hP := g.P
  intro n
  induction n with
  | zero => intro k m _ h; omega
  | succ n ih =>
    intro k m hk hn h
    rw [X12_year_b5]
    rcases Nat.eq_or_lt_of_le hk with he | hl
    · subst he
      simp (disch := omega) only [nadn, gsn, gss, gsi, if_true, if_false, chk_in, chk_tt, bq, lq, ix_nI, jle_t, jle_f, jlt_t, jlt_f, jeq_t, jeq_f, nadd, nmul, nsub, nshl, nshl2, nor, nand, nandn, ↓kn1, K0, K1, K2, K3, K4, K5, K6, K7, K8, K9, K10, K11, K12, K13, K14, K20, K24, K25, K32, K33, K40, K41, K60, K63, K64, K100, K112, K120, K128, K129, K153, K161, K162, K163, K255, K256, K900, K903, K999, K1000, K1195, K1196, K2000, K2096, K3000, K3001, K3002, K3003, K3004, K3005, K3006, K3007, K3008, h.P]
      exact ⟨m, rfl, h, FL.rf⟩
    · have e := h.age hl
      rw [grk_lag, show (decide (k < k) && al k) = false by simp, if_neg (by decide)] at e
      have ha := g.age hl
      have h8 := h.wag hT hP hl (lag x k + 1)
      simp (disch := omega) only [nadn, gsn, gss, gsi, if_true, if_false, chk_in, chk_tt, bq, lq, ix_nI, jle_t, jle_f, jlt_t, jlt_f, jeq_t, jeq_f, nadd, nmul, nsub, nshl, nshl2, nor, nand, nandn, ↓kn1, K0, K1, K2, K3, K4, K5, K6, K7, K8, K9, K10, K11, K12, K13, K14, K20, K24, K25, K32, K33, K40, K41, K60, K63, K64, K100, K112, K120, K128, K129, K153, K161, K162, K163, K255, K256, K900, K903, K999, K1000, K1195, K1196, K2000, K2096, K3000, K3001, K3002, K3003, K3004, K3005, K3006, K3007, K3008, h.P, e]
      by_cases hk2 : S k = true
      · obtain ⟨m1, e1, e2, e3⟩ := m_grow_loop (k5 := X12_year_b5 n) (y1 := y1) (y2 := y2) (w := wns r S x k) hT hP hl (x := sag (grk r al S x k) k (lag x k + 1)) (fun i t v hv => by
          have := grk_sn (A := al) (S := S) (r := r) (k := k) (B := 899999) (fun i t v hv => by have := hs i t v hv; omega) i t v hv
          omega) (fun t ht => g.wan ht) ((hS k hl).mp hk2) FU 0 _ (by omega) (by unfold FU; omega) (h8.el mid_z)
        obtain ⟨m2, f1, f2, f3⟩ := ih (k + 1) m1 (by omega) (by omega) (e2.el (grk_s rfl hk2))
        refine ⟨m2, ?_, f2, ((FL.s1 (by omega) (by omega)).tr e3).tr f3⟩
        rw [← f1, wns_s hk2]
        have e4 : ct (fun t => wnd r t (lsn (sag (grk r al S x k) k (lag x k + 1)) k t)) (rT r) = ct (fun t => wnd r t (lsn x k t)) (rT r) := ct_cong (fun t _ => by
          show wnd r t (lsn (grk r al S x k) k t) = _
          rw [grk_lsn, show (decide (k < k) && S k) = false by simp, if_neg (by decide)])
        rw [e4] at e1
        exact e1
      · have hk3 : S k = false := by simpa using hk2
        obtain ⟨m2, f1, f2, f3⟩ := ih (k + 1) _ (by omega) (by omega) (h8.el (grk_o rfl hk3))
        refine ⟨m2, ?_, f2, (FL.s1 (by omega) (by omega)).tr f3⟩
        rw [← f1, wns_o hk3]
        have hg := h8.T
        unfold FU
        rw [X12_year_b33]
        by_cases h0 : rT r = 0
        · simp (disch := omega) only [nadn, gsn, gss, gsi, if_true, if_false, chk_in, chk_tt, bq, lq, ix_nI, jle_t, jle_f, jlt_t, jlt_f, jeq_t, jeq_f, nadd, nmul, nsub, nshl, nshl2, nor, nand, nandn, ↓kn1, K0, K1, K2, K3, K4, K5, K6, K7, K8, K9, K10, K11, K12, K13, K14, K20, K24, K25, K32, K33, K40, K41, K60, K63, K64, K100, K112, K120, K128, K129, K153, K161, K162, K163, K255, K256, K900, K903, K999, K1000, K1195, K1196, K2000, K2096, K3000, K3001, K3002, K3003, K3004, K3005, K3006, K3007, K3008, hg]
        · simp (disch := omega) only [nadn, gsn, gss, gsi, if_true, if_false, chk_in, chk_tt, bq, lq, ix_nI, jle_t, jle_f, jlt_t, jlt_f, jeq_t, jeq_f, nadd, nmul, nsub, nshl, nshl2, nor, nand, nandn, ↓kn1, K0, K1, K2, K3, K4, K5, K6, K7, K8, K9, K10, K11, K12, K13, K14, K20, K24, K25, K32, K33, K40, K41, K60, K63, K64, K100, K112, K120, K128, K129, K153, K161, K162, K163, K255, K256, K900, K903, K999, K1000, K1195, K1196, K2000, K2096, K3000, K3001, K3002, K3003, K3004, K3005, K3006, K3007, K3008, hg]
          rw [ite3n (fun q => hk2 ((hS k hl).mpr q))]
