/-! fibs: which things one takes up in words -/
def fbx (x : Lf) (p A : Nat) : Lf := (lag x, lmt x, fun i t => if i = p ∧ A.testBit t = true then some 0 else lsn x i t, lyr x)
theorem lsn_fbx (x : Lf) (p A i t : Nat) : lsn (fbx x p A) i t = if i = p ∧ A.testBit t = true then some 0 else lsn x i t := rfl
theorem has_fbx (x : Lf) (p A i t : Nat) : has (fbx x p A) i t = (has x i t || (decide (i = p) && A.testBit t)) := by
  rw [has, lsn_fbx]
  by_cases h : i = p ∧ A.testBit t = true
  · rw [if_pos h]
    simp [h.1, h.2]
  · rw [if_neg h]
    have : (decide (i = p) && A.testBit t) = false := by
      cases hd : (decide (i = p) && A.testBit t) with
      | false => rfl
      | true => simp at hd; exact absurd hd h
    rw [this]
    simp [has]
theorem ls_fbx_p {r : Ru} {x : Lf} {p A : Nat} (hA : A < 2 ^ rT r) : ls r (fbx x p A) p = ls r x p ||| A := by
  apply Nat.eq_of_testBit_eq
  intro i
  rw [Nat.testBit_or, ls, ls, bs_bit, bs_bit, has_fbx]
  by_cases hi : i < rT r
  · simp [hi]
  · rw [Nat.testBit_lt_two_pow (Nat.lt_of_lt_of_le hA (Nat.pow_le_pow_right (by decide) (by omega)))]
    simp [hi]
theorem ls_fbx_o {r : Ru} {x : Lf} {p q A : Nat} (h : q ≠ p) : ls r (fbx x p A) q = ls r x q := ls_eq (fun t _ => by rw [has_fbx]; simp [h])
theorem WL.xb {r : Ru} {x : Lf} {B p A : Nat} (h : WL r x B) : WL r (fbx x p A) B := by
  obtain ⟨h1, h2, h3, h4⟩ := h
  refine ⟨h1, h2, fun i t v hv => ?_, h4⟩
  rw [lsn_fbx] at hv
  split at hv
  · injection hv with hv; omega
  · exact h3 _ _ _ hv
theorem wh_fbx {r : Ru} {x : Lf} {p A t : Nat} (hp : p < rP r) : wh r (fbx x p A) t = if A.testBit t then wh r x t ||| 2 ^ p else wh r x t := by
  apply Nat.eq_of_testBit_eq
  intro i
  rw [wh, bs_bit, has_fbx]
  cases hA : A.testBit t with
  | false => simp [wh, bs_bit]
  | true =>
    rw [if_pos rfl, Nat.testBit_or, Nat.testBit_two_pow, wh, bs_bit]
    by_cases hi : p = i
    · subst hi; simp [hp]
    · simp [hi, Ne.symm hi]
theorem fbx_ly {r : Ru} {x : Lf} {p q A : Nat} (hp : p < rP r) (hq : q < rP r) (hn : p ≠ q) : LY r x (fbx x p A) p q := ⟨rfl, rfl, rfl, fun t ht hb => by
  rw [Nat.testBit_and, ls, ls, bs_bit, bs_bit, has_fbx, has_fbx] at hb
  have hqp : ¬ q = p := fun e => hn e.symm
  simp [ht, hqp] at hb
  rw [wh_fbx hp]
  apply Nat.eq_of_testBit_eq
  intro i
  rw [Nat.testBit_or, Nat.testBit_or, Nat.testBit_two_pow, Nat.testBit_two_pow]
  cases hA : A.testBit t with
  | true =>
    rw [if_pos rfl, Nat.testBit_or, Nat.testBit_two_pow, wh, bs_bit]
    by_cases h2 : q = i
    · subst h2; simp [hq, hb.2]
    · simp [h2]
  | false =>
    rw [hA] at hb
    simp at hb
    rw [if_neg (by decide), wh, bs_bit]
    by_cases h1 : p = i
    · subst h1; simp [hp, hb.1]
    · by_cases h2 : q = i
      · subst h2; simp [hq, hb.2]
      · simp [h1, h2]⟩
/-! a swap of two things that do the same -/
theorem su_pt (f : Nat → Nat) (t : Nat) : ∀ n, t < n → su f n = su (fun i => if i = t then 0 else f i) n + f t := by
  intro n
  induction n with
  | zero => intro h; omega
  | succ n ih =>
    intro h
    rw [su, su]
    by_cases e : t = n
    · subst e
      have : su f t = su (fun i => if i = t then 0 else f i) t := su_cong (fun i hi => by rw [if_neg (by omega)])
      rw [if_pos rfl, this]
      omega
    · rw [ih (by omega), if_neg (Ne.symm e)]
      omega
theorem su_swap {f g : Nat → Nat} {t u n : Nat} (htu : t ≠ u) (ht : t < n) (hu : u < n) (h : ∀ i, i ≠ t → i ≠ u → f i = g i) (h1 : f t = g u) (h2 : f u = g t) : su f n = su g n := by
  rw [su_pt f t n ht, su_pt _ u n hu, su_pt g t n ht, su_pt (fun i => if i = t then 0 else g i) u n hu]
  have e : su (fun i => if i = u then 0 else if i = t then 0 else f i) n = su (fun i => if i = u then 0 else if i = t then 0 else g i) n := su_cong (fun i _ => by
    by_cases c1 : i = u
    · rw [if_pos c1, if_pos c1]
    · rw [if_neg c1, if_neg c1]
      by_cases c2 : i = t
      · rw [if_pos c2, if_pos c2]
      · rw [if_neg c2, if_neg c2]; exact h i c2 c1)
  rw [e, if_neg (Ne.symm htu), if_neg (Ne.symm htu)]
  omega
theorem ct_su (f : Nat → Bool) : ∀ n, ct f n = su (fun i => if f i then 1 else 0) n
  | 0 => rfl
  | n + 1 => by rw [ct, su, ct_su f n]
theorem ct_swap {f g : Nat → Bool} {t u n : Nat} (htu : t ≠ u) (ht : t < n) (hu : u < n) (h : ∀ i, i ≠ t → i ≠ u → f i = g i) (h1 : f t = g u) (h2 : f u = g t) : ct f n = ct g n := by
  rw [ct_su, ct_su]
  exact su_swap htu ht hu (fun i a b => by rw [h i a b]) (by rw [h1]) (by rw [h2])
theorem pcn_ct {v n : Nat} (hn : n ≤ 14) (h : v < 2 ^ n) : pcn v = ct (fun i => v.testBit i) n := by
  have e := pcn_bs (f := fun i => v.testBit i) hn
  rw [bs_of h] at e
  exact e
/-- A with t put for u -/
def swp (A t u : Nat) : Nat := nd A (2 ^ t) ||| 2 ^ u
theorem swp_bit {A t u i : Nat} (hA : A < 16384) : (swp A t u).testBit i = ((A.testBit i && !decide (t = i)) || decide (u = i)) := by
  rw [swp, Nat.testBit_or, nd_bit (by omega), Nat.testBit_two_pow, Nat.testBit_two_pow]
/-- what a thing does: how rare, and whether it insults -/
def cft (r : Ru) (x : Lf) (p q t : Nat) : Nat := if (ls r x q).testBit t then rP r - pcn (wh r x t ||| (2 ^ p ||| 2 ^ q)) + 1 else 0
theorem gd_swap {r : Ru} {x : Lf} {p q A t u : Nat} (g : GX r x) (hp : p < rP r) (hq : q < rP r) (hn : p ≠ q) (hA : A < 2 ^ rT r) (hf : A &&& ls r x p = 0) (htA : A.testBit t = true) (huA : A.testBit u = false) (hu : u < rT r) (huf : (ls r x p).testBit u = false) (h1 : cft r x p q t = cft r x p q u) (h2 : (rtr r q).testBit t = (rtr r q).testBit u) : gd r (fbx x p (swp A t u)) p q = gd r (fbx x p A) p q := by
  have hT := g.T; have hP := g.P
  have h14 : (2 : Nat) ^ rT r ≤ 2 ^ 14 := Nat.pow_le_pow_right (by decide) hT
  have hA14 : A < 16384 := by omega
  have ht : t < rT r := bit_lt hA htA
  have htu : t ≠ u := fun e => by rw [e, huA] at htA; cases htA
  have hB : swp A t u < 2 ^ rT r := Nat.or_lt_two_pow (Nat.lt_of_le_of_lt (nd_le _ _) hA) (Nat.pow_lt_pow_right (by decide) hu)
  have htf : (ls r x p).testBit t = false := by
    have : (A &&& ls r x p).testBit t = false := by rw [hf]; simp
    rw [Nat.testBit_and, htA] at this
    simpa using this
  have bt : (swp A t u).testBit t = false := by rw [swp_bit hA14]; simp [Ne.symm htu]
  have bu : (swp A t u).testBit u = true := by rw [swp_bit hA14]; simp
  have bo : ∀ i, i ≠ t → i ≠ u → (swp A t u).testBit i = A.testBit i := fun i a b => by rw [swp_bit hA14]; simp [Ne.symm a, Ne.symm b]
  have hqp : q ≠ p := fun e => hn e.symm
  have lqt : (ls r x q).testBit t = (ls r x q).testBit u := by
    rw [cft, cft] at h1
    cases a : (ls r x q).testBit t <;> cases b : (ls r x q).testBit u <;> rw [a, b] at h1 <;> simp at h1 <;> rfl
  have l1 := ls_fbx_p (x := x) (p := p) hA
  have l2 := ls_fbx_p (x := x) (p := p) hB
  have l3 : ls r (fbx x p A) q = ls r x q := ls_fbx_o hqp
  have l4 : ls r (fbx x p (swp A t u)) q = ls r x q := ls_fbx_o hqp
  have lb : ls r x p < 2 ^ rT r := bs_lt _ _
  have lbq : ls r x q < 2 ^ rT r := bs_lt _ _
  have o1 : ls r x p ||| A < 2 ^ rT r := Nat.or_lt_two_pow lb hA
  have o2 : ls r x p ||| swp A t u < 2 ^ rT r := Nat.or_lt_two_pow lb hB
  have e : ww r (fbx x p (swp A t u)) p q = ww r (fbx x p A) p q := by
    funext k
    have w0 : pcn ((ls r x p ||| swp A t u) &&& ls r x q) = pcn ((ls r x p ||| A) &&& ls r x q) := by
      rw [pcn_ct hT (Nat.lt_of_le_of_lt Nat.and_le_left o2), pcn_ct hT (Nat.lt_of_le_of_lt Nat.and_le_left o1)]
      refine ct_swap htu ht hu (fun i a b => ?_) ?_ ?_
      · simp only [Nat.testBit_and, Nat.testBit_or]; rw [bo i a b]
      · simp only [Nat.testBit_and, Nat.testBit_or]; rw [bt, htf, huA, huf]; rfl
      · simp only [Nat.testBit_and, Nat.testBit_or]; rw [bu, htA, lqt]; simp
    have w1 : ras r (fbx x p (swp A t u)) ((ls r x p ||| swp A t u) &&& ls r x q) (rT r) = ras r (fbx x p A) ((ls r x p ||| A) &&& ls r x q) (rT r) := by
      have rt : ∀ B, B.testBit t = true → (ls r x q).testBit t = true → ra r (fbx x p B) t = rP r - pcn (wh r x t ||| (2 ^ p ||| 2 ^ q)) + 1 := fun B hB1 hq1 => by
        have := (fbx_ly (x := x) (A := B) hp hq hn).2.2.2 t ht (by
          rw [Nat.testBit_and, ls_fbx_o hqp, hq1, ls, bs_bit, has_fbx]
          simp [ht, hB1])
        rw [ra, ← this]
      have ru : ∀ B, B.testBit u = true → (ls r x q).testBit u = true → ra r (fbx x p B) u = rP r - pcn (wh r x u ||| (2 ^ p ||| 2 ^ q)) + 1 := fun B hB1 hq1 => by
        have := (fbx_ly (x := x) (A := B) hp hq hn).2.2.2 u hu (by
          rw [Nat.testBit_and, ls_fbx_o hqp, hq1, ls, bs_bit, has_fbx]
          simp [hu, hB1])
        rw [ra, ← this]
      refine su_swap htu ht hu (fun i a b => ?_) ?_ ?_
      · simp only [Nat.testBit_and, Nat.testBit_or]
        rw [bo i a b, ra, ra, wh_fbx hp, wh_fbx hp, bo i a b]
      · simp only [Nat.testBit_and, Nat.testBit_or]
        rw [bt, htf, huA, huf]; rfl
      · simp only [Nat.testBit_and, Nat.testBit_or]
        rw [bu, htA]
        cases hc : (ls r x q).testBit u with
        | false =>
          rw [hc] at lqt
          rw [lqt]
          simp
        | true =>
          rw [hc] at lqt
          rw [lqt, ru _ bu hc, rt _ htA lqt]
          rw [cft, cft, lqt, hc] at h1
          simp only [if_true] at h1
          simp
          omega
    have w2 : pcn ((ls r x p ||| swp A t u) &&& rtr r q) = pcn ((ls r x p ||| A) &&& rtr r q) := by
      rw [pcn_ct hT (Nat.lt_of_le_of_lt Nat.and_le_left o2), pcn_ct hT (Nat.lt_of_le_of_lt Nat.and_le_left o1)]
      refine ct_swap htu ht hu (fun i a b => ?_) ?_ ?_
      · simp only [Nat.testBit_and, Nat.testBit_or]; rw [bo i a b]
      · simp only [Nat.testBit_and, Nat.testBit_or]; rw [bt, htf, huA, huf]; rfl
      · simp only [Nat.testBit_and, Nat.testBit_or]; rw [bu, htA, h2]; simp
    have w3 : pcn (ls r x p ||| swp A t u) = pcn (ls r x p ||| A) := by
      rw [pcn_ct hT o2, pcn_ct hT o1]
      refine ct_swap htu ht hu (fun i a b => ?_) ?_ ?_
      · simp only [Nat.testBit_or]; rw [bo i a b]
      · simp only [Nat.testBit_or]; rw [bt, htf, huA, huf]
      · simp only [Nat.testBit_or]; rw [bu, htA]; simp
    unfold ww
    rw [l1, l2, l3, l4, w0, w1, w2, w3]
    rfl
  rw [gd, gd, e]
theorem pcn_swp {A t u T : Nat} (hT : T ≤ 14) (hA : A < 2 ^ T) (htA : A.testBit t = true) (huA : A.testBit u = false) (hu : u < T) : pcn (swp A t u) = pcn A ∧ swp A t u < 2 ^ T := by
  have h14 : (2 : Nat) ^ T ≤ 2 ^ 14 := Nat.pow_le_pow_right (by decide) hT
  have hA14 : A < 16384 := by omega
  have ht : t < T := bit_lt hA htA
  have htu : t ≠ u := fun e => by rw [e, huA] at htA; cases htA
  have hB : swp A t u < 2 ^ T := Nat.or_lt_two_pow (Nat.lt_of_le_of_lt (nd_le _ _) hA) (Nat.pow_lt_pow_right (by decide) hu)
  refine ⟨?_, hB⟩
  rw [pcn_ct hT hB, pcn_ct hT hA]
  refine ct_swap htu ht hu (fun i a b => ?_) ?_ ?_
  · rw [swp_bit hA14]; simp [Ne.symm a, Ne.symm b]
  · rw [swp_bit hA14, huA]; simp [Ne.symm htu]
  · rw [swp_bit hA14, htA]; simp
/-- numbers by their highest bit that differs -/
theorem lt_bit {a b t : Nat} (h1 : a.testBit t = false) (h2 : b.testBit t = true) (h3 : ∀ i, t < i → a.testBit i = b.testBit i) : a < b := by
  have e : a >>> (t + 1) = b >>> (t + 1) := Nat.eq_of_testBit_eq (fun i => by
    rw [Nat.testBit_shiftRight, Nat.testBit_shiftRight]; exact h3 _ (by omega))
  rw [Nat.shiftRight_eq_div_pow, Nat.shiftRight_eq_div_pow] at e
  rw [Nat.testBit_eq_decide_div_mod_eq] at h1 h2
  simp only [decide_eq_true_eq, decide_eq_false_iff_not] at h1 h2
  have pa : a / 2 ^ (t + 1) = a / 2 ^ t / 2 := by rw [Nat.pow_succ, Nat.div_div_eq_div_mul]
  have pb : b / 2 ^ (t + 1) = b / 2 ^ t / 2 := by rw [Nat.pow_succ, Nat.div_div_eq_div_mul]
  rw [pa, pb] at e
  have l : a / 2 ^ t < b / 2 ^ t := by omega
  rcases Nat.lt_or_ge a b with h | h
  · exact h
  · exact absurd (Nat.div_le_div_right (c := 2 ^ t) h) (by omega)
theorem swp_lt {A t u : Nat} (hA : A < 16384) (htA : A.testBit t = true) (hut : u < t) : swp A t u < A := lt_bit (t := t) (by
  rw [swp_bit hA]
  have : ¬ u = t := by omega
  simp [this]) htA (fun i hi => by
  rw [swp_bit hA]
  have h1 : ¬ t = i := by omega
  have h2 : ¬ u = i := by omega
  simp [h1, h2])
