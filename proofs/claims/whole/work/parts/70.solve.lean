/-! the class's table of best matchings -/
theorem cmb_or {G : Nat → Nat → Int32} {a b : Option PL} {l : PL} (h : cmb G a b = some l) : a = some l ∨ b = some l := by
  cases a with
  | none => exact Or.inr h
  | some x =>
    cases b with
    | none => exact Or.inl h
    | some y =>
      have h : (if vl G x < vl G y then some y else some x) = some l := h
      split at h
      · exact Or.inr h
      · exact Or.inl h
theorem bq_mem {G : Nat → Nat → Int32} {F : Nat → Option PL} {l : PL} : ∀ c q acc, bq' G F c q acc = some l → acc = some l ∨ ∃ i, q ≤ i ∧ i < q + c ∧ F i = some l
  | 0, q, acc, h => Or.inl h
  | c + 1, q, acc, h => by
    rcases bq_mem c (q + 1) _ h with h | ⟨i, h1, h2, h3⟩
    · rcases cmb_or h with h | h
      · exact Or.inl h
      · exact Or.inr ⟨q, by omega, by omega, h⟩
    · exact Or.inr ⟨i, by omega, by omega, h3⟩
theorem fmx_mem {G : Nat → Nat → Int32} {l : PL} : ∀ L : List PL, fmx G L = some l → l ∈ L
  | [], h => by cases h
  | x :: L, h => by
    rcases cmb_or h with h | h
    · injection h with h
      subst h
      exact List.mem_cons_self
    · exact List.mem_cons_of_mem _ (fmx_mem L h)
theorem bst_ok {P : Nat} {O : Nat → Nat → Bool} {G : Nat → Nat → Int32} {n p S : Nat} (h : n + p = P) : okL P p (bst P O G n p S) ∧ (bst P O G n p S).length ≤ n := rl_ok n p S h _ (fmx_mem _ (fmx_rl n p S))
def bF (P : Nat) (O : Nat → Nat → Bool) (G : Nat → Nat → Int32) (n p S q : Nat) : Option PL := if S.testBit q && O p q then some ((p, q) :: bst P O G n (p + 1) (nd (nd S (2 ^ p)) (2 ^ q))) else none
theorem bst_1 {P : Nat} {O : Nat → Nat → Bool} {G : Nat → Nat → Int32} {n p S : Nat} (h : S.testBit p = true) : cmb G (bq' G (bF P O G n p S) (P - (p + 1)) (p + 1) none) (some (bst P O G n (p + 1) (nd S (2 ^ p)))) = some (bst P O G (n + 1) p S) := by
  obtain ⟨x, hx⟩ := cmb_s G (bq' G (bF P O G n p S) (P - (p + 1)) (p + 1) none) (bst P O G n (p + 1) (nd S (2 ^ p)))
  have e : bst P O G (n + 1) p S = x := by
    rw [bst, if_pos h]
    have hx2 : cmb G (bq' G (fun q => if S.testBit q && O p q then some ((p, q) :: bst P O G n (p + 1) (nd (nd S (2 ^ p)) (2 ^ q))) else none) (P - (p + 1)) (p + 1) none) (some (bst P O G n (p + 1) (nd S (2 ^ p)))) = some x := hx
    rw [hx2]
  rw [hx, e]
theorem bst_0 {P : Nat} {O : Nat → Nat → Bool} {G : Nat → Nat → Int32} {n p S : Nat} (h : S.testBit p = false) : bst P O G (n + 1) p S = bst P O G n (p + 1) S := by rw [bst, h, if_neg (by decide)]
theorem bst_skip {P : Nat} {O : Nat → Nat → Bool} {G : Nat → Nat → Int32} {S p : Nat} (hp : p ≤ P) (h : ∀ i, S.testBit i = true → p ≤ i) : ∀ c k, k + c = p → bst P O G (P - k) k S = bst P O G (P - p) p S
  | 0, k, hk => by rw [show k = p by omega]
  | c + 1, k, hk => by
    have hb : S.testBit k = false := by
      cases hb : S.testBit k with
      | false => rfl
      | true => have := h k hb; omega
    rw [show P - k = (P - (k + 1)) + 1 by omega, bst_0 hb]
    exact bst_skip hp h c (k + 1) (by omega)
theorem bst_cs {P : Nat} {O : Nat → Nat → Bool} {G : Nat → Nat → Int32} {n p S : Nat} (hn : n + 1 + p = P) (h : S.testBit p = true) : (∃ q, p < q ∧ q < P ∧ S.testBit q = true ∧ bst P O G (n + 1) p S = (p, q) :: bst P O G n (p + 1) (nd (nd S (2 ^ p)) (2 ^ q))) ∨ bst P O G (n + 1) p S = bst P O G n (p + 1) (nd S (2 ^ p)) := by
  rcases cmb_or (bst_1 (P := P) (O := O) (G := G) (n := n) h) with h1 | h1
  · rcases bq_mem _ _ _ h1 with h2 | ⟨q, a1, a2, a3⟩
    · cases h2
    · left
      rw [bF] at a3
      split at a3
      · rename_i hq
        injection a3 with a3
        simp only [Bool.and_eq_true] at hq
        exact ⟨q, by omega, by omega, hq.1, a3.symm⟩
      · cases a3
  · right
    injection h1 with h1
    exact h1.symm
/-- whom the first one is with -/
def hdp (p : Nat) : PL → Option Nat
  | [] => none
  | (a, b) :: _ => if a = p then some b else none
theorem hdp_no {P p : Nat} {l : PL} (h : okL P (p + 1) l) : hdp p l = none := by
  cases l with
  | nil => rfl
  | cons x l =>
    obtain ⟨a, b⟩ := x
    have := (h (a, b) List.mem_cons_self).1
    show (if a = p then some b else none) = none
    rw [if_neg (by have : p + 1 ≤ a := this; omega)]
theorem hdp_c {p q : Nat} {l : PL} : hdp p ((p, q) :: l) = some q := if_pos rfl
theorem vl_b {P : Nat} {G : Nat → Nat → Int32} (hG : GB P G) {l : PL} (h : okL P 0 l) (hl : l.length ≤ 8) : -8000000 ≤ vl G l ∧ vl G l ≤ 808000000 := by
  obtain ⟨x1, x2, x3, x4⟩ := sg_ok hG l h hl
  have : (l.length : Int) ≤ 8 := by omega
  have : (0 : Int) ≤ (l.length : Int) := by omega
  omega
/-- the table up to a set -/
def DT (P : Nat) (O : Nat → Nat → Bool) (G : Nat → Nat → Int32) (N : Nat) (m : Mem) : Prop := ∀ S, S < N → (gi m 93 S).toInt = vl G (bst P O G P 0 S) ∧ ∀ p, S.testBit p = true → (∀ i, S.testBit i = true → p ≤ i) → gi m 94 S = oN (hdp p (bst P O G (P - p) p S))
def AC (G : Nat → Nat → Int32) (p : Nat) (acc : Option PL) (best part : Int32) : Prop := match acc with
  | none => best = -2000000000 ∧ part = NO
  | some l => best.toInt = vl G l ∧ part = oN (hdp p l)
theorem m2e9 : (-2000000000 : Int32).toInt = -2000000000 := by decide
theorem c_choose_loop {P n p S : Nat} {O : Nat → Nat → Bool} {G : Nat → Nat → Int32} {m : Mem} (hP : P ≤ 8) (hG : GB P G) (hT : CT P O G m) (hn : n + 1 + p = P) (hS : S < 2 ^ P) (hb : S.testBit p = true) (hlo : ∀ i, S.testBit i = true → p ≤ i ∧ i < P) (hD : DT P O G S m) : ∀ c q fu acc best part, c + q = P → p < q → c < fu → AC G p acc best part → (∀ l, acc = some l → okL P 0 l ∧ l.length ≤ 8) → ∃ b fin, X6_choose_b25 fu (nI S) (nI p) (nI (nd S (2 ^ p))) best part (nI q) m = some ((), si (si m 93 S b) 94 S (oN (hdp p fin))) ∧ b.toInt = vl G fin ∧ cmb G (bq' G (bF P O G n p S) c q acc) (some (bst P O G n (p + 1) (nd S (2 ^ p)))) = some fin := by
  have hS8 : S < 256 := Nat.lt_of_lt_of_le hS (Nat.pow_le_pow_right (by decide) hP : 2 ^ P ≤ 2 ^ 8)
  have hpP := (hlo p hb).2
  have hR : nd S (2 ^ p) < S := by
    rcases Nat.lt_or_eq_of_le (nd_le S (2 ^ p)) with h | h
    · exact h
    · have h1 : (nd S (2 ^ p)).testBit p = false := by rw [nd2_bit hS8]; simp
      rw [h, hb] at h1
      cases h1
  have hRb : ∀ i, (nd S (2 ^ p)).testBit i = true → p + 1 ≤ i := fun i hi => by
    rw [nd2_bit hS8] at hi
    simp at hi
    have := (hlo i hi.1).1
    omega
  have dR := (hD _ hR).1
  have eR := bst_skip (O := O) (G := G) (show p + 1 ≤ P by omega) hRb (p + 1) 0 (by omega)
  rw [Nat.sub_zero, show P - (p + 1) = n by omega] at eR
  rw [eR] at dR
  have oR := bst_ok (P := P) (O := O) (G := G) (n := n) (p := p + 1) (S := nd S (2 ^ p)) (by omega)
  have vR := vl_b hG (oR.1.mono (Nat.zero_le _)) (by omega)
  intro c
  induction c with
  | zero =>
    intro q fu acc best part hq hpq hf hac hok
    obtain ⟨fu, rfl⟩ : ∃ f2, fu = f2 + 1 := ⟨fu - 1, by omega⟩
    have hq : q = P := by omega
    subst hq
    rw [X6_choose_b25, hT.1, jle_t (by omega) (by omega), chk_in (by omega) (by omega), ix_nI (by omega), kn1]
    simp (disch := omega) only [X6_choose_b127, chk_in, ix_nI, lq]
    rw [bq']
    cases acc with
    | none =>
      obtain ⟨h1, h2⟩ := hac
      rw [if_neg (by rw [le_iff, h1, m2e9]; omega)]
      refine ⟨gi m 93 (nd S (2 ^ p)), _, ?_, dR, rfl⟩
      rw [hdp_no oR.1, oN_none]
    | some l =>
      obtain ⟨h1, h2⟩ := hac
      by_cases hle : gi m 93 (nd S (2 ^ p)) ≤ best
      · rw [if_pos hle]
        refine ⟨best, l, ?_, h1, ?_⟩
        · rw [h2]
        · show (if vl G l < vl G (bst q O G n (p + 1) (nd S (2 ^ p))) then _ else some l) = _
          rw [le_iff] at hle
          rw [if_neg (by omega)]
      · rw [if_neg hle]
        refine ⟨gi m 93 (nd S (2 ^ p)), _, ?_, dR, ?_⟩
        · rw [hdp_no oR.1, oN_none]
        · show (if vl G l < vl G (bst q O G n (p + 1) (nd S (2 ^ p))) then _ else some l) = _
          rw [le_iff] at hle
          rw [if_pos (by omega)]
  | succ c ih =>
    intro q fu acc best part hq hpq hf hac hok
    obtain ⟨fu, rfl⟩ : ∃ f2, fu = f2 + 1 := ⟨fu - 1, by omega⟩
    have hqP : q < P := by omega
    have bq1 : (nd S (2 ^ p)).testBit q = S.testBit q := by
      rw [nd2_bit hS8]
      have : p ≠ q := by omega
      simp [this]
    have hR2 : nd (nd S (2 ^ p)) (2 ^ q) < S := Nat.lt_of_le_of_lt (nd_le _ _) hR
    rw [X6_choose_b25, hT.1, jle_f hqP (by omega), kn1, K1, K0, K8, bq', show (100000000 : Int32) = nI 100000000 from rfl]
    simp (disch := omega) only [nshl, nand, nandn, nmul, nadd, c_isOpen hP hT hpP hqP (show p ≠ q by omega), bq, chk_in, ix_nI, lq]
    cases hbq : S.testBit q with
    | false =>
      rw [hbq] at bq1
      have e : bF P O G n p S q = none := by rw [bF, hbq]; rfl
      rw [jbit_f bq1 (by omega), e, cmb_n]
      exact ih (q + 1) fu acc best part (by omega) (by omega) (by omega) hac hok
    | true =>
      rw [hbq] at bq1
      rw [jbit_t bq1 (by omega)]
      cases hO : O p q with
      | false =>
        have e : bF P O G n p S q = none := by rw [bF, hO]; simp
        rw [if_pos (show nI (b1 false) = nI 0 by decide), e, cmb_n]
        exact ih (q + 1) fu acc best part (by omega) (by omega) (by omega) hac hok
      | true =>
        have e : bF P O G n p S q = some ((p, q) :: bst P O G n (p + 1) (nd (nd S (2 ^ p)) (2 ^ q))) := by rw [bF, hO, hbq]; rfl
        have o2 := bst_ok (P := P) (O := O) (G := G) (n := n) (p := p + 1) (S := nd (nd S (2 ^ p)) (2 ^ q)) (by omega)
        have v2 := vl_b hG (o2.1.mono (Nat.zero_le _)) (by omega)
        have d2 := (hD _ hR2).1
        have hRb2 : ∀ i, (nd (nd S (2 ^ p)) (2 ^ q)).testBit i = true → p + 1 ≤ i := fun i hi => by
          rw [nd2_bit (by omega)] at hi
          simp at hi
          exact hRb i hi.1
        have e2 := bst_skip (O := O) (G := G) (show p + 1 ≤ P by omega) hRb2 (p + 1) 0 (by omega)
        rw [Nat.sub_zero, show P - (p + 1) = n by omega] at e2
        rw [e2] at d2
        have hg := hG p q hpP hqP
        have tG := (hT.2 p q hpP hqP (by omega)).2
        have sum : (nI 100000000 + gi m 92 (p * 8 + q) + gi m 93 (nd (nd S (2 ^ p)) (2 ^ q))).toInt = vl G ((p, q) :: bst P O G n (p + 1) (nd (nd S (2 ^ p)) (2 ^ q))) := by
          rw [tG, Int32.toInt_add, Int32.toInt_add, d2, tI (by omega), Int.bmod_def, Int.bmod_def]
          show _ = 100000000 + (G p q).toInt + vl G (bst P O G n (p + 1) (nd (nd S (2 ^ p)) (2 ^ q)))
          omega
        have okn : okL P 0 ((p, q) :: bst P O G n (p + 1) (nd (nd S (2 ^ p)) (2 ^ q))) ∧ ((p, q) :: bst P O G n (p + 1) (nd (nd S (2 ^ p)) (2 ^ q))).length ≤ 8 := ⟨(o2.1.mono (Nat.zero_le _)).cons (by omega) hpq hqP, by rw [List.length_cons]; omega⟩
        have vn := vl_b hG okn.1 okn.2
        rw [if_neg (show ¬ nI (b1 true) = nI 0 by decide), e]
        cases acc with
        | none =>
          obtain ⟨h1, h2⟩ := hac
          rw [if_neg (by rw [le_iff, h1, m2e9, sum]; omega)]
          exact ih (q + 1) fu (some ((p, q) :: bst P O G n (p + 1) (nd (nd S (2 ^ p)) (2 ^ q)))) _ _ (by omega) (by omega) (by omega) ⟨sum, by rw [hdp_c]; rfl⟩ (fun l hl => by injection hl with hl; subst hl; exact okn)
        | some l =>
          obtain ⟨h1, h2⟩ := hac
          have ec : cmb G (some l) (some ((p, q) :: bst P O G n (p + 1) (nd (nd S (2 ^ p)) (2 ^ q)))) = (if vl G l < vl G ((p, q) :: bst P O G n (p + 1) (nd (nd S (2 ^ p)) (2 ^ q))) then some ((p, q) :: bst P O G n (p + 1) (nd (nd S (2 ^ p)) (2 ^ q))) else some l) := rfl
          by_cases hle : nI 100000000 + gi m 92 (p * 8 + q) + gi m 93 (nd (nd S (2 ^ p)) (2 ^ q)) ≤ best
          · rw [if_pos hle]
            rw [le_iff, sum, h1] at hle
            rw [ec, if_neg (by omega)]
            exact ih (q + 1) fu (some l) best part (by omega) (by omega) (by omega) ⟨h1, h2⟩ hok
          · rw [if_neg hle]
            rw [le_iff, sum, h1] at hle
            rw [ec, if_pos (by omega)]
            exact ih (q + 1) fu (some ((p, q) :: bst P O G n (p + 1) (nd (nd S (2 ^ p)) (2 ^ q)))) _ _ (by omega) (by omega) (by omega) ⟨sum, by rw [hdp_c]; rfl⟩ (fun l hl => by injection hl with hl; subst hl; exact okn)
def s934 (c : Nat) : Prop := c = 93 ∨ c = 94
theorem CT.f9 {P : Nat} {O : Nat → Nat → Bool} {G : Nat → Nat → Int32} {m m2 : Mem} (h : CT P O G m) (hf : Fr s934 m m2) : CT P O G m2 := h.fr (hf 90 (by unfold s934; omega) _).1 (fun j => (hf 91 (by unfold s934; omega) j).1) (fun j => (hf 92 (by unfold s934; omega) j).1)
theorem bit_lt {P S i : Nat} (hS : S < 2 ^ P) (h : S.testBit i = true) : i < P := by
  apply Classical.byContradiction
  intro q
  rw [Nat.testBit_lt_two_pow (Nat.lt_of_lt_of_le hS (Nat.pow_le_pow_right (by decide) (by omega)))] at h
  cases h
theorem c_choose {P S : Nat} {O : Nat → Nat → Bool} {G : Nat → Nat → Int32} {m : Mem} (hP : P ≤ 8) (hG : GB P G) (hT : CT P O G m) (hS0 : S ≠ 0) (hS : S < 2 ^ P) (hD : DT P O G S m) : ∃ m2, X6_choose (nI S) m = some ((), m2) ∧ DT P O G (S + 1) m2 ∧ Fr s934 m m2 := by
  have hS8 : S < 256 := Nat.lt_of_lt_of_le hS (Nat.pow_le_pow_right (by decide) hP : 2 ^ P ≤ 2 ^ 8)
  obtain ⟨p, p1, p2, p3, p4⟩ := ntz hS0 (by omega)
  have hpP := bit_lt hS p2
  have hlo : ∀ i, S.testBit i = true → p ≤ i ∧ i < P := fun i hi => ⟨Classical.byContradiction (fun q => by
    rw [p3 i (by omega)] at hi
    exact Bool.noConfusion hi), bit_lt hS hi⟩
  obtain ⟨b, fin, e1, e2, e3⟩ := c_choose_loop (n := P - (p + 1)) hP hG hT (by omega) hS p2 hlo hD (P - (p + 1)) (p + 1) FU none (-2000000000) NO (by omega) (by omega) (by unfold FU; omega) ⟨rfl, rfl⟩ (fun l h => by cases h)
  rw [bst_1 p2] at e3
  injection e3 with e3
  subst e3
  rw [X6_choose, p4, bq, kn1, K1, nshl (by omega), nandn, lq, nadd, lq, e1]
  refine ⟨_, rfl, fun T hT2 => ?_, (Fr.si (by unfold s934; omega)).tr (Fr.si (by unfold s934; omega))⟩
  by_cases hTS : T = S
  · subst hTS
    refine ⟨?_, fun p' q1 q2 => ?_⟩
    · rw [gsn (by omega), gss, e2]
      have := bst_skip (O := O) (G := G) (show p ≤ P by omega) (fun i hi => (hlo i hi).1) p 0 (by omega)
      rw [Nat.sub_zero] at this
      rw [this, show P - p = P - (p + 1) + 1 by omega]
    · have hpp : p' = p := by
        have h1 := q2 p p2
        have h2 := (hlo p' q1).1
        omega
      subst hpp
      rw [gss, show P - p' = P - (p' + 1) + 1 by omega]
  · obtain ⟨d1, d2⟩ := hD T (by omega)
    exact ⟨by rw [gsn (by omega), gsi hTS]; exact d1, fun p' q1 q2 => by rw [gsi hTS, gsn (by omega)]; exact d2 p' q1 q2⟩
theorem c_solve_loop {P : Nat} {O : Nat → Nat → Bool} {G : Nat → Nat → Int32} (hP : P ≤ 8) (hG : GB P G) : ∀ n S m, S ≠ 0 → S ≤ 2 ^ P → 2 ^ P - S < n → CT P O G m → DT P O G S m → ∃ m2, X6_solve_b23 n (nI (2 ^ P)) (nI S) m = some ((), m2) ∧ DT P O G (2 ^ P) m2 ∧ Fr s934 m m2 := by
  have h8 : 2 ^ P ≤ 2 ^ 8 := Nat.pow_le_pow_right (by decide) hP
  intro n
  induction n with
  | zero => intro S m _ _ h; omega
  | succ n ih =>
    intro S m hS0 hS hn hT hD
    rw [X6_solve_b23, K1]
    rcases Nat.eq_or_lt_of_le hS with he | hl
    · subst he
      rw [jle_t (by omega) (by omega)]
      exact ⟨m, rfl, hD, Fr.rf⟩
    · obtain ⟨m1, a1, a2, a3⟩ := c_choose hP hG hT hS0 hl hD
      obtain ⟨m2, i1, i2, i3⟩ := ih (S + 1) m1 (by omega) (by omega) (by omega) (hT.f9 a3) a2
      rw [jle_f hl (by omega), a1, bq, nadd]
      exact ⟨m2, i1, i2, a3.tr i3⟩
theorem c_solve {P : Nat} {O : Nat → Nat → Bool} {G : Nat → Nat → Int32} {m : Mem} (hP : P ≤ 8) (hG : GB P G) (hT : CT P O G m) : ∃ m2, X6_solve m = some ((), m2) ∧ DT P O G (2 ^ P) m2 ∧ CT P O G m2 ∧ Fr s934 m m2 := by
  have h8 : 2 ^ P ≤ 2 ^ 8 := Nat.pow_le_pow_right (by decide) hP
  have h1 : 1 ≤ 2 ^ P := Nat.two_pow_pos P
  have f0 : Fr s934 m (si (si m 93 0 (nI 0)) 94 0 NO) := (Fr.si (by unfold s934; omega)).tr (Fr.si (by unfold s934; omega))
  have b0 : ∀ c k, k + c = P → bst P O G c k 0 = [] := by
    intro c
    induction c with
    | zero => intro k _; rfl
    | succ c ih => intro k hk; rw [bst_0 (by simp)]; exact ih (k + 1) (by omega)
  obtain ⟨m2, a1, a2, a3⟩ := c_solve_loop (O := O) (G := G) hP hG FU 1 (si (si m 93 0 (nI 0)) 94 0 NO) (by omega) h1 (by unfold FU; omega) (hT.f9 f0) (fun S hS => by
    have : S = 0 := by omega
    subst this
    refine ⟨?_, fun p q1 _ => by simp at q1⟩
    rw [gsn (by omega), gss, b0 P 0 (by omega)]
    show (nI 0).toInt = 0
    decide)
  have h90 : gi (si (si m 93 0 (nI 0)) 94 0 NO) 90 0 = nI P := by rw [gsn (by omega), gsn (by omega)]; exact hT.1
  refine ⟨m2, ?_, a2, (hT.f9 f0).f9 a3, f0.tr a3⟩
  have c0 : ∀ {β : Type} (t : Option β), chk (inb 0 256) t = t := fun t => chk_tt (by decide)
  rw [X6_solve, c0, i0, lq, c0, lq, kn1, K0, h90, K1, nshl (by omega), lq, a1]
/-! following the choices -/
theorem c_follow_loop {P : Nat} {O : Nat → Nat → Bool} {G : Nat → Nat → Int32} (hP : P ≤ 8) : ∀ c p fu L w m, c + p = P → c < fu → L < 2 ^ P → (∀ i, L.testBit i = true → p ≤ i) → CT P O G m → DT P O G (2 ^ P) m → (∀ i, i < 8 → gi m 95 i = oN (w i)) → ∃ m2, X6_follow_b8 fu (nI L) (nI p) m = some ((), m2) ∧ (∀ i, i < 8 → gi m2 95 i = oN (apw w (bst P O G c p L) i)) ∧ Fr (fun c => c = 95) m m2 := by
  have h8 : 2 ^ P ≤ 2 ^ 8 := Nat.pow_le_pow_right (by decide) hP
  intro c
  induction c with
  | zero =>
    intro p fu L w m hp hf hL hlo hT hD hw
    obtain ⟨fu, rfl⟩ : ∃ f2, fu = f2 + 1 := ⟨fu - 1, by omega⟩
    rw [X6_follow_b8, hT.1, jle_t (by omega) (by omega)]
    exact ⟨m, rfl, hw, Fr.rf⟩
  | succ c ih =>
    intro p fu L w m hp hf hL hlo hT hD hw
    obtain ⟨fu, rfl⟩ : ∃ f2, fu = f2 + 1 := ⟨fu - 1, by omega⟩
    rw [X6_follow_b8, hT.1, jle_f (by omega) (by omega), kn1, K1, K0, nshl (by omega), nand, nadd]
    cases hb : L.testBit p with
    | false =>
      rw [jbit_f hb (by omega), bst_0 hb]
      exact ih (p + 1) fu L w m (by omega) (by omega) hL (fun i hi => by
        have := hlo i hi
        rcases Nat.eq_or_lt_of_le this with he | hl
        · subst he; rw [hb] at hi; cases hi
        · omega) hT hD hw
    | true =>
      have d := (hD L hL).2 p hb hlo
      rw [show P - p = c + 1 by omega] at d
      have hL1 : nd L (2 ^ p) < 2 ^ P := Nat.lt_of_le_of_lt (nd_le _ _) hL
      have hlo1 : ∀ i, (nd L (2 ^ p)).testBit i = true → p + 1 ≤ i := fun i hi => by
        rw [nd2_bit (by omega)] at hi
        simp at hi
        have := hlo i hi.1
        omega
      rw [jbit_t hb (by omega), chk_in (by omega) (by omega), ix_nI (by omega), d, lq, nandn, lq]
      rcases bst_cs (O := O) (G := G) (n := c) (by omega) hb with ⟨q, q1, q2, q3, q4⟩ | q4
      · rw [q4, hdp_c, oN_some, jle_f q1 (by omega), jle_f q2 (by omega), nshl (by omega), nandn, lq]
        simp (disch := omega) only [chk_in, ix_nI, lq]
        have hw2 : ∀ i, i < 8 → gi (si (si m 95 p (nI q)) 95 q (nI p)) 95 i = oN (swd w p q i) := fun i hi => by
          rw [swd_c]
          by_cases c1 : i = q
          · rw [if_pos c1, c1, gss]; rfl
          · rw [if_neg c1, gsi c1]
            by_cases c2 : i = p
            · rw [if_pos c2, c2, gss]; rfl
            · rw [if_neg c2, gsi c2]; exact hw i hi
        have f5 : Fr (fun c => c = 95) m (si (si m 95 p (nI q)) 95 q (nI p)) := Fr.tr (Fr.si rfl) (Fr.si rfl)
        obtain ⟨m2, i1, i2, i3⟩ := ih (p + 1) fu (nd (nd L (2 ^ p)) (2 ^ q)) (swd w p q) _ (by omega) (by omega) (Nat.lt_of_le_of_lt (nd_le _ _) hL1) (fun i hi => by
          rw [nd2_bit (by omega)] at hi
          simp at hi
          exact hlo1 i hi.1) (hT.fr (f5 90 (by omega) _).1 (fun j => (f5 91 (by omega) j).1) (fun j => (f5 92 (by omega) j).1)) (fun S hS => by
            obtain ⟨d1, d2⟩ := hD S hS
            exact ⟨by rw [(f5 93 (by omega) _).1]; exact d1, fun p' a1 a2 => by rw [(f5 94 (by omega) _).1]; exact d2 p' a1 a2⟩) hw2
        exact ⟨m2, i1, i2, f5.tr i3⟩
      · have o1 := bst_ok (P := P) (O := O) (G := G) (n := c) (p := p + 1) (S := nd L (2 ^ p)) (by omega)
        rw [q4, hdp_no o1.1, oN_none, jml_t (by omega)]
        exact ih (p + 1) fu (nd L (2 ^ p)) w m (by omega) (by omega) hL1 hlo1 hT hD hw
theorem c_follow {P L : Nat} {O : Nat → Nat → Bool} {G : Nat → Nat → Int32} {m : Mem} (hP : P ≤ 8) (hL : L < 2 ^ P) (hT : CT P O G m) (hD : DT P O G (2 ^ P) m) : ∃ m2, X6_follow (nI L) m = some ((), m2) ∧ (∀ i, i < 8 → gi m2 95 i = oN (apw (fun _ => none) (bst P O G P 0 L) i)) ∧ Fr (fun c => c = 95) m m2 := by
  have f5 : Fr (fun c => c = 95) m (wig m 95 0 8 (fun _ => NO)) := wig_f rfl
  obtain ⟨m2, i1, i2, i3⟩ := c_follow_loop (O := O) (G := G) hP P 0 FU L (fun _ => none) (wig m 95 0 8 (fun _ => NO)) (by omega) (by unfold FU; omega) hL (fun i _ => by omega) (hT.fr (f5 90 (by omega) _).1 (fun j => (f5 91 (by omega) j).1) (fun j => (f5 92 (by omega) j).1)) (fun S hS => by
    obtain ⟨d1, d2⟩ := hD S hS
    exact ⟨by rw [(f5 93 (by omega) _).1]; exact d1, fun p' a1 a2 => by rw [(f5 94 (by omega) _).1]; exact d2 p' a1 a2⟩) (fun i hi => by rw [gi_wig, if_pos (by omega)]; rfl)
  rw [X6_follow, c_leaveAlone, bq, K0, i1]
  exact ⟨m2, rfl, i2, f5.tr i3⟩
