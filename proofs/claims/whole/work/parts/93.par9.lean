/-! people -/
section
variable {tb : Nat → Nat} {L a b C K v N : Nat} {r : Ru} {ag li : Nat → Nat} {mx mm : Mem}
theorem or_lt' {s t T : Nat} (hs : s < 2 ^ T) (ht : t < T) : s ||| 2 ^ t < 2 ^ T := Nat.or_lt_two_pow hs (Nat.pow_lt_pow_right (by decide) ht)
theorem th_loop (hL : L ≤ 900) (htb : ∀ i, i < L → tb i < 256) {T : Nat} (hT : T ≤ 14) : ∀ n n2 i s set a b C K v mx mm, L - a + 1 < n → L - a + 1 < n2 → i ≤ a → (s = if i = 0 then 0 else 1) → set < 2 ^ T → TL tb L a b C K v mx mm → gi mx 9 0 = nI T → gi mm 4 1 = nI T → (∃ a' b' C' K' v' set' mx' mm', X7_readThings_b8 n (nI set) (nI i) mx = some (nI set', mx') ∧ X12_takesThings_b4 n2 (nI set) (nI s) mm = some (nI set', mm') ∧ TL tb L a' b' C' K' v' mx' mm' ∧ set' < 2 ^ T ∧ a ≤ a' ∧ GC mx mx' ∧ GM mm mm') ∨ (∃ set' mx' mm', X7_readThings_b8 n (nI set) (nI i) mx = some (nI set', mx') ∧ X12_takesThings_b4 n2 (nI set) (nI s) mm = some (nI set', mm') ∧ set' < 2 ^ T ∧ DD mx' mm' ∧ GC mx mx' ∧ GM mm mm') := by
  intro n
  induction n with
  | zero => intro n2 i s set a b C K v mx mm h; omega
  | succ n ih =>
    intro n2 i s set a b C K v mx mm hn hn2 hi hs hset ht hc hm
    match n2, hn2 with
    | n2 + 1, hn2 =>
    have haL := ht.aL
    have w := ht.1.2.2.2.1.w.1
    have s2 := ht.1.2.2.2.1.s.2.1
    have m23 : X12_is 23 mm = some (nI (if K = 23 then 1 else 0), mm) := ht.mi (k := 23) (by omega)
    have go : (∃ a' b' C' K' v' set' mx' mm', X7_readThings_b34 (X7_readThings_b8 n) (nI set) (nI i) mx = some (nI set', mx') ∧ X12_takesThings_b24 (X12_takesThings_b4 n2) (nI set) mm = some (nI set', mm') ∧ TL tb L a' b' C' K' v' mx' mm' ∧ set' < 2 ^ T ∧ a ≤ a' ∧ GC mx mx' ∧ GM mm mm') ∨ (∃ set' mx' mm', X7_readThings_b34 (X7_readThings_b8 n) (nI set) (nI i) mx = some (nI set', mx') ∧ X12_takesThings_b24 (X12_takesThings_b4 n2) (nI set) mm = some (nI set', mm') ∧ set' < 2 ^ T ∧ DD mx' mm' ∧ GC mx mx' ∧ GM mm mm') := by
      rw [X7_readThings_b34, X12_takesThings_b24, hc, K1, chk_in (by omega) (by omega), ix_nI (by omega), hm, K0]
      rcases ht.num hL htb (lo := 0) (H := T) (by omega) (by omega) with ⟨a1, b1, C1, K1', v1, mx1, mm1, n0, n1, n2', n3, n4, n5, n6, n7, n8, n9, n10⟩ | ⟨mx1, mm1, r0, n1, n2', n3, n4, n5, n6⟩
      · have aL1 := n7.aL
        rw [n5, bq, if_neg (nI_nneg (by omega)), nshl (by omega), nor, lq, n6, bq, n7.2.2.2.2, if_pos rfl, nadd, nshl (by omega), nor, lq]
        rcases ih n2 (i + 1) 1 (set ||| 2 ^ v) a1 b1 C1 K1' v1 mx1 mm1 (by omega) (by omega) (by omega) (by rw [if_neg (by omega)]) (or_lt' hset n2') n7 (by rw [(n8.1 9 (by omega) 0).1, hc]) (by rw [(n9.1 4 (by omega) 1).1, hm]) with ⟨a', b', C', K', v', set', mx', mm', r1, r2, r3, r4, r5, r6, r7⟩ | ⟨set', mx', mm', r1, r2, r4, r3, r6, r7⟩
        · exact Or.inl ⟨a', b', C', K', v', set', mx', mm', r1, r2, r3, r4, by omega, n8.tr r6, n9.tr r7⟩
        · exact Or.inr ⟨set', mx', mm', r1, r2, r4, r3, n8.tr r6, n9.tr r7⟩
      · rw [n1, bq, if_pos NO_neg, n2', bq, if_neg n3.m8, nadd]
        obtain ⟨nn, hnn⟩ : ∃ nn, n = nn + 1 := ⟨n - 1, by omega⟩
        obtain ⟨nn2, hnn2⟩ : ∃ nn2, n2 = nn2 + 1 := ⟨n2 - 1, by omega⟩
        rw [hnn, hnn2, X7_readThings_b8, X12_takesThings_b4, K0, if_neg n3.m8, if_neg n3.c8]
        refine Or.inr ⟨set, mx1, mm1, ?_, rfl, hset, n3, n4, n5⟩
        split <;> rfl
    rw [X7_readThings_b8, X12_takesThings_b4, K900, jlt_f (by omega) (by omega), K0, ht.2.2.2.1, if_pos rfl, ht.2.2.2.2, if_pos rfl, K2, ht.cs (by omega)]
    by_cases h0 : i = 0
    · rw [if_pos (by rw [h0]), hs, if_pos h0, if_pos rfl]
      exact go
    · rw [jeq_f h0 (by omega) (by omega), hs, if_neg h0, if_neg (show ¬ nI 1 = nI 0 by decide), m23, bq]
      by_cases h23 : K = 23
      · rw [if_pos (s2.mpr h23), if_pos h23, if_neg (show ¬ nI 1 = nI 0 by decide)]
        exact go
      · rw [if_neg (fun q => h23 (s2.mp q)), if_neg h23, if_pos rfl]
        exact Or.inl ⟨a, b, C, K, v, set, mx, mm, rfl, rfl, ht, hset, Nat.le_refl _, GC.rf, GM.rf⟩
theorem m_one_d (lo hi : Int32) (h : DD mx mm) : ∃ r0, X12_takesOne lo hi mm = some (r0, mm) := by
  have h8 := h.m8
  obtain ⟨w, pl, d1, d2, d3, d4, d5, d6, d7⟩ := h
  rw [X12_takesOne, m_is_d d6 d1 d2, bq, K0, if_pos rfl, m_fails_d d6 d1 d2, bq, X12_takesOne_b37, lq, K0, if_neg h8]
  exact ⟨_, rfl⟩
theorem m_84_d (h : DD mx mm) (y1 y2 y3 z : Int32) : X12_readPerson_b84 y1 y2 y3 z mm = some ((), mm) := by
  rw [X12_readPerson_b84, K0, if_neg h.m8]
theorem m_67_d (h : DD mx mm) (y1 y2 z : Int32) : X12_readPerson_b67 y1 y2 z mm = some ((), mm) := by
  have h2 := h
  obtain ⟨w, pl, d1, d2, d3, d4, d5, d6, d7⟩ := h
  rw [X12_readPerson_b67, m_eats_d d6 d1 d2, bq, K0, if_pos rfl, m_84_d h2]
theorem m_43_d (h : DD mx mm) (y1 : Int32) : X12_readPerson_b43 y1 mm = some ((), mm) := by
  have h2 := h
  obtain ⟨r0, e⟩ := m_one_d 0 99 h
  obtain ⟨w, pl, d1, d2, d3, d4, d5, d6, d7⟩ := h
  rw [X12_readPerson_b43, e, bq, m_eats_d d6 d1 d2, bq, K0, if_pos rfl, m_67_d h2]
theorem c_148_d (h : DD mx mm) : ∃ mx2, X7_readPerson_b148 mx = some (nI 0, mx2) ∧ DD mx2 mm ∧ FT mx mx2 := by
  rw [X7_readPerson_b148, lq, gsn (by omega), K0, if_neg h.c8]
  exact ⟨_, rfl, h.fr (fun j => gsn (by omega)) (fun j => rfl), FT.si (by omega) (by omega)⟩
theorem c_113_d {T P : Nat} (hT : T ≤ 14) (hP : P < 8) (y : Int32) : ∀ fu k mx, k ≤ T → T - k < fu → gi mx 9 0 = nI T → DD mx mm → ∃ mx2, X7_readPerson_b113 fu (nI P) y (nI k) mx = some (nI 0, mx2) ∧ DD mx2 mm ∧ FT mx mx2 := by
  intro fu
  induction fu with
  | zero => intro k mx _ h; omega
  | succ fu ih =>
    intro k mx hk hf h0 hd
    rw [X7_readPerson_b113, h0, K1, nadd]
    rcases Nat.eq_or_lt_of_le hk with he | hl
    · rw [jle_t (by omega) (by omega)]
      exact c_148_d hd
    · have st : ∀ j1 j2 j3 v1 v2 v3, ∃ mx2, X7_readPerson_b113 fu (nI P) y (nI (k + 1)) (si (si (si mx 19 j1 v1) 20 j2 v2) 21 j3 v3) = some (nI 0, mx2) ∧ DD mx2 mm ∧ FT mx mx2 := by
        intro j1 j2 j3 v1 v2 v3
        obtain ⟨mx2, e1, e2, e3⟩ := ih (k + 1) (si (si (si mx 19 j1 v1) 20 j2 v2) 21 j3 v3) (by omega) (by omega) (by rw [gsn (by omega), gsn (by omega), gsn (by omega)]; exact h0) (hd.fr (mm2 := mm) (fun j => by rw [gsn (by omega), gsn (by omega), gsn (by omega)]) (fun j => rfl))
        exact ⟨mx2, e1, e2, ((FT.si (by omega) (by omega)).tr ((FT.si (by omega) (by omega)).tr (FT.si (by omega) (by omega)))).tr e3⟩
      rw [jle_f (by omega) (by omega)]
      split
      · exact ih (k + 1) mx (by omega) (by omega) h0 hd
      · rw [X5_adopt, chk_in (by omega) (by omega), chk_in (by omega) (by omega), lq, chk_in (by omega) (by omega), chk_in (by omega) (by omega), lq, K14, nmul, nadd, chk_in (by omega) (by omega), lq, bq]
        exact st _ _ _ _ _ _
def lp (li : Nat → Nat) (P S : Nat) : Nat → Nat := fun p => if p = P then S else li p
theorem c_113 {P S : Nat} (hT : rT r ≤ 14) (hP : P < 8) (hS : S < 2 ^ rT r) : ∀ fu k mx, k ≤ rT r → rT r - k < fu → TC r ag (lp li P (S &&& (2 ^ k - 1))) mx → ∃ mx2, X7_readPerson_b113 fu (nI P) (nI S) (nI k) mx = X7_readPerson_b148 mx2 ∧ TC r ag (lp li P S) mx2 ∧ Fr (fun c => 19 ≤ c ∧ c ≤ 21) mx mx2 := by
  have h14 : (2 : Nat) ^ rT r ≤ 2 ^ 14 := Nat.pow_le_pow_right (by decide) hT
  intro fu
  induction fu with
  | zero => intro k mx _ h; omega
  | succ fu ih =>
    intro k mx hk hf h
    rw [X7_readPerson_b113, h.1.1, K0, K1, nadd]
    rcases Nat.eq_or_lt_of_le hk with he | hl
    · rw [jle_t (by omega) (by omega)]
      refine ⟨mx, rfl, ?_, Fr.rf⟩
      rw [he, Nat.and_two_pow_sub_one_of_lt_two_pow hS] at h
      exact h
    · rw [jle_f (by omega) (by omega), nshl (by omega), nand]
      cases hb : S.testBit k with
      | false =>
        rw [jbit_f hb (by omega)]
        refine ih (k + 1) mx (by omega) (by omega) ?_
        rw [fbx_n (x := (fun _ => 0, fun _ => none, fun _ _ => none, 0)) (p := 0) hb]
        exact h
      | true =>
        have hor : S &&& (2 ^ (k + 1) - 1) = (S &&& (2 ^ k - 1)) ||| 2 ^ k := Nat.eq_of_testBit_eq (fun i => by
          rw [or_bit, Nat.testBit_and, Nat.testBit_and, Nat.testBit_two_pow_sub_one, Nat.testBit_two_pow_sub_one]
          by_cases e : k = i
          · subst e; simp [hb]
          · by_cases e2 : i < k
            · have : i < k + 1 := by omega
              simp [e, e2, this]
            · have : ¬ i < k + 1 := by omega
              simp [e, e2, this])
        obtain ⟨⟨c1, c2, c3, c4, c5, c6, c7, c8, c9⟩, d1, d2, d3, d4, d5, d6⟩ := h
        have e19 : gi mx 19 P = nI (S &&& (2 ^ k - 1)) := by rw [d4 P hP, lp, if_pos rfl]
        have hbs : bs 8 (fun p => (lp li P (S &&& (2 ^ k - 1)) p).testBit k) < 2 ^ 8 := bs_lt _ _
        rw [jbit_t hb (by omega), X5_adopt, chk_in (by omega) (by omega), chk_in (by omega) (by omega), lq, chk_in (by omega) (by omega), chk_in (by omega) (by omega), lq, K14, nmul, nadd, chk_in (by omega) (by omega), lq, bq, ix_nI (by omega), ix_nI (by omega), ix_nI (by omega), e19, gsn (by omega), d5 k (by omega), K1, nshl (by omega), nshl (by omega), nor, nor]
        obtain ⟨mx2, e1, e2, e3⟩ := ih (k + 1) (si (si (si mx 19 P (nI ((S &&& (2 ^ k - 1)) ||| 2 ^ k))) 20 k (nI (bs 8 (fun p => (lp li P (S &&& (2 ^ k - 1)) p).testBit k) ||| 2 ^ P))) 21 (P * 14 + k) (nI 0)) (by omega) (by omega) (by
          have ex : ∀ c, c ≠ 19 → c ≠ 20 → c ≠ 21 → ∀ j, gi (si (si (si mx 19 P (nI ((S &&& (2 ^ k - 1)) ||| 2 ^ k))) 20 k (nI (bs 8 (fun p => (lp li P (S &&& (2 ^ k - 1)) p).testBit k) ||| 2 ^ P))) 21 (P * 14 + k) (nI 0)) c j = gi mx c j := fun c h1 h2 h3 j => by rw [gsn h3, gsn h2, gsn h1]
          rw [hor]
          refine ⟨⟨(ex _ (by omega) (by omega) (by omega) _).trans c1, (ex _ (by omega) (by omega) (by omega) _).trans c2, (ex _ (by omega) (by omega) (by omega) _).trans c3, (ex _ (by omega) (by omega) (by omega) _).trans c4, (ex _ (by omega) (by omega) (by omega) _).trans c5, fun t ht => (ex _ (by omega) (by omega) (by omega) _).trans (c6 t ht), fun p hp => (ex _ (by omega) (by omega) (by omega) _).trans (c7 p hp), ⟨(ex _ (by omega) (by omega) (by omega) _).trans c8.1, c8.2.1, fun i hi => (ex _ (by omega) (by omega) (by omega) _).trans (c8.2.2 i hi)⟩, ⟨(ex _ (by omega) (by omega) (by omega) _).trans c9.1, c9.2.1, fun i hi => (ex _ (by omega) (by omega) (by omega) _).trans (c9.2.2 i hi)⟩⟩, (ex _ (by omega) (by omega) (by omega) _).trans d1, fun p hp => (ex _ (by omega) (by omega) (by omega) _).trans (d2 p hp), fun p hp => (ex _ (by omega) (by omega) (by omega) _).trans (d3 p hp), fun p hp => ?_, fun t ht => ?_, fun p t hp ht q => ?_⟩
          · rw [gsn (by omega), gsn (by omega)]
            by_cases e : p = P
            · rw [e, gss, lp, if_pos rfl]
            · rw [gsi e, d4 p hp, lp, lp, if_neg e, if_neg e]
          · rw [gsn (by omega)]
            by_cases e : t = k
            · rw [e, gss]
              congr 1
              apply Nat.eq_of_testBit_eq
              intro i
              rw [or_bit, bs_bit, bs_bit]
              by_cases ei : P = i
              · subst ei
                simp [lp, hP, or_bit]
              · have : ¬ i = P := fun q => ei q.symm
                simp [lp, ei, this]
            · rw [gsi e, gsn (by omega), d5 t ht]
              congr 1
              apply Nat.eq_of_testBit_eq
              intro i
              rw [bs_bit, bs_bit]
              by_cases ei : i = P
              · have : ¬ k = t := fun q => e q.symm
                simp only [lp, if_pos ei, or_bit, decide_eq_false this, Bool.or_false]
              · simp only [lp, if_neg ei]
          · by_cases e : p * 14 + t = P * 14 + k
            · rw [e, gss]
            · rw [gsi e, gsn (by omega), gsn (by omega)]
              refine d6 p t hp ht ?_
              rw [lp] at q ⊢
              by_cases ep : p = P
              · rw [if_pos ep] at q ⊢
                rw [or_bit] at q
                have : ¬ k = t := fun z => e (by rw [ep, z])
                simpa [this] using q
              · rw [if_neg ep] at q ⊢
                exact q)
        refine ⟨mx2, e1, e2, Fr.tr ?_ e3⟩
        exact ((Fr.si (S := fun c => 19 ≤ c ∧ c ≤ 21) (by omega)).tr (Fr.si (S := fun c => 19 ≤ c ∧ c ≤ 21) (by omega))).tr (Fr.si (S := fun c => 19 ≤ c ∧ c ≤ 21) (by omega))
theorem m_117 {P S : Nat} (hP : P < 8) (hS : S < 16384) : ∀ fu k m, k ≤ 14 → 14 - k < fu → gi m 4 2 = nI P → ∃ m', X12_readPerson_b117 fu (nI P) (nI S) (nI k) m = some ((), m') ∧ (∀ j, j ≠ 2 → ¬ (41 + 14 * P + k ≤ j ∧ j < 41 + 14 * P + 14) → gi m' 4 j = gi m 4 j) ∧ (∀ t, k ≤ t → t < 14 → gi m' 4 (41 + 14 * P + t) = if S.testBit t then nI 0 else gi m 4 (41 + 14 * P + t)) ∧ gi m' 4 2 = nI (P + 1) ∧ Fr (fun c => c = 4) m m' := by
  intro fu
  induction fu with
  | zero => intro k m _ h; omega
  | succ fu ih =>
    intro k m hk hf h2
    rw [X12_readPerson_b117, K14, K0, K1, nadd]
    rcases Nat.eq_or_lt_of_le hk with he | hl
    · rw [jle_t (by omega) (by omega), K2, chk_in (by omega) (by omega), chk_in (by omega) (by omega), ix_nI (by omega), h2, nadd, lq]
      exact ⟨_, rfl, fun j hj _ => gsi hj, fun t h1 h3 => by omega, gss, Fr.si rfl⟩
    · rw [jle_f (by omega) (by omega), isIn_e (by omega) (by omega), bq]
      cases hb : S.testBit k with
      | false =>
        rw [if_pos (show nI (if false = true then 1 else 0) = nI 0 by decide)]
        obtain ⟨m', e1, e2, e3, e4, e5⟩ := ih (k + 1) m (by omega) (by omega) h2
        refine ⟨m', e1, fun j h1 h3 => e2 j h1 (by omega), fun t h1 h3 => ?_, e4, e5⟩
        by_cases e : t = k
        · subst e
          rw [hb, e2 _ (by omega) (by omega)]
          rfl
        · exact e3 t (by omega) h3
      | true =>
        rw [if_neg (show ¬ nI (if true = true then 1 else 0) = nI 0 by decide), K41, nmul, nadd, nadd, chk_in (by omega) (by omega), ix_nI (by omega), lq]
        obtain ⟨m', e1, e2, e3, e4, e5⟩ := ih (k + 1) (si m 4 (41 + 14 * P + k) (nI 0)) (by omega) (by omega) (by rw [gsi (by omega), h2])
        refine ⟨m', e1, fun j h1 h3 => by rw [e2 j h1 (by omega), gsi (by omega)], fun t h1 h3 => ?_, e4, (Fr.si (S := fun c => c = 4) rfl).tr e5⟩
        by_cases e : t = k
        · subst e
          rw [hb, e2 _ (by omega) (by omega), gss]
          rfl
        · rw [e3 t (by omega) h3, gsi (by omega)]
end
