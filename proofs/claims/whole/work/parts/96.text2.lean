section
variable {tb : Nat → Nat} {L : Nat}
theorem text_loop (hL : L ≤ 900) (htb : ∀ i, i < L → tb i < 256) : ∀ n n2 i a b C K v r ag li N mx mm, L - a + 1 < n → L - a + 1 < n2 → i ≤ a → TL tb L a b C K v mx mm → TWl r ag li → TC r ag li mx → TM r ag li N mm → N ≤ a → rlin r = i → ∃ mx' mm', X7_readText_b50 n (nI 1) (nI i) mx = some ((), mx') ∧ X12_bureau_b53 n2 mm = X12_bureau_b100 mm' ∧ FT mx mx' ∧ FU0 mm mm' ∧ ((gi mx' 39 8 = nI 0 ∧ gi mm' 0 11 = nI 0 ∧ ∃ r' ag' li' N', N' ≤ 900 ∧ TWl r' ag' li' ∧ TC r' ag' li' mx' ∧ TM r' ag' li' N' mm') ∨ DD mx' mm') := by
  intro n
  induction n with
  | zero => intro n2 i a b C K v r ag li N mx mm h; omega
  | succ n ih =>
    intro n2 i a b C K v r ag li N mx mm hn hn2 hi ht hW hC hM hN hlin
    match n2, hn2 with
    | n2 + 1, hn2 =>
    have haL := ht.aL
    have s0 := ht.1.2.2.2.1.s.1
    have w := ht.1.2.2.2.1.w.1
    rw [X7_readText_b50, X12_bureau_b53, K900, jlt_f (by omega) (by omega), K0, jeq_f (by omega) (by omega) (by omega), ht.cs (by omega), ht.2.2.2.2, if_pos rfl, ht.2.2.1.2.2.2.1, K24]
    by_cases hK : K = 24
    · rw [if_pos (s0.mpr hK), if_pos (by rw [hK])]
      exact ⟨mx, mm, rfl, rfl, FT.rf, FU0.rf, Or.inl ⟨ht.2.2.2.1, ht.2.2.2.2, r, ag, li, N, by omega, hW, hC, hM⟩⟩
    · rw [if_neg (fun q => hK (s0.mp q)), jeq_f hK (by omega) (by omega)]
      have dead : ∀ {mx1 mm1 : Mem}, DD mx1 mm1 → FT mx mx1 → FU0 mm mm1 → ∃ mx' mm', X7_readText_b89 (X7_readText_b50 n) (nI i) (nI 0) mx1 = some ((), mx') ∧ X12_bureau_b87 (X12_bureau_b53 n2) mm1 = X12_bureau_b100 mm' ∧ FT mx mx' ∧ FU0 mm mm' ∧ ((gi mx' 39 8 = nI 0 ∧ gi mm' 0 11 = nI 0 ∧ ∃ r' ag' li' N', N' ≤ 900 ∧ TWl r' ag' li' ∧ TC r' ag' li' mx' ∧ TM r' ag' li' N' mm') ∨ DD mx' mm') := by
        intro mx1 mm1 hd f1 f2
        obtain ⟨nn, hnn⟩ : ∃ nn, n = nn + 1 := ⟨n - 1, by omega⟩
        obtain ⟨nn2, hnn2⟩ : ∃ nn2, n2 = nn2 + 1 := ⟨n2 - 1, by omega⟩
        have hd2 := hd.fr (mx2 := si mx1 9 4 (gi mx1 9 4 + nI 1)) (mm2 := si mm1 4 0 (gi mm1 4 0 + nI 1)) (fun j => gsn (by omega)) (fun j => gsn (by omega))
        rw [X7_readText_b89, lq, X12_bureau_b87, K0, K1, chk_in (by omega) (by omega), chk_in (by omega) (by omega), ix_nI (by omega), lq, hnn, hnn2, X7_readText_b50, X12_bureau_b53, K0, if_pos rfl, if_neg hd2.m8]
        refine ⟨_, _, ?_, rfl, f1.tr (FT.si (by omega) (by omega)), f2.tr FU0.si, Or.inr hd2⟩
        split <;> rfl
      rcases line_sim hL htb ht hW hC hM hN with ⟨a1, b1, C1, K1', v1, r1, ag1, li1, N1, mx1, mm1, e1, e2, e3, e4, e5, e6, e7, e8, e9, e10, e11⟩ | ⟨mx1, mm1, e1, e2, e3, e4, e5⟩
      · have ss := e3.1.2.2.2.1.s.2.2.2.1
        have aL1 := e3.aL
        rw [e1, bq, if_neg (show ¬ nI 1 = nI 0 by decide), e2, bq, show (59 : Int32) = nI 59 by decide, show (30 : Int32) = nI 30 by decide]
        rcases e3.ps hL htb (sg := 59) (k := 30) (by omega) (by omega) ss (by omega) with ⟨a2, b2, C2, K2', v2, mx2, mm2, p0, p1, p2, p3, p4, p5, p6⟩ | ⟨mx2, mm2, p1, p2, p3, p4, p5, p6, p7⟩
        · have aL2 := p4.aL
          have c4 : gi mx2 9 4 = nI (rlin r1) := (e6.g p5).1.2.2.2.2.1
          have m4 : gi mm2 4 0 = nI (rlin r1) := (e7.g p6).1
          rw [p2, bq, if_neg (show ¬ nI 1 = nI 0 by decide), p3, bq, if_neg (show ¬ nI 1 = nI 0 by decide), X7_readText_b89, X12_bureau_b87, c4, K0, K1, nadd, lq, chk_in (by omega) (by omega), chk_in (by omega) (by omega), ix_nI (by omega), m4, nadd, lq, nadd]
          obtain ⟨mx', mm', q1, q2, q3, q4, q5⟩ := ih n2 (i + 1) a2 b2 C2 K2' v2 (rT r1, rP r1, rbar r1, rroom r1, rlin r1 + 1, rwan r1, rtr r1, rgood r1, rmay r1) ag1 li1 N1 (si mx2 9 4 (nI (rlin r1 + 1))) (si mm2 4 0 (nI (rlin r1 + 1))) (by omega) (by omega) (by omega) (p4.fr (fun c hc j => gsn (by omega)) (fun c hc j => gsn (by omega))) ⟨(by
            obtain ⟨w1, w2, w3, w4, w5, w6, w7⟩ := e4.1
            exact ⟨w1, w2, w3, w4, w5, (by show rlin r1 + 1 ≤ 900; omega), w7⟩), e4.2⟩ (by
            obtain ⟨⟨c1, c2, c3, c4, c5, c6, c7, c8, c9⟩, d1, d2, d3, d4, d5, d6⟩ := e6.g p5
            exact ⟨⟨by rw [gsi (by omega)]; exact c1, by rw [gsi (by omega)]; exact c2, by rw [gsi (by omega)]; exact c3, by rw [gsi (by omega)]; exact c4, gss, fun t ht => by rw [gsn (by omega)]; exact c6 t ht, fun p hp => by rw [gsn (by omega)]; exact c7 p hp, ⟨by rw [gsn (by omega)]; exact c8.1, c8.2.1, fun i hi => by rw [gsn (by omega)]; exact c8.2.2 i hi⟩, ⟨by rw [gsn (by omega)]; exact c9.1, c9.2.1, fun i hi => by rw [gsn (by omega)]; exact c9.2.2 i hi⟩⟩, by rw [gsn (by omega)]; exact d1, fun p hp => by rw [gsn (by omega)]; exact d2 p hp, fun p hp => by rw [gsn (by omega)]; exact d3 p hp, fun p hp => by rw [gsn (by omega)]; exact d4 p hp, fun t ht => by rw [gsn (by omega)]; exact d5 t ht, fun p t hp ht q => by rw [gsn (by omega)]; exact d6 p t hp ht q⟩) (by
            obtain ⟨a1, a2, a3, a4, a5, a6, a7, a8, a9, b1, b2, b3, b4, b5, b6⟩ := e7.g p6
            exact ⟨gss, by rw [gsi (by omega)]; exact a2, by rw [gsi (by omega)]; exact a3, by rw [gsi (by omega)]; exact a4, by rw [gsi (by omega)]; exact a5, fun t ht => by rw [gsi (by omega)]; exact a6 t ht, fun p hp => by rw [gsi (by omega)]; exact a7 p hp, a8.fr (by omega) (Nat.le_refl _) (gsi (by omega)) (gsi (by omega)) (gsi (by omega)) (fun j _ => gsi (by omega)), a9.fr (by omega) (Nat.le_refl _) (gsi (by omega)) (gsi (by omega)) (gsi (by omega)) (fun j _ => gsi (by omega)), fun p hp => by rw [gsi (by omega)]; exact b1 p hp, fun p t hp ht => by rw [gsi (by omega)]; exact b2 p t hp ht, fun p hp => by rw [gsi (by omega)]; exact b3 p hp, by rw [gsi (by omega)]; exact b4, by rw [gsi (by omega)]; exact b5, by rw [gsi (by omega)]; exact b6⟩) (by omega) (by show rlin r1 + 1 = i + 1; omega)
          exact ⟨mx', mm', q1, q2, ((e10.tr p5.t).tr (FT.si (by omega) (by omega))).tr q3, ((e11.tr p6.t).tr FU0.si).tr q4, q5⟩
        · rw [p2, bq, if_pos rfl, p3, bq, if_pos rfl, K2, p4, bq]
          exact dead p5 (e10.tr p6.t) (e11.tr p7.t)
      · have hdd := e3
        obtain ⟨w', pl, d1, d2, d3, d4, d5, d6, d7⟩ := e3
        rw [e1, bq, if_pos rfl, e2, bq, m_eats_d d6 d1 d2, bq, if_pos rfl, m_fails_d d6 d1 d2, bq]
        exact dead hdd e4 e5
end
/-! cleared -/
theorem c_clear2 {m : Mem} {a : Nat} : ∀ n k m, k ≤ 14 → 14 - k < n → ∃ m2, X5_clear_b42 a n (nI k) m = some ((), m2) ∧ (∀ t, k ≤ t → t < 14 → gi m2 (a + 4) t = nI 0) ∧ (∀ t, t < k → gi m2 (a + 4) t = gi m (a + 4) t) ∧ Fr (fun c => c = a + 4) m m2 := by
  intro n
  induction n with
  | zero => intro k m _ h; omega
  | succ n ih =>
    intro k m hk hn
    rw [X5_clear_b42, K14, K0, K1]
    rcases Nat.eq_or_lt_of_le hk with he | hl
    · rw [jle_t (by omega) (by omega)]
      exact ⟨m, rfl, fun t h1 h2 => by omega, fun t _ => rfl, Fr.rf⟩
    · rw [jle_f (by omega) (by omega), chk_in (by omega) (by omega), ix_nI (by omega), lq, nadd]
      obtain ⟨m2, e1, e2, e3, e4⟩ := ih (k + 1) (si m (a + 4) k (nI 0)) (by omega) (by omega)
      refine ⟨m2, e1, fun t h1 h2 => ?_, fun t ht => by rw [e3 t (by omega), gsi (by omega)], (Fr.si (S := fun c => c = a + 4) rfl).tr e4⟩
      by_cases e : t = k
      · rw [e, e3 k (by omega), gss]
      · exact e2 t (by omega) h2
theorem c_clear1 {a : Nat} : ∀ n k m, k ≤ 8 → 8 - k < n → ∃ m2, X5_clear_b7 a n (nI k) m = some ((), m2) ∧ (∀ p, k ≤ p → p < 8 → gi m2 (a + 1) p = nI 0 ∧ gi m2 (a + 2) p = NO ∧ gi m2 (a + 3) p = nI 0) ∧ (∀ p, p < k → gi m2 (a + 1) p = gi m (a + 1) p ∧ gi m2 (a + 2) p = gi m (a + 2) p ∧ gi m2 (a + 3) p = gi m (a + 3) p) ∧ (∀ t, t < 14 → gi m2 (a + 4) t = nI 0) ∧ Fr (fun c => a + 1 ≤ c ∧ c ≤ a + 4) m m2 := by
  intro n
  induction n with
  | zero => intro k m _ h; omega
  | succ n ih =>
    intro k m hk hn
    rw [X5_clear_b7, kn1, K8, K0, K1]
    rcases Nat.eq_or_lt_of_le hk with he | hl
    · rw [jle_t (by omega) (by omega)]
      obtain ⟨m2, e1, e2, e3, e4⟩ := c_clear2 (m := m) (a := a) FU 0 m (by omega) (by unfold FU; omega)
      refine ⟨m2, e1, fun p h1 h2 => by omega, fun p _ => ⟨(e4 _ (by omega) p).1, (e4 _ (by omega) p).1, (e4 _ (by omega) p).1⟩, fun t ht => e2 t (Nat.zero_le _) ht, e4.mono (fun c q => by omega)⟩
    · rw [jle_f (by omega) (by omega), chk_in (by omega) (by omega), lq, chk_in (by omega) (by omega), lq, chk_in (by omega) (by omega), lq, ix_nI (by omega), nadd]
      obtain ⟨m2, e1, e2, e3, e4, e5⟩ := ih (k + 1) (si (si (si m (a + 1) k (nI 0)) (a + 2) k NO) (a + 3) k (nI 0)) (by omega) (by omega)
      refine ⟨m2, e1, fun p h1 h2 => ?_, fun p hp => ?_, e4, Fr.tr (((Fr.si (S := fun c => a + 1 ≤ c ∧ c ≤ a + 4) (by omega)).tr (Fr.si (S := fun c => a + 1 ≤ c ∧ c ≤ a + 4) (by omega))).tr (Fr.si (S := fun c => a + 1 ≤ c ∧ c ≤ a + 4) (by omega))) e5⟩
      · by_cases e : p = k
        · rw [e]
          obtain ⟨x1, x2, x3⟩ := e3 k (by omega)
          exact ⟨by rw [x1, gsn (by omega), gsn (by omega), gss], by rw [x2, gsn (by omega), gss], by rw [x3, gss]⟩
        · exact e2 p (by omega) h2
      · obtain ⟨x1, x2, x3⟩ := e3 p (by omega)
        exact ⟨by rw [x1, gsn (by omega), gsn (by omega), gsi (by omega)], by rw [x2, gsn (by omega), gsi (by omega), gsn (by omega)], by rw [x3, gsi (by omega), gsn (by omega), gsn (by omega)]⟩
def rN : Ru := (0, 0, 10, 14, 0, fun _ => 0, fun _ => 0, none, none)
theorem c_told {m : Mem} : ∃ m2 m3, X8_clear 9 m = some ((), m2) ∧ X5_clear 16 m2 = some ((), m3) ∧ TC rN (fun _ => 0) (fun _ => 0) m3 ∧ Fr (fun c => 9 ≤ c ∧ c ≤ 21) m m3 := by
  obtain ⟨m2, e1, e2, e3, e4⟩ := c_setFirst (m := si (si (si (si (si m 9 0 (nI 0)) 9 1 (nI 0)) 9 4 (nI 0)) 9 2 (nI 10)) 9 3 (nI 14)) (a := 9)
  obtain ⟨m3, f1, f2, f3, f4, f5⟩ := c_clear1 (a := 16) FU 0 (si m2 16 0 (nI 0)) (by omega) (by unfold FU; omega)
  refine ⟨m2, m3, by rw [X8_clear, K0, K10, K14, lq, lq, lq, lq, lq, e1, bq], by rw [X5_clear, K0, lq, f1], ?_, ?_⟩
  · have x : ∀ c, c ≤ 15 → ∀ j, gi m3 c j = gi m2 c j := fun c hc j => by rw [(f5 c (by omega) j).1, gsn (by omega)]
    have y : ∀ j, gi m2 9 j = gi (si (si (si (si (si m 9 0 (nI 0)) 9 1 (nI 0)) 9 4 (nI 0)) 9 2 (nI 10)) 9 3 (nI 14)) 9 j := fun j => (e4 9 (by unfold s36; omega) j).1
    have fr : ∀ {a : Nat} {cd : List Nat}, a ≤ 14 → LawC m2 a cd → LawC m3 a cd := fun ha h => ⟨by rw [x _ (by omega)]; exact h.1, h.2.1, fun i hi => by rw [x _ (by omega)]; exact h.2.2 i hi⟩
    refine ⟨⟨?_, ?_, ?_, ?_, ?_, fun t ht => absurd ht (Nat.not_lt_zero _), fun t ht => absurd ht (Nat.not_lt_zero _), fr (by omega) e2, fr (by omega) e3⟩, by rw [(f5 16 (by omega) 0).1, gss], fun p hp => absurd hp (Nat.not_lt_zero _), fun p hp => (f2 p (Nat.zero_le _) hp).2.1, fun p hp => (f2 p (Nat.zero_le _) hp).2.2, fun t ht => ?_, fun p t hp ht q => ?_⟩
    · rw [x 9 (by omega), y, gsi (by omega), gsi (by omega), gsi (by omega), gsi (by omega), gss]; rfl
    · rw [x 9 (by omega), y, gsi (by omega), gsi (by omega), gsi (by omega), gss]; rfl
    · rw [x 9 (by omega), y, gsi (by omega), gss]; rfl
    · rw [x 9 (by omega), y, gss]; rfl
    · rw [x 9 (by omega), y, gsi (by omega), gsi (by omega), gss]; rfl
    · rw [f4 t ht]
      have : bs 8 (fun p => (0 : Nat).testBit t) = 0 := by simp; rfl
      rw [this]
    · simp at q
  · have z : Fr (fun c => 9 ≤ c ∧ c ≤ 21) m (si (si (si (si (si m 9 0 (nI 0)) 9 1 (nI 0)) 9 4 (nI 0)) 9 2 (nI 10)) 9 3 (nI 14)) := fun c hc j => ⟨by rw [gsn (by omega), gsn (by omega), gsn (by omega), gsn (by omega), gsn (by omega)], rfl⟩
    exact ((z.tr (e4.mono (fun c q => by unfold s36 at q; omega))).tr (Fr.si (by omega))).tr (f5.mono (fun c q => by omega))
theorem m_told {m : Mem} (h : ∀ j, j < 2096 → gi m 4 j = pln j) : TM rN (fun _ => 0) (fun _ => 0) 0 m := by
  have p0 : ∀ j, j < 2096 → j ≠ 3 → j ≠ 4 → ¬ (41 ≤ j ∧ j < 161) → gi m 4 j = nI 0 := fun j h1 h2 h3 h4 => by rw [h j h1, pln, if_neg h2, if_neg h3, if_neg h4]
  have p1 : ∀ j, 41 ≤ j → j < 161 → gi m 4 j = NO := fun j h1 h2 => by rw [h j (by omega), pln, if_neg (by omega), if_neg (by omega), if_pos ⟨h1, h2⟩]
  refine ⟨p0 _ (by omega) (by omega) (by omega) (by omega), p0 _ (by omega) (by omega) (by omega) (by omega), p0 _ (by omega) (by omega) (by omega) (by omega), by rw [h 3 (by omega)]; rfl, by rw [h 4 (by omega)]; rfl, fun t ht => absurd ht (Nat.not_lt_zero _), fun t ht => absurd ht (Nat.not_lt_zero _), p0 _ (by omega) (by omega) (by omega) (by omega), p0 _ (by omega) (by omega) (by omega) (by omega), fun t ht => absurd ht (Nat.not_lt_zero _), fun p t hp ht => ?_, fun p hp => p1 _ (by omega) (by omega), p0 _ (by omega) (by omega) (by omega) (by omega), p0 _ (by omega) (by omega) (by omega) (by omega), p0 _ (by omega) (by omega) (by omega) (by omega)⟩
  rw [p1 _ (by omega) (by omega), if_neg (by simp)]
theorem twN : TWl rN (fun _ => 0) (fun _ => 0) := ⟨⟨by decide, by decide, by decide, by decide, by decide, by decide, fun t ht => absurd ht (Nat.not_lt_zero _), fun t ht => absurd ht (Nat.not_lt_zero _), by decide, Or.inl rfl⟩, fun p hp => absurd hp (Nat.not_lt_zero _), fun p => Nat.one_le_two_pow, fun p _ => rfl⟩
