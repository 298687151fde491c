section
variable {tb : Nat → Nat} {L a b C K v N : Nat} {r : Ru} {ag li : Nat → Nat} {mx mm : Mem}
/-- a person, all told -/
theorem per_fin {a0 age its S : Nat} {mx0 mm0 : Mem} (hW : TWl r ag li) (hP8 : rP r < 8) (hage : age ≤ 99) (hits : its < 2 ^ rT r) (hS : S < 2 ^ rT r) (ht : TL tb L a b C K v mx mm) (hC : TC r ag (lp li (rP r) S) mx) (h17 : gi mx 17 (rP r) = nI age) (h11 : gi mx 11 (rP r) = nI its) (hM : TM r ag li N mm) (hN : N ≤ a) (ha : a0 < a) (f1 : FT mx0 mx) (f2 : FU0 mm0 mm) : LOut tb L a0 (rlin r) mx0 mm0 (X7_readPerson_b148 mx) (X12_readPerson_b84 (nI (rP r)) (nI age) (nI its) (nI S) mm) := by
  have hT := hW.1.1
  have h14 : (2 : Nat) ^ rT r ≤ 2 ^ 14 := Nat.pow_le_pow_right (by decide) hT
  obtain ⟨a1, a2, a3, a4, a5, a6, a7, a8, a9, b1, b2, b3, b4, b5, b6⟩ := hM
  obtain ⟨m', e1, e2, e3, e4, e5⟩ := m_117 (P := rP r) (S := S) hP8 (by omega) FU 0 (si (si mm 4 (33 + rP r) (nI age)) 4 (25 + rP r) (nI its)) (by omega) (by unfold FU; omega) (by rw [gsi (by omega), gsi (by omega), a3])
  have cP : gi mx 9 1 = nI (rP r) := hC.1.2.1
  rw [X7_readPerson_b148, cP, K1, nadd, lq, gsn (by omega), ht.2.2.2.1, K0, if_pos rfl, X12_readPerson_b84, K0, ht.2.2.2.2, if_pos rfl, K33, nadd, chk_in (by omega) (by omega), ix_nI (by omega), lq, K25, nadd, chk_in (by omega) (by omega), ix_nI (by omega), lq, e1]
  have g : ∀ j, j ≠ 2 → ¬ (41 + 14 * rP r ≤ j ∧ j < 41 + 14 * rP r + 14) → j ≠ 33 + rP r → j ≠ 25 + rP r → gi m' 4 j = gi mm 4 j := fun j h1 h2 h3 h4 => by rw [e2 j h1 (by omega), gsi h4, gsi h3]
  have gz : ∀ c, c ≠ 4 → ∀ j, gi m' c j = gi mm c j := fun c hc j => by rw [(e5 c hc j).1, gsn hc, gsn hc]
  left
  refine ⟨a, b, C, K, v, (rT r, rP r + 1, rbar r, rroom r, rlin r, rwan r, fun i => if i = rP r then its else rtr r i, rgood r, rmay r), fun p => if p = rP r then age else ag p, lp li (rP r) S, N, si mx 9 1 (nI (rP r + 1)), m', rfl, rfl, ht.fr (fun c hc j => gsn (by omega)) (fun c hc j => gz c (by omega) j), ⟨?_, fun p hp => ?_, fun p => ?_, fun p hp => ?_⟩, rfl, ?_, ?_, hN, ha, f1.tr (FT.si (by omega) (by omega)), f2.tr ⟨((Fr.si (S := fun c => c = 0 ∨ c = 4) (Or.inr rfl)).tr (Fr.si (S := fun c => c = 0 ∨ c = 4) (Or.inr rfl))).tr (e5.mono (fun c q => Or.inr q)), fun j _ _ _ _ _ _ => gz 0 (by omega) j⟩⟩
  · obtain ⟨w1, w2, w3, w4, w5, w6, w7, w8, w9⟩ := hW.1
    refine ⟨w1, by show rP r + 1 ≤ 8; omega, w3, w4, w5, w6, w7, fun p hp => ?_, w9⟩
    have hp' : p < rP r + 1 := hp
    show (if p = rP r then its else rtr r p) < 2 ^ rT r
    split
    · exact hits
    · exact w8 p (by omega)
  · have hp' : p < rP r + 1 := hp
    show (if p = rP r then age else ag p) ≤ 99
    split
    · exact hage
    · exact hW.2.1 p (by omega)
  · show lp li (rP r) S p < 2 ^ rT r
    rw [lp]
    split
    · exact hS
    · exact hW.2.2.1 p
  · have hp' : rP r + 1 ≤ p := hp
    rw [lp, if_neg (by omega)]
    exact hW.2.2.2 p (by omega)
  · obtain ⟨⟨c1, c2, c3, c4, c5, c6, c7, c8, c9⟩, d1, d2, d3, d4, d5, d6⟩ := hC
    refine ⟨⟨by rw [gsi (by omega)]; exact c1, gss, by rw [gsi (by omega)]; exact c3, by rw [gsi (by omega)]; exact c4, by rw [gsi (by omega)]; exact c5, fun t ht => by rw [gsn (by omega)]; exact c6 t ht, fun p hp => ?_, ⟨by rw [gsn (by omega)]; exact c8.1, c8.2.1, fun i hi => by rw [gsn (by omega)]; exact c8.2.2 i hi⟩, ⟨by rw [gsn (by omega)]; exact c9.1, c9.2.1, fun i hi => by rw [gsn (by omega)]; exact c9.2.2 i hi⟩⟩, by rw [gsn (by omega)]; exact d1, fun p hp => ?_, fun p hp => by rw [gsn (by omega)]; exact d3 p hp, fun p hp => by rw [gsn (by omega)]; exact d4 p hp, fun t ht => by rw [gsn (by omega)]; exact d5 t ht, fun p t hp ht q => by rw [gsn (by omega)]; exact d6 p t hp ht q⟩
    · have hp' : p < rP r + 1 := hp
      rw [gsn (by omega)]
      show gi mx 11 p = nI (if p = rP r then its else rtr r p)
      by_cases e : p = rP r
      · rw [if_pos e, e]; exact h11
      · rw [if_neg e]; exact c7 p (by omega)
    · have hp' : p < rP r + 1 := hp
      rw [gsn (by omega)]
      show gi mx 17 p = nI (if p = rP r then age else ag p)
      by_cases e : p = rP r
      · rw [if_pos e, e]; exact h17
      · rw [if_neg e]; exact d2 p (by omega)
  · refine ⟨(g _ (by omega) (by omega) (by omega) (by omega)).trans a1, (g _ (by omega) (by omega) (by omega) (by omega)).trans a2, e4, (g _ (by omega) (by omega) (by omega) (by omega)).trans a4, (g _ (by omega) (by omega) (by omega) (by omega)).trans a5, fun t ht => by have : t < rT r := ht; exact (g _ (by omega) (by omega) (by omega) (by omega)).trans (a6 t ht), fun p hp => ?_, a8.fr (by omega) (Nat.le_refl _) (g _ (by omega) (by omega) (by omega) (by omega)) (g _ (by omega) (by omega) (by omega) (by omega)) (g _ (by omega) (by omega) (by omega) (by omega)) (fun j _ => g _ (by omega) (by omega) (by omega) (by omega)), a9.fr (by omega) (Nat.le_refl _) (g _ (by omega) (by omega) (by omega) (by omega)) (g _ (by omega) (by omega) (by omega) (by omega)) (g _ (by omega) (by omega) (by omega) (by omega)) (fun j _ => g _ (by omega) (by omega) (by omega) (by omega)), fun p hp => ?_, fun p t hp ht => ?_, fun p hp => (g _ (by omega) (by omega) (by omega) (by omega)).trans (b3 p hp), (g _ (by omega) (by omega) (by omega) (by omega)).trans b4, (g _ (by omega) (by omega) (by omega) (by omega)).trans b5, (g _ (by omega) (by omega) (by omega) (by omega)).trans b6⟩
    · have hp' : p < rP r + 1 := hp
      show gi m' 4 (25 + p) = nI (if p = rP r then its else rtr r p)
      by_cases e : p = rP r
      · rw [if_pos e, e, e2 _ (by omega) (by omega), gss]
      · rw [if_neg e]; exact (g _ (by omega) (by omega) (by omega) (by omega)).trans (a7 p (by omega))
    · have hp' : p < rP r + 1 := hp
      show gi m' 4 (33 + p) = nI (if p = rP r then age else ag p)
      by_cases e : p = rP r
      · rw [if_pos e, e, e2 _ (by omega) (by omega), gsi (by omega), gss]
      · rw [if_neg e]; exact (g _ (by omega) (by omega) (by omega) (by omega)).trans (b1 p (by omega))
    · rw [lp]
      by_cases e : p = rP r
      · rw [if_pos e, e, e3 t (Nat.zero_le _) ht]
        have z : gi (si (si mm 4 (33 + rP r) (nI age)) 4 (25 + rP r) (nI its)) 4 (41 + 14 * rP r + t) = NO := by
          rw [gsi (by omega), gsi (by omega), b2 (rP r) t hP8 ht, hW.2.2.2 (rP r) (Nat.le_refl _)]
          simp
        rw [z]
      · rw [if_neg e]; exact (g _ (by omega) (by omega) (by omega) (by omega)).trans (b2 p t hp ht)
/-- from the word loathes on -/
theorem per_90 {a0 age its : Nat} {mx0 mm0 : Mem} (hL : L ≤ 900) (htb : ∀ i, i < L → tb i < 256) (hW : TWl r ag li) (hP8 : rP r < 8) (hage : age ≤ 99) (hits : its < 2 ^ rT r) (ht : TL tb L a b C K v mx mm) (hC : TC r ag li mx) (h17 : gi mx 17 (rP r) = nI age) (h11 : gi mx 11 (rP r) = nI its) (hM : TM r ag li N mm) (hN : N ≤ a) (ha : a0 < a) (f1 : FT mx0 mx) (f2 : FU0 mm0 mm) : LOut tb L a0 (rlin r) mx0 mm0 (X7_readPerson_b90 (nI (rP r)) mx) (X12_readPerson_b67 (nI (rP r)) (nI age) (nI its) mm) := by
  have hT := hW.1.1
  have lz : lp li (rP r) 0 = li := by
    funext p
    rw [lp]
    split
    · next e => rw [e, hW.2.2.2 (rP r) (Nat.le_refl _)]
    · rfl
  have cw : X7_isWord 6 mx = some (nI (if K = 5 then 1 else 0), mx) := ht.cw hL htb (n := 5) (by omega)
  rw [X7_readPerson_b90, K0, ht.2.2.2.1, if_pos rfl, cw, bq, X12_readPerson_b67, K5, K0]
  by_cases h5 : K = 5
  · obtain ⟨a1, b1, C1, K1', v1, mx1, mm1, n0, n1, n2, n3, n4, n5, n6⟩ := ht.et hL htb (k := 5) (by omega) (by omega) h5
    have aL1 := n4.aL
    have hC1 := hC.g n5
    have hM1 := hM.g n6
    rw [if_pos h5, if_neg (show ¬ nI 1 = nI 0 by decide), n3, bq, if_neg (show ¬ nI 1 = nI 0 by decide), X7_readThings, n1, bq, X12_takesThings, K0]
    rcases th_loop hL htb hT FU FU 0 0 0 a1 b1 C1 K1' v1 mx1 mm1 (by unfold FU; omega) (by unfold FU; omega) (by omega) rfl Nat.one_le_two_pow n4 hC1.1.1 hM1.2.1 with ⟨a2, b2, C2, K2', v2, S, mx2, mm2, r1, r2, r3, r4, r5, r6, r7⟩ | ⟨S, mx2, mm2, r1, r2, r4, r3, r6, r7⟩
    · have hC2 := hC1.g r6
      have hM2 := hM1.g r7
      rw [← lz] at hC2
      obtain ⟨mx3, e1, e2, e3⟩ := c_113 (ag := ag) (li := li) (P := rP r) (S := S) hT hP8 r4 FU 0 mx2 (Nat.zero_le _) (by unfold FU; omega) (by rw [show S &&& (2 ^ 0 - 1) = 0 by simp]; exact hC2)
      rw [r1, bq, r2, bq, e1]
      have x39 : ∀ j, gi mx3 39 j = gi mx2 39 j := fun j => (e3 39 (by omega) j).1
      exact per_fin hW hP8 hage hits r4 (r3.fr (mm2 := mm2) (fun c hc j => (e3 c (by omega) j).1) (fun c _ j => rfl)) e2 (by rw [(e3 17 (by omega) _).1, (r6.1 17 (by omega) _).1, (n5.1 17 (by omega) _).1, h17]) (by rw [(e3 11 (by omega) _).1, (r6.1 11 (by omega) _).1, (n5.1 11 (by omega) _).1, h11]) hM2 (by omega) (by omega) (((f1.tr n5.t).tr r6.t).tr ⟨e3.mono (fun c q => Or.inl (by omega)), x39 4, fun q => by rw [x39]; exact q, fun q => ⟨by rw [x39] at q; exact q, x39 9⟩⟩) ((f2.tr n6.t).tr r7.t)
    · obtain ⟨mx3, e1, e2, e3⟩ := c_113_d (mm := mm2) hT hP8 (nI S) FU 0 mx2 (Nat.zero_le _) (by unfold FU; omega) (hC1.g r6).1.1 r3
      rw [r1, bq, r2, bq, e1, m_84_d r3]
      exact Or.inr ⟨mx3, mm2, rfl, rfl, e2, ((f1.tr n5.t).tr r6.t).tr e3, (f2.tr n6.t).tr r7.t⟩
  · rw [if_neg h5, if_pos rfl, ht.en (by omega) h5, bq, if_pos rfl]
    exact per_fin hW hP8 hage hits Nat.one_le_two_pow ht (by rw [lz]; exact hC) h17 h11 hM hN ha f1 f2
theorem line_person (hL : L ≤ 900) (htb : ∀ i, i < L → tb i < 256) (ht : TL tb L a b C K v mx mm) (hW : TWl r ag li) (hC : TC r ag li mx) (hM : TM r ag li N mm) (hN : N ≤ a) (hK : K = 2) : LOut tb L a (rlin r) mx mm (X7_readPerson mx) (X12_readPerson mm) := by
  have hT := hW.1.1
  have hP := hW.1.2.1
  have cP : gi mx 9 1 = nI (rP r) := hC.1.2.1
  have mP : gi mm 4 2 = nI (rP r) := hM.2.2.1
  rw [X7_readPerson, X12_readPerson, lq, K2, chk_in (by omega) (by omega), ix_nI (by omega), lq, cP, mP, K8]
  by_cases h8 : rP r = 8
  · obtain ⟨mx1, mm1, b1, b2, b3, b4, b5⟩ := ht.bl hL (k := 4) (by omega) (by omega) (by omega)
    rw [jlt_f (by omega) (by omega), K4, b1, bq, if_pos (by rw [h8]), b2, bq, X12_readPerson_b18, K0, if_neg b3.m8]
    exact Or.inr ⟨mx1, mm1, rfl, rfl, b3, b4.t, b5.t⟩
  · have hP8 : rP r < 8 := by omega
    obtain ⟨a1, b1, C1, K1', v1, mx1, mm1, n0, n1, n2, n4, n5, n6⟩ := ht.nx hL htb
    have ab := ht.1.2.2.1 (by omega)
    have cw : X7_isWord 4 mx1 = some (nI (if K1' = 3 then 1 else 0), mx1) := n4.cw hL htb (n := 3) (by omega)
    rw [jlt_t (by omega) (by omega), n1, bq, jeq_f h8 (by omega) (by omega), X12_readPerson_b18, K0, ht.2.2.2.2, if_pos rfl, n2, bq, X7_passWord, cw, bq, K0, K3]
    by_cases h3 : K1' = 3
    · obtain ⟨a2, b2, C2, K2', v2, mx2, mm2, m0, m1, m2, m3, m4, m5, m6⟩ := n4.et hL htb (k := 3) (by omega) (by omega) h3
      rw [if_pos h3, if_neg (show ¬ nI 1 = nI 0 by decide), m1, bq, bq, K1, if_neg (show ¬ nI 1 = nI 0 by decide), m3, bq, if_neg (show ¬ nI 1 = nI 0 by decide), X12_readPerson_b43, show (99 : Int32) = nI 100 - nI 1 by decide, K0]
      have g1 := (hC.g n5.g).g m5
      have g2 := (hM.g n6.g).g m6
      rcases m4.num hL htb (lo := 0) (H := 100) (by omega) (by omega) with ⟨a3, b3, C3, K3', v3, mx3, mm3, p0, p1, p2, p3, p4, p5, p6, p7, p8, p9, p10⟩ | ⟨mx3, mm3, r0, p1, p2, p3, p4, p5, p6⟩
      · have g3 := g1.g p8
        have g4 := g2.g p9
        rw [p5, bq, chk_in (by omega) (by omega), lq, chk_in (by omega) (by omega), lq, ix_nI (by omega), gsn (by omega), gsn (by omega), p7.2.2.2.1, if_pos rfl, p6, bq, K4]
        have t4 : TL tb L a3 b3 C3 K3' v3 (si (si mx3 17 (rP r) (nI v2)) 11 (rP r) (nI 0)) mm3 := p7.fr (fun c hc j => by rw [gsn (by omega), gsn (by omega)]) (fun c _ j => rfl)
        have c4 : TC r ag li (si (si mx3 17 (rP r) (nI v2)) 11 (rP r) (nI 0)) := by
          obtain ⟨⟨c1, c2, c3, c4, c5, c6, c7, c8, c9⟩, d1, d2, d3, d4, d5, d6⟩ := g3
          exact ⟨⟨by rw [gsn (by omega), gsn (by omega)]; exact c1, by rw [gsn (by omega), gsn (by omega)]; exact c2, by rw [gsn (by omega), gsn (by omega)]; exact c3, by rw [gsn (by omega), gsn (by omega)]; exact c4, by rw [gsn (by omega), gsn (by omega)]; exact c5, fun t ht => by rw [gsn (by omega), gsn (by omega)]; exact c6 t ht, fun p hp => by rw [gsi (by omega), gsn (by omega)]; exact c7 p hp, ⟨by rw [gsn (by omega), gsn (by omega)]; exact c8.1, c8.2.1, fun i hi => by rw [gsn (by omega), gsn (by omega)]; exact c8.2.2 i hi⟩, ⟨by rw [gsn (by omega), gsn (by omega)]; exact c9.1, c9.2.1, fun i hi => by rw [gsn (by omega), gsn (by omega)]; exact c9.2.2 i hi⟩⟩, by rw [gsn (by omega), gsn (by omega)]; exact d1, fun p hp => by rw [gsn (by omega), gsi (by omega)]; exact d2 p hp, fun p hp => by rw [gsn (by omega), gsn (by omega)]; exact d3 p hp, fun p hp => by rw [gsn (by omega), gsn (by omega)]; exact d4 p hp, fun t ht => by rw [gsn (by omega), gsn (by omega)]; exact d5 t ht, fun p t hp ht q => by rw [gsn (by omega), gsn (by omega)]; exact d6 p t hp ht q⟩
        have e17 : gi (si (si mx3 17 (rP r) (nI v2)) 11 (rP r) (nI 0)) 17 (rP r) = nI v2 := by rw [gsn (by omega), gss]
        have e11 : gi (si (si mx3 17 (rP r) (nI v2)) 11 (rP r) (nI 0)) 11 (rP r) = nI 0 := gss
        have F1 : FT mx (si (si mx3 17 (rP r) (nI v2)) 11 (rP r) (nI 0)) := ((n5.g.t.tr m5.t).tr p8.t).tr ((FT.si (by omega) (by omega)).tr (FT.si (by omega) (by omega)))
        have F2 : FU0 mm mm3 := (n6.g.t.tr m6.t).tr p9.t
        generalize si (si mx3 17 (rP r) (nI v2)) 11 (rP r) (nI 0) = mx4 at t4 c4 e17 e11 F1
        have cw5 : X7_isWord 5 mx4 = some (nI (if K3' = 4 then 1 else 0), mx4) := t4.cw hL htb (n := 4) (by omega)
        rw [cw5, bq]
        by_cases h4 : K3' = 4
        · obtain ⟨a5, b5, C5, K5', v5, mx5, mm5, q0, q1, q2, q3, q4, q5, q6⟩ := t4.et hL htb (k := 4) (by omega) (by omega) h4
          have aL5 := q4.aL
          rw [if_pos h4, if_neg (show ¬ nI 1 = nI 0 by decide), q3, bq, if_neg (show ¬ nI 1 = nI 0 by decide), X7_readThings, q1, bq, X12_takesThings, K0]
          have c5 := c4.g q5
          have m5' := g4.g q6
          rcases th_loop hL htb hT FU FU 0 0 0 a5 b5 C5 K5' v5 mx5 mm5 (by unfold FU; omega) (by unfold FU; omega) (by omega) rfl Nat.one_le_two_pow q4 c5.1.1 m5'.2.1 with ⟨a6, b6, C6, K6', v6, S, mx6, mm6, r1, r2, r3, r4, r5, r6, r7⟩ | ⟨S, mx6, mm6, r1, r2, r4, r3, r6, r7⟩
          · rw [r1, bq, r2, bq, chk_in (by omega) (by omega), lq]
            refine per_90 hL htb hW hP8 (by omega) r4 (r3.fr (mm2 := mm6) (fun c hc j => gsn (by omega)) (fun c _ j => rfl)) ?_ (by rw [gsn (by omega), (r6.1 17 (by omega) _).1, (q5.1 17 (by omega) _).1, e17]) gss (m5'.g r7) (by omega) (by omega) (((F1.tr q5.t).tr r6.t).tr (FT.si (by omega) (by omega))) ((F2.tr q6.t).tr r7.t)
            obtain ⟨⟨c1, c2, c3, c4, c5, c6, c7, c8, c9⟩, d1, d2, d3, d4, d5, d6⟩ := c5.g r6
            exact ⟨⟨by rw [gsn (by omega)]; exact c1, by rw [gsn (by omega)]; exact c2, by rw [gsn (by omega)]; exact c3, by rw [gsn (by omega)]; exact c4, by rw [gsn (by omega)]; exact c5, fun t ht => by rw [gsn (by omega)]; exact c6 t ht, fun p hp => by rw [gsi (by omega)]; exact c7 p hp, ⟨by rw [gsn (by omega)]; exact c8.1, c8.2.1, fun i hi => by rw [gsn (by omega)]; exact c8.2.2 i hi⟩, ⟨by rw [gsn (by omega)]; exact c9.1, c9.2.1, fun i hi => by rw [gsn (by omega)]; exact c9.2.2 i hi⟩⟩, by rw [gsn (by omega)]; exact d1, fun p hp => by rw [gsn (by omega)]; exact d2 p hp, fun p hp => by rw [gsn (by omega)]; exact d3 p hp, fun p hp => by rw [gsn (by omega)]; exact d4 p hp, fun t ht => by rw [gsn (by omega)]; exact d5 t ht, fun p t hp ht q => by rw [gsn (by omega)]; exact d6 p t hp ht q⟩
          · have hd2 := r3.fr (mx2 := si mx6 11 (rP r) (nI S)) (mm2 := mm6) (fun j => gsn (by omega)) (fun j => rfl)
            obtain ⟨mx7, e1, e2, e3⟩ := c_148_d hd2
            rw [r1, bq, r2, bq, chk_in (by omega) (by omega), lq, X7_readPerson_b90, K0, if_neg hd2.c8, e1, m_67_d r3]
            exact Or.inr ⟨mx7, mm6, rfl, rfl, e2, (((F1.tr q5.t).tr r6.t).tr (FT.si (by omega) (by omega))).tr e3, (F2.tr q6.t).tr r7.t⟩
        · rw [if_neg h4, if_pos rfl, t4.en (by omega) h4, bq, if_pos rfl]
          exact per_90 hL htb hW hP8 (by omega) Nat.one_le_two_pow t4 c4 e17 e11 g4 (by omega) (by omega) F1 F2
      · have hd2 := p3.fr (mx2 := si (si mx3 17 (rP r) NO) 11 (rP r) (nI 0)) (mm2 := mm3) (fun j => by rw [gsn (by omega), gsn (by omega)]) (fun j => rfl)
        obtain ⟨mx7, e1, e2, e3⟩ := c_148_d hd2
        have hd3 := p3
        obtain ⟨w, pl, d1, d2, d3, d4, d5, d6, d7⟩ := p3
        rw [p1, bq, chk_in (by omega) (by omega), lq, chk_in (by omega) (by omega), lq, ix_nI (by omega), if_neg hd2.c8, X7_readPerson_b90, K0, if_neg hd2.c8, e1, p2, bq, m_eats_d d6 d1 d2, bq, if_pos rfl, m_67_d hd3]
        exact Or.inr ⟨mx7, mm3, rfl, rfl, e2, (((n5.g.t.tr m5.t).tr p4.t).tr ((FT.si (by omega) (by omega)).tr (FT.si (by omega) (by omega)))).tr e3, (n6.g.t.tr m6.t).tr p5.t⟩
    · obtain ⟨mx2, mm2, p1, p2, p3, p4, p5⟩ := n4.rf2 hL
      rw [if_neg h3, if_pos rfl, p1, bq, chk_tt (by decide), bq, if_pos rfl, n4.en (by omega) h3, bq, if_pos rfl, K2, p2, bq, m_43_d p3]
      exact Or.inr ⟨mx2, mm2, rfl, rfl, p3, n5.g.t.tr p4.t, n6.g.t.tr p5.t⟩
end
