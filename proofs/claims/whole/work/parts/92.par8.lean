/-! a law -/
section
variable {tb : Nat → Nat} {L a b C K v N : Nat} {r : Ru} {ag li : Nat → Nat} {mx mm : Mem}
theorem line_good (hL : L ≤ 900) (htb : ∀ i, i < L → tb i < 256) (ht : TL tb L a b C K v mx mm) (hW : TWl r ag li) (hC : TC r ag li mx) (hM : TM r ag li N mm) (hN : N ≤ a) (hK : K = 6) : LOut tb L a (rlin r) mx mm (lt (si mx 39 3 (nI 12)) fun m_35 => chk (okl (gi m_35 39 3)) <| lt (ix (gi m_35 39 3)) fun b_36 => lt (si m_35 b_36 1 0) fun m_38 => bnd (X7_next m_38) fun _ m_40 => bnd (X7_pass 58 m_40) fun r_41 m_42 => if r_41 = 0 then (some (0, m_42)) else (bnd (X7_readSum_top 0 m_42) fun r_43 m_44 => if r_43 = 0 then (some (0, m_44)) else (some (1, m_44)))) (X12_readLaw (nI 0) mm) := by
  have haL := ht.aL
  have h14 := hW.1.1
  rw [lq, gss, (okw2 (lw := 12) (by omega)).1, chk_tt rfl, lq, (okw2 (lw := 12) (by omega)).2, lq, K0, X12_readLaw]
  have ht0 : TL tb L a b C K v (si (si mx 39 3 (nI 12)) 12 1 (nI 0)) mm := by
    obtain ⟨h1, ⟨⟨a1, a2⟩, a3, a4, a5⟩, h3, h4, h5⟩ := ht
    exact ⟨h1, ⟨⟨by rw [gsn (by omega), gsi (by omega)]; exact a1, fun i hi => by rw [gsn (by omega), gsn (by omega)]; exact a2 i hi⟩, by rw [gsn (by omega), gsi (by omega)]; exact a3, by rw [gsn (by omega), gsi (by omega)]; exact a4, by rw [gsn (by omega), gsi (by omega)]; exact a5⟩, h3, by rw [gsn (by omega), gsi (by omega)]; exact h4, h5⟩
  have hl0 : LWs 12 N [] (si (si mx 39 3 (nI 12)) 12 1 (nI 0)) mm := ⟨by rw [gsn (by omega), gss], c_law0, by rw [hM.2.2.2.2.2.2.2.2.2.2.2.2.2.2]; rfl, fun i hi => absurd hi (Nat.not_lt_zero _)⟩
  have f0 : FT mx (si (si mx 39 3 (nI 12)) 12 1 (nI 0)) := ⟨(Fr.si (Or.inr rfl)).tr (Fr.si (Or.inl (by omega))), by rw [gsn (by omega), gsi (by omega)], fun _ => by rw [gsn (by omega), gss]; exact (okw2 (lw := 12) (by omega)).1, fun q => by rw [gsn (by omega), gsi (by omega)] at q; exact ⟨q, by rw [gsn (by omega), gsi (by omega)]⟩⟩
  have hC0 : ∀ c, 9 ≤ c → c ≤ 21 → c ≠ 12 → ∀ j, gi (si (si mx 39 3 (nI 12)) 12 1 (nI 0)) c j = gi mx c j := fun c h1 h2 h3 j => by rw [gsn h3, gsn (by omega)]
  generalize si (si mx 39 3 (nI 12)) 12 1 (nI 0) = mx0 at ht0 hl0 f0 hC0
  obtain ⟨a1, b1, C1, K1', v1, mx1, mm1, n0, n1, n2, n4, n5, n6⟩ := ht0.nx hL htb
  have ab := ht.1.2.2.1 (by omega)
  rw [n1, bq, n2, bq, show (58 : Int32) = nI 58 by decide, show (31 : Int32) = nI 31 by decide]
  have ss := n4.1.2.2.2.1.s.2.2.2.2.1
  rcases n4.ps hL htb (sg := 58) (k := 31) (by omega) (by omega) ss (by omega) with ⟨a2, b2, C2, K2', v2, mx2, mm2, p0, p1, p2, p3, p4, p5, p6⟩ | ⟨mx2, mm2, p1, p2, p3, p4, p5, p6, p7⟩
  · rw [p2, bq, if_neg (show ¬ nI 1 = nI 0 by decide), p3, bq, K0, if_neg (show ¬ nI 1 = nI 0 by decide), X12_readLaw_b18, K1195, chk_in (by omega) (by omega), ix_nI (by omega), lq]
    have hl2 := (hl0.g (by omega) n5.g n6.g).g (by omega) p5 p6
    have e95 : gi mm2 4 1195 = nI N := by rw [hl2.2.2.1]; rfl
    rw [e95, K0, if_pos rfl]
    have S := (all_sim (lw := 12) hL htb (by omega) 64 0 (by omega)).2.2.1 (by omega)
    rcases S a2 b2 C2 K2' v2 N [] mx2 mm2 p4 hl2 (by show N + 0 ≤ a2; omega) with ⟨a3, b3, C3, K3', v3, c, mx3, mm3, s1, s2, s3, s4, s5, s6, s7, s8⟩ | ⟨mx3, mm3, s1, s2, s3, s4, s7, s8⟩
    · have e1 : X7_readSum_top (nI 0) mx2 = some (nI 1, mx3) := s1
      have e2 : X12_readSum_top (nI 0) mm2 = some ((), mm3) := s2
      have haL3 := s3.aL
      rw [List.nil_append] at s4
      have hNc : N + c.length ≤ a3 := by omega
      have eN : gi mm3 4 1195 = nI (N + c.length) := s4.2.2.1
      rw [e1, bq, if_neg (show ¬ nI 1 = nI 0 by decide), e2, bq, X12_readLaw_b44, K0, s3.2.2.2.2, if_pos rfl, K5, nadd, chk_in (by omega) (by omega), ix_nI (by omega), K1, lq, K7, nadd, chk_in (by omega) (by omega), ix_nI (by omega), lq, K1195, chk_in (by omega) (by omega), K9, nadd, chk_in (by omega) (by omega), ix_nI (by omega), ix_nI (by omega), gsi (by omega), gsi (by omega), eN, nsub (by omega), lq]
      have hM2 := (hM.g n6.g).g p6
      have hfr : ∀ c', 9 ≤ c' → c' ≤ 21 → c' ≠ 12 → c' ≠ 12 + 1 → ∀ j, gi mx3 c' j = gi mx c' j := fun c' h1 h2 h3 h4 j => by rw [(s7.1 c' (by omega) j).1, (p5.1 c' (by omega) j).1, (n5.g.1 c' (by omega) j).1, hC0 c' h1 h2 h3 j]
      left
      refine ⟨a3, b3, C3, K3', v3, (rT r, rP r, rbar r, rroom r, rlin r, rwan r, rtr r, some c, rmay r), ag, li, N + c.length, _, _, rfl, rfl, s3.fr (fun c hc j => rfl) (fun c hc j => by rw [gsn (by omega), gsn (by omega), gsn (by omega)]), ⟨?_, hW.2⟩, rfl, ?_, ?_, hNc, by omega, ((f0.tr n5.g.t).tr p5.t).tr (s7.t (by omega)), ((n6.g.t.tr p6.t).tr ⟨s8.1, s8.2.1⟩).tr ((FU0.si.tr FU0.si).tr FU0.si)⟩
      · obtain ⟨w1, w2, w3, w4, w5, w6, w7, w8, w9, w10⟩ := hW.1
        have tt := s5 [] [] (by decide)
        rw [List.append_nil] at tt
        exact ⟨w1, w2, w3, w4, w5, w6, w7, w8, tt, w10⟩
      · obtain ⟨⟨c1, c2, c3, c4, c5, c6, c7, c8, c9⟩, d1, d2, d3, d4, d5, d6⟩ := hC
        exact ⟨⟨by rw [hfr 9 (by omega) (by omega) (by omega) (by omega)]; exact c1, by rw [hfr 9 (by omega) (by omega) (by omega) (by omega)]; exact c2, by rw [hfr 9 (by omega) (by omega) (by omega) (by omega)]; exact c3, by rw [hfr 9 (by omega) (by omega) (by omega) (by omega)]; exact c4, by rw [hfr 9 (by omega) (by omega) (by omega) (by omega)]; exact c5, fun t ht => by rw [hfr 10 (by omega) (by omega) (by omega) (by omega)]; exact c6 t ht, fun p hp => by rw [hfr 11 (by omega) (by omega) (by omega) (by omega)]; exact c7 p hp, s4.2.1, ⟨by rw [hfr 14 (by omega) (by omega) (by omega) (by omega)]; exact c9.1, c9.2.1, fun i hi => by rw [hfr 15 (by omega) (by omega) (by omega) (by omega)]; exact c9.2.2 i hi⟩⟩, by rw [hfr 16 (by omega) (by omega) (by omega) (by omega)]; exact d1, fun p hp => by rw [hfr 17 (by omega) (by omega) (by omega) (by omega)]; exact d2 p hp, fun p hp => by rw [hfr 18 (by omega) (by omega) (by omega) (by omega)]; exact d3 p hp, fun p hp => by rw [hfr 19 (by omega) (by omega) (by omega) (by omega)]; exact d4 p hp, fun t ht => by rw [hfr 20 (by omega) (by omega) (by omega) (by omega)]; exact d5 t ht, fun p t hp ht q => by rw [hfr 21 (by omega) (by omega) (by omega) (by omega)]; exact d6 p t hp ht q⟩
      · obtain ⟨a1, a2, a3, a4, a5, a6, a7, a8, a9, b1, b2, b3, b4, b5, b6⟩ := hM2
        have hP := hW.1.2.1
        have g3 : ∀ j, j < 1195 → j ≠ 5 + 0 → j ≠ 7 + 0 → j ≠ 9 + 0 → gi (si (si (si mm3 4 (5 + 0) (nI 1)) 4 (7 + 0) (nI N)) 4 (9 + 0) (nI (N + c.length - N))) 4 j = gi mm2 4 j := fun j hj h5 h7 h9 => by rw [gsi h9, gsi h7, gsi h5]; exact s8.2.2.1 j hj
        have g4 : ∀ j, j < N → gi (si (si (si mm3 4 (5 + 0) (nI 1)) 4 (7 + 0) (nI N)) 4 (9 + 0) (nI (N + c.length - N))) 4 (1196 + j) = gi mm2 4 (1196 + j) := fun j hj => by rw [gsi (by omega), gsi (by omega), gsi (by omega)]; exact s8.2.2.2 j (by show j < N + 0; omega)
        have newlaw : LawN (si (si (si mm3 4 (5 + 0) (nI 1)) 4 (7 + 0) (nI N)) 4 (9 + 0) (nI (N + c.length - N))) 0 (N + c.length) (some c) := ⟨by rw [gsi (by omega), gsi (by omega), gss], by rw [gss]; congr 1; omega, N, by rw [gsi (by omega), gss], Nat.le_refl _, fun i hi => by rw [gsi (by omega), gsi (by omega), gsi (by omega)]; exact s4.2.2.2 i hi⟩
        exact ⟨(g3 _ (by omega) (by omega) (by omega) (by omega)).trans a1, (g3 _ (by omega) (by omega) (by omega) (by omega)).trans a2, (g3 _ (by omega) (by omega) (by omega) (by omega)).trans a3, (g3 _ (by omega) (by omega) (by omega) (by omega)).trans a4, (g3 _ (by omega) (by omega) (by omega) (by omega)).trans a5, fun t ht => by have : t < rT r := ht; exact (g3 _ (by omega) (by omega) (by omega) (by omega)).trans (a6 t ht), fun p hp => by have : p < rP r := hp; exact (g3 _ (by omega) (by omega) (by omega) (by omega)).trans (a7 p hp), newlaw, a9.fr (by omega) (by omega) (g3 _ (by omega) (by omega) (by omega) (by omega)) (g3 _ (by omega) (by omega) (by omega) (by omega)) (g3 _ (by omega) (by omega) (by omega) (by omega)) g4, fun p hp => by have : p < rP r := hp; exact (g3 _ (by omega) (by omega) (by omega) (by omega)).trans (b1 p hp), fun p t hp ht => (g3 _ (by omega) (by omega) (by omega) (by omega)).trans (b2 p t hp ht), fun p hp => (g3 _ (by omega) (by omega) (by omega) (by omega)).trans (b3 p hp), (g3 _ (by omega) (by omega) (by omega) (by omega)).trans b4, (g3 _ (by omega) (by omega) (by omega) (by omega)).trans b5, by rw [gsi (by omega), gsi (by omega), gsi (by omega)]; exact eN⟩
    · have e1 : X7_readSum_top (nI 0) mx2 = some (nI 0, mx3) := s1
      have e2 : X12_readSum_top (nI 0) mm2 = some ((), mm3) := s2
      rw [e1, bq, if_pos rfl, e2, bq, X12_readLaw_b44, K0, if_neg s3.m8]
      exact Or.inr ⟨mx3, mm3, rfl, rfl, s3, ((f0.tr n5.g.t).tr p5.t).tr (s7.t (by omega)), (n6.g.t.tr p6.t).tr ⟨s8.1, s8.2.1⟩⟩
  · have hdd := p5
    obtain ⟨w', pl, d1, d2, d3, d4, d5, d6, d7⟩ := p5
    have DS := (all_sim (tb := tb) (L := L) (lw := 12) hL htb (by omega) 64 0 (by omega)).2.2.2.2.2.2.2.2 (by omega)
    have e95 : gi mm2 4 1195 = nI N := by rw [(p7.1 4 (by omega) _).1, (n6.g.1 4 (by omega) _).1]; exact hM.2.2.2.2.2.2.2.2.2.2.2.2.2.2
    rw [p2, bq, if_pos rfl, p3, bq, K0, if_pos rfl, K2, p4, bq, X12_readLaw_b18, K1195, chk_in (by omega) (by omega), ix_nI (by omega), lq, e95, K0, if_pos rfl]
    have e2 : X12_readSum_top (nI 0) mm2 = some ((), mm2) := DS _ _ _ d6 d1 d2
    rw [e2, bq, X12_readLaw_b44, K0, if_neg hdd.m8]
    exact Or.inr ⟨mx2, mm2, rfl, rfl, hdd, (f0.tr n5.g.t).tr p6.t, n6.g.t.tr p7.t⟩
theorem dead_truth : DeadM (g_X12_readTruth 64).1 := by
  have al := (all_sim (tb := fun _ => 0) (L := 0) (lw := 12) (by omega) (fun i hi => by omega) (by omega) 61 0 (by omega)).2.2.2.2.2.2.2.2 (by omega)
  intro x mm w h h1 h2
  have du : DeadM (g_X12_readTruth 62).2.2.1 := by
    intro x mm w h h1 h2
    show X12_readUnit _ _ (g_X12_readTruth 61).2.2.2.1 x mm = _
    rw [X12_readUnit, m_is_d h h1 h2, bq, K0, if_pos rfl, m_is_d h h1 h2, bq, if_pos rfl, al _ _ _ h h1 h2, bq, m_is_d h h1 h2, bq, if_pos rfl, m_is_d h h1 h2, bq, if_pos rfl, X12_readUnit_b111, m_is_d h h1 h2, bq, K0, if_pos rfl, m_is_d h h1 h2, bq, if_pos rfl, m_is_d h h1 h2, bq, if_pos rfl, m_fails_d h h1 h2, bq, X12_readUnit_b151, al _ _ _ h h1 h2, bq, m_codes_d h h1 h2, bq]
  have db : DeadM (g_X12_readTruth 63).2.1 := by
    intro x mm w h h1 h2
    show X12_readBoth (g_X12_readTruth 62).2.2.1 x mm = _
    rw [X12_readBoth, du _ _ _ h h1 h2, bq, show FU = 19999 + 1 from rfl, X12_readBoth_b5, m_eats_d h h1 h2, bq, K0, if_pos rfl]
  show X12_readTruth (g_X12_readTruth 63).2.1 x mm = _
  rw [X12_readTruth, db _ _ _ h h1 h2, bq, show FU = 19999 + 1 from rfl, X12_readTruth_b5, m_eats_d h h1 h2, bq, K0, if_pos rfl]
theorem line_may (hL : L ≤ 900) (htb : ∀ i, i < L → tb i < 256) (ht : TL tb L a b C K v mx mm) (hW : TWl r ag li) (hC : TC r ag li mx) (hM : TM r ag li N mm) (hN : N ≤ a) (hK : K = 7) : LOut tb L a (rlin r) mx mm (lt (si mx 39 3 (nI 14)) fun m_35 => chk (okl (gi m_35 39 3)) <| lt (ix (gi m_35 39 3)) fun b_36 => lt (si m_35 b_36 1 0) fun m_38 => bnd (X7_next m_38) fun _ m_40 => bnd (X7_pass 58 m_40) fun r_41 m_42 => if r_41 = 0 then (some (0, m_42)) else (bnd (X7_readTruth_top 0 m_42) fun r_43 m_44 => if r_43 = 0 then (some (0, m_44)) else (some (1, m_44)))) (X12_readLaw (nI 1) mm) := by
  have haL := ht.aL
  have h14 := hW.1.1
  rw [lq, gss, (okw2 (lw := 14) (by omega)).1, chk_tt rfl, lq, (okw2 (lw := 14) (by omega)).2, lq, K0, X12_readLaw]
  have ht0 : TL tb L a b C K v (si (si mx 39 3 (nI 14)) 14 1 (nI 0)) mm := by
    obtain ⟨h1, ⟨⟨a1, a2⟩, a3, a4, a5⟩, h3, h4, h5⟩ := ht
    exact ⟨h1, ⟨⟨by rw [gsn (by omega), gsi (by omega)]; exact a1, fun i hi => by rw [gsn (by omega), gsn (by omega)]; exact a2 i hi⟩, by rw [gsn (by omega), gsi (by omega)]; exact a3, by rw [gsn (by omega), gsi (by omega)]; exact a4, by rw [gsn (by omega), gsi (by omega)]; exact a5⟩, h3, by rw [gsn (by omega), gsi (by omega)]; exact h4, h5⟩
  have hl0 : LWs 14 N [] (si (si mx 39 3 (nI 14)) 14 1 (nI 0)) mm := ⟨by rw [gsn (by omega), gss], c_law0, by rw [hM.2.2.2.2.2.2.2.2.2.2.2.2.2.2]; rfl, fun i hi => absurd hi (Nat.not_lt_zero _)⟩
  have f0 : FT mx (si (si mx 39 3 (nI 14)) 14 1 (nI 0)) := ⟨(Fr.si (Or.inr rfl)).tr (Fr.si (Or.inl (by omega))), by rw [gsn (by omega), gsi (by omega)], fun _ => by rw [gsn (by omega), gss]; exact (okw2 (lw := 14) (by omega)).1, fun q => by rw [gsn (by omega), gsi (by omega)] at q; exact ⟨q, by rw [gsn (by omega), gsi (by omega)]⟩⟩
  have hC0 : ∀ c, 9 ≤ c → c ≤ 21 → c ≠ 14 → ∀ j, gi (si (si mx 39 3 (nI 14)) 14 1 (nI 0)) c j = gi mx c j := fun c h1 h2 h3 j => by rw [gsn h3, gsn (by omega)]
  generalize si (si mx 39 3 (nI 14)) 14 1 (nI 0) = mx0 at ht0 hl0 f0 hC0
  obtain ⟨a1, b1, C1, K1', v1, mx1, mm1, n0, n1, n2, n4, n5, n6⟩ := ht0.nx hL htb
  have ab := ht.1.2.2.1 (by omega)
  rw [n1, bq, n2, bq, show (58 : Int32) = nI 58 by decide, show (31 : Int32) = nI 31 by decide]
  have ss := n4.1.2.2.2.1.s.2.2.2.2.1
  rcases n4.ps hL htb (sg := 58) (k := 31) (by omega) (by omega) ss (by omega) with ⟨a2, b2, C2, K2', v2, mx2, mm2, p0, p1, p2, p3, p4, p5, p6⟩ | ⟨mx2, mm2, p1, p2, p3, p4, p5, p6, p7⟩
  · rw [p2, bq, if_neg (show ¬ nI 1 = nI 0 by decide), p3, bq, K0, if_neg (show ¬ nI 1 = nI 0 by decide), X12_readLaw_b18, K1195, chk_in (by omega) (by omega), ix_nI (by omega), lq]
    have hl2 := (hl0.g (by omega) n5.g n6.g).g (by omega) p5 p6
    have e95 : gi mm2 4 1195 = nI N := by rw [hl2.2.2.1]; rfl
    rw [e95, K0, if_neg (show ¬ nI 1 = nI 0 by decide)]
    have S := (all_sim (lw := 14) hL htb (by omega) 64 0 (by omega)).2.2.2.2.2.1 (by omega)
    rcases S a2 b2 C2 K2' v2 N [] mx2 mm2 p4 hl2 (by show N + 0 ≤ a2; omega) with ⟨a3, b3, C3, K3', v3, c, mx3, mm3, s1, s2, s3, s4, s5, s6, s7, s8⟩ | ⟨mx3, mm3, s1, s2, s3, s4, s7, s8⟩
    · have e1 : X7_readTruth_top (nI 0) mx2 = some (nI 1, mx3) := s1
      have e2 : X12_readTruth_top (nI 0) mm2 = some ((), mm3) := s2
      have haL3 := s3.aL
      rw [List.nil_append] at s4
      have hNc : N + c.length ≤ a3 := by omega
      have eN : gi mm3 4 1195 = nI (N + c.length) := s4.2.2.1
      rw [e1, bq, if_neg (show ¬ nI 1 = nI 0 by decide), e2, bq, X12_readLaw_b44, K0, s3.2.2.2.2, if_pos rfl, K5, nadd, chk_in (by omega) (by omega), ix_nI (by omega), K1, lq, K7, nadd, chk_in (by omega) (by omega), ix_nI (by omega), lq, K1195, chk_in (by omega) (by omega), K9, nadd, chk_in (by omega) (by omega), ix_nI (by omega), ix_nI (by omega), gsi (by omega), gsi (by omega), eN, nsub (by omega), lq]
      have hM2 := (hM.g n6.g).g p6
      have hfr : ∀ c', 9 ≤ c' → c' ≤ 21 → c' ≠ 14 → c' ≠ 14 + 1 → ∀ j, gi mx3 c' j = gi mx c' j := fun c' h1 h2 h3 h4 j => by rw [(s7.1 c' (by omega) j).1, (p5.1 c' (by omega) j).1, (n5.g.1 c' (by omega) j).1, hC0 c' h1 h2 h3 j]
      left
      refine ⟨a3, b3, C3, K3', v3, (rT r, rP r, rbar r, rroom r, rlin r, rwan r, rtr r, rgood r, some c), ag, li, N + c.length, _, _, rfl, rfl, s3.fr (fun c hc j => rfl) (fun c hc j => by rw [gsn (by omega), gsn (by omega), gsn (by omega)]), ⟨?_, hW.2⟩, rfl, ?_, ?_, hNc, by omega, ((f0.tr n5.g.t).tr p5.t).tr (s7.t (by omega)), ((n6.g.t.tr p6.t).tr ⟨s8.1, s8.2.1⟩).tr ((FU0.si.tr FU0.si).tr FU0.si)⟩
      · obtain ⟨w1, w2, w3, w4, w5, w6, w7, w8, w9, w10⟩ := hW.1
        have tt := s5 [] [] (by decide)
        rw [List.append_nil] at tt
        exact ⟨w1, w2, w3, w4, w5, w6, w7, w8, w9, Or.inr tt⟩
      · obtain ⟨⟨c1, c2, c3, c4, c5, c6, c7, c8, c9⟩, d1, d2, d3, d4, d5, d6⟩ := hC
        exact ⟨⟨by rw [hfr 9 (by omega) (by omega) (by omega) (by omega)]; exact c1, by rw [hfr 9 (by omega) (by omega) (by omega) (by omega)]; exact c2, by rw [hfr 9 (by omega) (by omega) (by omega) (by omega)]; exact c3, by rw [hfr 9 (by omega) (by omega) (by omega) (by omega)]; exact c4, by rw [hfr 9 (by omega) (by omega) (by omega) (by omega)]; exact c5, fun t ht => by rw [hfr 10 (by omega) (by omega) (by omega) (by omega)]; exact c6 t ht, fun p hp => by rw [hfr 11 (by omega) (by omega) (by omega) (by omega)]; exact c7 p hp, ⟨by rw [hfr 12 (by omega) (by omega) (by omega) (by omega)]; exact c8.1, c8.2.1, fun i hi => by rw [hfr 13 (by omega) (by omega) (by omega) (by omega)]; exact c8.2.2 i hi⟩, s4.2.1⟩, by rw [hfr 16 (by omega) (by omega) (by omega) (by omega)]; exact d1, fun p hp => by rw [hfr 17 (by omega) (by omega) (by omega) (by omega)]; exact d2 p hp, fun p hp => by rw [hfr 18 (by omega) (by omega) (by omega) (by omega)]; exact d3 p hp, fun p hp => by rw [hfr 19 (by omega) (by omega) (by omega) (by omega)]; exact d4 p hp, fun t ht => by rw [hfr 20 (by omega) (by omega) (by omega) (by omega)]; exact d5 t ht, fun p t hp ht q => by rw [hfr 21 (by omega) (by omega) (by omega) (by omega)]; exact d6 p t hp ht q⟩
      · obtain ⟨a1, a2, a3, a4, a5, a6, a7, a8, a9, b1, b2, b3, b4, b5, b6⟩ := hM2
        have hP := hW.1.2.1
        have g3 : ∀ j, j < 1195 → j ≠ 5 + 1 → j ≠ 7 + 1 → j ≠ 9 + 1 → gi (si (si (si mm3 4 (5 + 1) (nI 1)) 4 (7 + 1) (nI N)) 4 (9 + 1) (nI (N + c.length - N))) 4 j = gi mm2 4 j := fun j hj h5 h7 h9 => by rw [gsi h9, gsi h7, gsi h5]; exact s8.2.2.1 j hj
        have g4 : ∀ j, j < N → gi (si (si (si mm3 4 (5 + 1) (nI 1)) 4 (7 + 1) (nI N)) 4 (9 + 1) (nI (N + c.length - N))) 4 (1196 + j) = gi mm2 4 (1196 + j) := fun j hj => by rw [gsi (by omega), gsi (by omega), gsi (by omega)]; exact s8.2.2.2 j (by show j < N + 0; omega)
        have newlaw : LawN (si (si (si mm3 4 (5 + 1) (nI 1)) 4 (7 + 1) (nI N)) 4 (9 + 1) (nI (N + c.length - N))) 1 (N + c.length) (some c) := ⟨by rw [gsi (by omega), gsi (by omega), gss], by rw [gss]; congr 1; omega, N, by rw [gsi (by omega), gss], Nat.le_refl _, fun i hi => by rw [gsi (by omega), gsi (by omega), gsi (by omega)]; exact s4.2.2.2 i hi⟩
        exact ⟨(g3 _ (by omega) (by omega) (by omega) (by omega)).trans a1, (g3 _ (by omega) (by omega) (by omega) (by omega)).trans a2, (g3 _ (by omega) (by omega) (by omega) (by omega)).trans a3, (g3 _ (by omega) (by omega) (by omega) (by omega)).trans a4, (g3 _ (by omega) (by omega) (by omega) (by omega)).trans a5, fun t ht => by have : t < rT r := ht; exact (g3 _ (by omega) (by omega) (by omega) (by omega)).trans (a6 t ht), fun p hp => by have : p < rP r := hp; exact (g3 _ (by omega) (by omega) (by omega) (by omega)).trans (a7 p hp), a8.fr (by omega) (by omega) (g3 _ (by omega) (by omega) (by omega) (by omega)) (g3 _ (by omega) (by omega) (by omega) (by omega)) (g3 _ (by omega) (by omega) (by omega) (by omega)) g4, newlaw, fun p hp => by have : p < rP r := hp; exact (g3 _ (by omega) (by omega) (by omega) (by omega)).trans (b1 p hp), fun p t hp ht => (g3 _ (by omega) (by omega) (by omega) (by omega)).trans (b2 p t hp ht), fun p hp => (g3 _ (by omega) (by omega) (by omega) (by omega)).trans (b3 p hp), (g3 _ (by omega) (by omega) (by omega) (by omega)).trans b4, (g3 _ (by omega) (by omega) (by omega) (by omega)).trans b5, by rw [gsi (by omega), gsi (by omega), gsi (by omega)]; exact eN⟩
    · have e1 : X7_readTruth_top (nI 0) mx2 = some (nI 0, mx3) := s1
      have e2 : X12_readTruth_top (nI 0) mm2 = some ((), mm3) := s2
      rw [e1, bq, if_pos rfl, e2, bq, X12_readLaw_b44, K0, if_neg s3.m8]
      exact Or.inr ⟨mx3, mm3, rfl, rfl, s3, ((f0.tr n5.g.t).tr p5.t).tr (s7.t (by omega)), (n6.g.t.tr p6.t).tr ⟨s8.1, s8.2.1⟩⟩
  · have hdd := p5
    obtain ⟨w', pl, d1, d2, d3, d4, d5, d6, d7⟩ := p5
    have DS := (all_sim (tb := tb) (L := L) (lw := 14) hL htb (by omega) 64 0 (by omega)).2.2.2.2.2.2.2.2 (by omega)
    have e95 : gi mm2 4 1195 = nI N := by rw [(p7.1 4 (by omega) _).1, (n6.g.1 4 (by omega) _).1]; exact hM.2.2.2.2.2.2.2.2.2.2.2.2.2.2
    rw [p2, bq, if_pos rfl, p3, bq, K0, if_pos rfl, K2, p4, bq, X12_readLaw_b18, K1195, chk_in (by omega) (by omega), ix_nI (by omega), lq, e95, K0, if_neg (show ¬ nI 1 = nI 0 by decide)]
    have e2 : X12_readTruth_top (nI 0) mm2 = some ((), mm2) := dead_truth _ _ _ d6 d1 d2
    rw [e2, bq, X12_readLaw_b44, K0, if_neg hdd.m8]
    exact Or.inr ⟨mx2, mm2, rfl, rfl, hdd, (f0.tr n5.g.t).tr p6.t, n6.g.t.tr p7.t⟩
end
