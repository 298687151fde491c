/-! lines -/
section
variable {tb : Nat → Nat} {L a b C K v N : Nat} {r : Ru} {ag li : Nat → Nat} {mx mm : Mem}
theorem line_room (hL : L ≤ 900) (htb : ∀ i, i < L → tb i < 256) (ht : TL tb L a b C K v mx mm) (hW : TWl r ag li) (hC : TC r ag li mx) (hM : TM r ag li N mm) (hN : N ≤ a) : LOut tb L a (rlin r) mx mm (bnd (X7_readNumber 1 14 mx) fun r_22 m_23 => lt (si m_23 9 3 r_22) fun m_24 => if (gi m_24 39 8) = 0 then (some (1, m_24)) else (some (0, m_24))) (bnd (X12_takesOne 1 14 mm) fun r_20 m_21 => chk (inb 4 2096) <| lt (si m_21 4 (ix 4) r_20) fun m_22 => some ((), m_22)) := by
  rw [show (14 : Int32) = nI 15 - nI 1 by decide, K0, K1, K4]
  rcases ht.num hL htb (lo := 1) (H := 15) (by omega) (by omega) with ⟨a1, b1, C1, K1', v1, mx1, mm1, n0, n1, n2, n3, n4, n5, n6, n7, n8, n9, n10⟩ | ⟨mx1, mm1, r0, n1, n2, n3, n4, n5, n6⟩
  · rw [n5, bq, lq, n6, bq, chk_in (by omega) (by omega), ix_nI (by omega), lq, gsn (by omega), n7.2.2.2.1, if_pos rfl]
    left
    refine ⟨a1, b1, C1, K1', v1, (rT r, rP r, rbar r, v, rlin r, rwan r, rtr r, rgood r, rmay r), ag, li, N, _, _, rfl, rfl, n7.fr (fun c hc j => gsn (by omega)) (fun c hc j => gsn (by omega)), ⟨?_, hW.2⟩, rfl, ?_, ?_, by omega, n0, n8.t.tr (FT.si (by omega) (by omega)), n9.t.tr FU0.si⟩
    · obtain ⟨w1, w2, w3, w4, w5, w6⟩ := hW.1
      exact ⟨w1, w2, w3, by show 1 ≤ v; omega, by show v ≤ 14; omega, w6⟩
    · obtain ⟨⟨c1, c2, c3, c4, c5, c6, c7, c8, c9⟩, d⟩ := (hC.g n8)
      refine ⟨⟨by rw [gsi (by omega)]; exact c1, by rw [gsi (by omega)]; exact c2, by rw [gsi (by omega)]; exact c3, gss, by rw [gsi (by omega)]; exact c5, fun t ht => by rw [gsn (by omega)]; exact c6 t ht, fun p hp => by rw [gsn (by omega)]; exact c7 p hp, ⟨by rw [gsn (by omega)]; exact c8.1, c8.2.1, fun i hi => by rw [gsn (by omega)]; exact c8.2.2 i hi⟩, ⟨by rw [gsn (by omega)]; exact c9.1, c9.2.1, fun i hi => by rw [gsn (by omega)]; exact c9.2.2 i hi⟩⟩, ?_⟩
      obtain ⟨d1, d2, d3, d4, d5, d6⟩ := d
      exact ⟨by rw [gsn (by omega)]; exact d1, fun p hp => by rw [gsn (by omega)]; exact d2 p hp, fun p hp => by rw [gsn (by omega)]; exact d3 p hp, fun p hp => by rw [gsn (by omega)]; exact d4 p hp, fun t ht => by rw [gsn (by omega)]; exact d5 t ht, fun p t hp ht q => by rw [gsn (by omega)]; exact d6 p t hp ht q⟩
    · obtain ⟨a1, a2, a3, a4, a5, a6, a7, a8, a9, b1, b2, b3, b4, b5, b6⟩ := (hM.g n9)
      exact ⟨by rw [gsi (by omega)]; exact a1, by rw [gsi (by omega)]; exact a2, by rw [gsi (by omega)]; exact a3, by rw [gsi (by omega)]; exact a4, gss, fun t ht => by rw [gsi (by omega)]; exact a6 t ht, fun p hp => by rw [gsi (by omega)]; exact a7 p hp, a8.fr (by omega) (Nat.le_refl _) (gsi (by omega)) (gsi (by omega)) (gsi (by omega)) (fun j _ => gsi (by omega)), a9.fr (by omega) (Nat.le_refl _) (gsi (by omega)) (gsi (by omega)) (gsi (by omega)) (fun j _ => gsi (by omega)), fun p hp => by rw [gsi (by omega)]; exact b1 p hp, fun p t hp ht => by rw [gsi (by omega)]; exact b2 p t hp ht, fun p hp => by rw [gsi (by omega)]; exact b3 p hp, by rw [gsi (by omega)]; exact b4, by rw [gsi (by omega)]; exact b5, by rw [gsi (by omega)]; exact b6⟩
  · rw [n1, bq, lq, n2, bq, chk_in (by omega) (by omega), ix_nI (by omega), lq, gsn (by omega), if_neg n3.c8]
    exact Or.inr ⟨_, _, rfl, rfl, n3.fr (fun j => gsn (by omega)) (fun j => gsn (by omega)), n4.t.tr (FT.si (by omega) (by omega)), n5.t.tr FU0.si⟩
theorem c_rt47 {t : Nat} {z : Int32} {m : Mem} (ht : t < 14) (h0 : gi m 9 0 = nI t) : X7_readThing_b47 (nI t) z m = some (if gi m 39 8 = nI 0 then nI 1 else nI 0, si (si m 10 t z) 9 0 (nI (t + 1))) := by
  rw [X7_readThing_b47, chk_in (by omega) (by omega), ix_nI (by omega), lq, gsn (by omega), h0, K1, nadd, lq, gsn (by omega), gsn (by omega), K0]
  split <;> rfl
theorem m_rt49 {t : Nat} {z : Int32} {m : Mem} (ht : t < 14) (h0 : gi m 4 1 = nI t) (h11 : gi m 0 11 = nI 0) : X12_readThing_b49 (nI t) z m = some ((), si (si m 4 (11 + t) z) 4 1 (nI (t + 1))) := by
  rw [X12_readThing_b49, K0, h11, if_pos rfl, K11, nadd, chk_in (by omega) (by omega), ix_nI (by omega), lq, K1, chk_in (by omega) (by omega), chk_in (by omega) (by omega), ix_nI (by omega), gsi (by omega), h0, nadd, lq]
theorem line_thing (hL : L ≤ 900) (htb : ∀ i, i < L → tb i < 256) (ht : TL tb L a b C K v mx mm) (hW : TWl r ag li) (hC : TC r ag li mx) (hM : TM r ag li N mm) (hN : N ≤ a) (hK : K = 0) : LOut tb L a (rlin r) mx mm (X7_readThing mx) (X12_readThing mm) := by
  have hT := hW.1.1
  have cT : gi mx 9 0 = nI (rT r) := hC.1.1
  have mT : gi mm 4 1 = nI (rT r) := hM.2.1
  rw [X7_readThing, X12_readThing, lq, K1, chk_in (by omega) (by omega), ix_nI (by omega), lq, cT, mT, K14]
  by_cases h14 : rT r = 14
  · obtain ⟨mx1, mm1, b1, b2, b3, b4, b5⟩ := ht.bl hL (k := 4) (by omega) (by omega) (by omega)
    rw [jlt_f (by omega) (by omega), K4, b1, bq, if_pos (by rw [h14]), b2, bq, X12_readThing_b18, K0, if_neg b3.m8]
    exact Or.inr ⟨mx1, mm1, rfl, rfl, b3, b4.t, b5.t⟩
  · obtain ⟨a1, b1, C1, K1', v1, mx1, mm1, n0, n1, n2, n4, n5, n6⟩ := ht.nx hL htb
    have ab := ht.1.2.2.1 (by omega)
    rw [jlt_t (by omega) (by omega), n1, bq, jeq_f h14 (by omega) (by omega), X12_readThing_b18, K0, K1, ht.2.2.2.2, if_pos rfl, n2, bq]
    have hC1 := hC.g n5.g
    have hM1 := hM.g n6.g
    have cw : X7_isWord 2 mx1 = some (nI (if K1' = 1 then 1 else 0), mx1) := n4.cw hL htb (n := 1) (by omega)
    have fin : ∀ (a2 b2 C2 K2 v2 : Nat) (mx2 mm2 : Mem) (z : Nat), z ≤ 99 → a < a2 → TL tb L a2 b2 C2 K2 v2 mx2 mm2 → TC r ag li mx2 → TM r ag li N mm2 → FT mx mx2 → FU0 mm mm2 → LOut tb L a (rlin r) mx mm (X7_readThing_b47 (nI (rT r)) (nI z) mx2) (X12_readThing_b49 (nI (rT r)) (nI z) mm2) := by
      intro a2 b2 C2 K2 v2 mx2 mm2 z hz ha t2 hC2 hM2 f1 f2
      rw [c_rt47 (by omega) hC2.1.1, m_rt49 (by omega) hM2.2.1 t2.2.2.2.2, t2.2.2.2.1, if_pos rfl]
      left
      refine ⟨a2, b2, C2, K2, v2, (rT r + 1, rP r, rbar r, rroom r, rlin r, fun i => if i = rT r then z else rwan r i, rtr r, rgood r, rmay r), ag, li, N, _, _, rfl, rfl, t2.fr (fun c hc j => by rw [gsn (by omega), gsn (by omega)]) (fun c hc j => by rw [gsn (by omega), gsn (by omega)]), ⟨?_, hW.2.1, fun p => ?_, hW.2.2.2⟩, rfl, ?_, ?_, by omega, ha, f1.tr ((FT.si (by omega) (by omega)).tr (FT.si (by omega) (by omega))), f2.tr (FU0.si.tr FU0.si)⟩
      · obtain ⟨w1, w2, w3, w4, w5, w6, w7, w8, w9⟩ := hW.1
        refine ⟨by show rT r + 1 ≤ 14; omega, w2, w3, w4, w5, w6, fun t ht => ?_, fun p hp => ?_, w9⟩
        · show (if t = rT r then z else rwan r t) ≤ 99
          split
          · exact hz
          · exact w7 t (by have : t < rT r + 1 := ht; omega)
        · show rtr r p < 2 ^ (rT r + 1)
          have := w8 p hp
          rw [Nat.pow_succ]; omega
      · have := hW.2.2.1 p
        show li p < 2 ^ (rT r + 1)
        rw [Nat.pow_succ]; omega
      · obtain ⟨⟨c1, c2, c3, c4, c5, c6, c7, c8, c9⟩, d⟩ := hC2
        refine ⟨⟨gss, by rw [gsi (by omega), gsn (by omega)]; exact c2, by rw [gsi (by omega), gsn (by omega)]; exact c3, by rw [gsi (by omega), gsn (by omega)]; exact c4, by rw [gsi (by omega), gsn (by omega)]; exact c5, fun t ht => ?_, fun p hp => by rw [gsn (by omega), gsn (by omega)]; exact c7 p hp, ⟨by rw [gsn (by omega), gsn (by omega)]; exact c8.1, c8.2.1, fun i hi => by rw [gsn (by omega), gsn (by omega)]; exact c8.2.2 i hi⟩, ⟨by rw [gsn (by omega), gsn (by omega)]; exact c9.1, c9.2.1, fun i hi => by rw [gsn (by omega), gsn (by omega)]; exact c9.2.2 i hi⟩⟩, ?_⟩
        · have ht' : t < rT r + 1 := ht
          show gi _ 10 t = nI (if t = rT r then z else rwan r t)
          rw [gsn (by omega)]
          by_cases e : t = rT r
          · rw [if_pos e, e, gss]
          · rw [if_neg e, gsi e]; exact c6 t (by omega)
        · obtain ⟨d1, d2, d3, d4, d5, d6⟩ := d
          exact ⟨by rw [gsn (by omega), gsn (by omega)]; exact d1, fun p hp => by rw [gsn (by omega), gsn (by omega)]; exact d2 p hp, fun p hp => by rw [gsn (by omega), gsn (by omega)]; exact d3 p hp, fun p hp => by rw [gsn (by omega), gsn (by omega)]; exact d4 p hp, fun t ht => by rw [gsn (by omega), gsn (by omega)]; exact d5 t ht, fun p t hp ht q => by rw [gsn (by omega), gsn (by omega)]; exact d6 p t hp ht q⟩
      · obtain ⟨a1, a2, a3, a4, a5, a6, a7, a8, a9, b1, b2, b3, b4, b5, b6⟩ := hM2
        have hP := hW.1.2.1
        refine ⟨by rw [gsi (by omega), gsi (by omega)]; exact a1, gss, by rw [gsi (by omega), gsi (by omega)]; exact a3, by rw [gsi (by omega), gsi (by omega)]; exact a4, by rw [gsi (by omega), gsi (by omega)]; exact a5, fun t ht => ?_, fun p hp => by have : p < rP r := hp; rw [gsi (by omega), gsi (by omega)]; exact a7 p hp, a8.fr (by omega) (Nat.le_refl _) (by rw [gsi (by omega), gsi (by omega)]) (by rw [gsi (by omega), gsi (by omega)]) (by rw [gsi (by omega), gsi (by omega)]) (fun j _ => by rw [gsi (by omega), gsi (by omega)]), a9.fr (by omega) (Nat.le_refl _) (by rw [gsi (by omega), gsi (by omega)]) (by rw [gsi (by omega), gsi (by omega)]) (by rw [gsi (by omega), gsi (by omega)]) (fun j _ => by rw [gsi (by omega), gsi (by omega)]), fun p hp => by have : p < rP r := hp; rw [gsi (by omega), gsi (by omega)]; exact b1 p hp, fun p t hp ht => by rw [gsi (by omega), gsi (by omega)]; exact b2 p t hp ht, fun p hp => by rw [gsi (by omega), gsi (by omega)]; exact b3 p hp, by rw [gsi (by omega), gsi (by omega)]; exact b4, by rw [gsi (by omega), gsi (by omega)]; exact b5, by rw [gsi (by omega), gsi (by omega)]; exact b6⟩
        have ht' : t < rT r + 1 := ht
        show gi _ 4 (11 + t) = nI (if t = rT r then z else rwan r t)
        rw [gsi (by omega)]
        by_cases e : t = rT r
        · rw [if_pos e, e, gss]
        · rw [if_neg e, gsi (by omega)]; exact a6 t (by omega)
    by_cases h1 : K1' = 1
    · obtain ⟨a2, b2, C2, K2', v2, mx2, mm2, m0, m1, m2, m3, m4, m5, m6⟩ := n4.et hL htb (k := 1) (by omega) (by omega) h1
      rw [cw, bq, if_pos h1, if_neg (show ¬ nI 1 = nI 0 by decide), m1, bq, m3, bq, if_neg (show ¬ nI 1 = nI 0 by decide), show (99 : Int32) = nI 100 - nI 1 by decide]
      rcases m4.num hL htb (lo := 1) (H := 100) (by omega) (by omega) with ⟨a3, b3, C3, K3', v3, mx3, mm3, p0, p1, p2, p3, p4, p5, p6, p7, p8, p9, p10⟩ | ⟨mx3, mm3, r0, p1, p2, p3, p4, p5, p6⟩
      · rw [p5, bq, p6, bq]
        exact fin a3 b3 C3 K3' v3 mx3 mm3 v2 (by omega) (by omega) p7 ((hC1.g m5).g p8) ((hM1.g m6).g p9) ((n5.g.t.tr m5.t).tr p8.t) ((n6.g.t.tr m6.t).tr p9.t)
      · rw [p1, bq, p2, bq, c_rt47 (by omega) ((hC1.g m5).g p4).1.1, if_neg p3.c8, X12_readThing_b49, K0, if_neg p3.m8]
        exact Or.inr ⟨_, mm3, rfl, rfl, p3.fr (fun j => by rw [gsn (by omega), gsn (by omega)]) (fun j => rfl), ((n5.g.t.tr m5.t).tr p4.t).tr ((FT.si (by omega) (by omega)).tr (FT.si (by omega) (by omega))), (n6.g.t.tr m6.t).tr p5.t⟩
    · rw [cw, bq, if_neg h1, if_pos rfl, n4.en (by omega) h1, bq, if_pos rfl]
      exact fin a1 b1 C1 K1' v1 mx1 mm1 0 (by omega) (by omega) n4 hC1 hM1 n5.g.t n6.g.t
end
