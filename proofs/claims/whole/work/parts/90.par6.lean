/-! what a text has told so far -/
def LawN (mm : Mem) (k N : Nat) : Option (List Nat) → Prop
  | none => gi mm 4 (5 + k) = nI 0
  | some cd => gi mm 4 (5 + k) = nI 1 ∧ gi mm 4 (9 + k) = nI cd.length ∧ ∃ f, gi mm 4 (7 + k) = nI f ∧ f + cd.length ≤ N ∧ ∀ i, i < cd.length → gi mm 4 (1196 + f + i) = nI (cd.getD i 0)
def TWl (r : Ru) (ag li : Nat → Nat) : Prop := WR r ∧ (∀ p, p < rP r → ag p ≤ 99) ∧ (∀ p, li p < 2 ^ rT r) ∧ ∀ p, rP r ≤ p → li p = 0
def TC (r : Ru) (ag li : Nat → Nat) (mx : Mem) : Prop := CR r mx 9 ∧ gi mx 16 0 = nI 0 ∧ (∀ p, p < rP r → gi mx 17 p = nI (ag p)) ∧ (∀ p, p < 8 → gi mx 18 p = NO) ∧ (∀ p, p < 8 → gi mx 19 p = nI (li p)) ∧ (∀ t, t < 14 → gi mx 20 t = nI (bs 8 (fun p => (li p).testBit t))) ∧ ∀ p t, p < 8 → t < 14 → (li p).testBit t = true → gi mx 21 (p * 14 + t) = nI 0
def TM (r : Ru) (ag li : Nat → Nat) (N : Nat) (mm : Mem) : Prop := gi mm 4 0 = nI (rlin r) ∧ gi mm 4 1 = nI (rT r) ∧ gi mm 4 2 = nI (rP r) ∧ gi mm 4 3 = nI (rbar r) ∧ gi mm 4 4 = nI (rroom r) ∧ (∀ t, t < rT r → gi mm 4 (11 + t) = nI (rwan r t)) ∧ (∀ p, p < rP r → gi mm 4 (25 + p) = nI (rtr r p)) ∧ LawN mm 0 N (rgood r) ∧ LawN mm 1 N (rmay r) ∧ (∀ p, p < rP r → gi mm 4 (33 + p) = nI (ag p)) ∧ (∀ p t, p < 8 → t < 14 → gi mm 4 (41 + 14 * p + t) = if (li p).testBit t then nI 0 else NO) ∧ (∀ p, p < 8 → gi mm 4 (153 + p) = NO) ∧ gi mm 4 161 = nI 0 ∧ gi mm 4 162 = nI 0 ∧ gi mm 4 1195 = nI N
theorem LawN.fr {mm m2 : Mem} {k N N2 : Nat} {o : Option (List Nat)} (h : LawN mm k N o) (hk : k < 2) (hN : N ≤ N2) (h5 : gi m2 4 (5 + k) = gi mm 4 (5 + k)) (h7 : gi m2 4 (7 + k) = gi mm 4 (7 + k)) (h9 : gi m2 4 (9 + k) = gi mm 4 (9 + k)) (hc : ∀ j, j < N → gi m2 4 (1196 + j) = gi mm 4 (1196 + j)) : LawN m2 k N2 o := by
  cases o with
  | none => exact h5.trans h
  | some cd =>
    obtain ⟨h1, h2, f, h3, h4, h6⟩ := h
    exact ⟨h5.trans h1, h9.trans h2, f, h7.trans h3, by omega, fun i hi => by rw [Nat.add_assoc, hc _ (by omega), ← Nat.add_assoc]; exact h6 i hi⟩
theorem TC.fr {r : Ru} {ag li : Nat → Nat} {m m2 : Mem} (h : TC r ag li m) (hf : ∀ c, 9 ≤ c → c ≤ 21 → ∀ j, gi m2 c j = gi m c j) : TC r ag li m2 := by
  obtain ⟨⟨a1, a2, a3, a4, a5, a6, a7, a8, a9⟩, h2, h3, h4, h5, h6, h7⟩ := h
  refine ⟨⟨?_, ?_, ?_, ?_, ?_, fun t ht => ?_, fun p hp => ?_, ?_, ?_⟩, ?_, fun p hp => ?_, fun p hp => ?_, fun p hp => ?_, fun t ht => ?_, fun p t hp ht q => ?_⟩
  · rw [hf 9 (by omega) (by omega)]; exact a1
  · rw [hf 9 (by omega) (by omega)]; exact a2
  · rw [hf 9 (by omega) (by omega)]; exact a3
  · rw [hf 9 (by omega) (by omega)]; exact a4
  · rw [hf 9 (by omega) (by omega)]; exact a5
  · rw [hf _ (by omega) (by omega)]; exact a6 t ht
  · rw [hf _ (by omega) (by omega)]; exact a7 p hp
  · exact ⟨by rw [hf _ (by omega) (by omega)]; exact a8.1, a8.2.1, fun i hi => by rw [hf _ (by omega) (by omega)]; exact a8.2.2 i hi⟩
  · exact ⟨by rw [hf _ (by omega) (by omega)]; exact a9.1, a9.2.1, fun i hi => by rw [hf _ (by omega) (by omega)]; exact a9.2.2 i hi⟩
  · rw [hf _ (by omega) (by omega)]; exact h2
  · rw [hf _ (by omega) (by omega)]; exact h3 p hp
  · rw [hf _ (by omega) (by omega)]; exact h4 p hp
  · rw [hf _ (by omega) (by omega)]; exact h5 p hp
  · rw [hf _ (by omega) (by omega)]; exact h6 t ht
  · rw [hf _ (by omega) (by omega)]; exact h7 p t hp ht q
theorem TM.fr {r : Ru} {ag li : Nat → Nat} {N : Nat} {m m2 : Mem} (h : TM r ag li N m) (hf : ∀ j, gi m2 4 j = gi m 4 j) : TM r ag li N m2 := by
  obtain ⟨a1, a2, a3, a4, a5, a6, a7, a8, a9, b1, b2, b3, b4, b5, b6⟩ := h
  exact ⟨(hf _).trans a1, (hf _).trans a2, (hf _).trans a3, (hf _).trans a4, (hf _).trans a5, fun t ht => (hf _).trans (a6 t ht), fun p hp => (hf _).trans (a7 p hp), a8.fr (by omega) (Nat.le_refl _) (hf _) (hf _) (hf _) (fun j _ => hf _), a9.fr (by omega) (Nat.le_refl _) (hf _) (hf _) (hf _) (fun j _ => hf _), fun p hp => (hf _).trans (b1 p hp), fun p t hp ht => (hf _).trans (b2 p t hp ht), fun p hp => (hf _).trans (b3 p hp), (hf _).trans b4, (hf _).trans b5, (hf _).trans b6⟩
theorem TC.g {r : Ru} {ag li : Nat → Nat} {m m2 : Mem} (h : TC r ag li m) (g : GC m m2) : TC r ag li m2 := h.fr (fun c h1 h2 j => (g.1 c (by omega) j).1)
theorem TM.g {r : Ru} {ag li : Nat → Nat} {N : Nat} {m m2 : Mem} (h : TM r ag li N m) (g : GM m m2) : TM r ag li N m2 := h.fr (fun j => (g.1 4 (by omega) j).1)
def FT (m m2 : Mem) : Prop := Fr (fun c => (9 ≤ c ∧ c ≤ 21) ∨ c = 39) m m2 ∧ gi m2 39 4 = gi m 39 4 ∧ (okl (gi m 39 3) = true → okl (gi m2 39 3) = true) ∧ (gi m2 39 8 = nI 0 → gi m 39 8 = nI 0 ∧ gi m2 39 9 = gi m 39 9)
def FU0 (m m2 : Mem) : Prop := Fr (fun c => c = 0 ∨ c = 4) m m2 ∧ ∀ j, j ≠ 6 → j ≠ 7 → j ≠ 9 → j ≠ 10 → j ≠ 11 → j ≠ 12 → gi m2 0 j = gi m 0 j
theorem FT.rf {m : Mem} : FT m m := ⟨Fr.rf, rfl, fun h => h, fun h => ⟨h, rfl⟩⟩
theorem FT.tr {m m1 m2 : Mem} (h1 : FT m m1) (h2 : FT m1 m2) : FT m m2 := ⟨h1.1.tr h2.1, h2.2.1.trans h1.2.1, fun h => h2.2.2.1 (h1.2.2.1 h), fun h => ⟨(h1.2.2.2 (h2.2.2.2 h).1).1, (h2.2.2.2 h).2.trans (h1.2.2.2 (h2.2.2.2 h).1).2⟩⟩
theorem FU0.rf {m : Mem} : FU0 m m := ⟨Fr.rf, fun _ _ _ _ _ _ _ => rfl⟩
theorem FU0.tr {m m1 m2 : Mem} (h1 : FU0 m m1) (h2 : FU0 m1 m2) : FU0 m m2 := ⟨h1.1.tr h2.1, fun j a b c d e f => (h2.2 j a b c d e f).trans (h1.2 j a b c d e f)⟩
theorem GC.t {m m2 : Mem} (h : GC m m2) : FT m m2 := ⟨h.1.mono (fun c q => Or.inr q), h.2 4 (by omega), fun q => by rw [h.2 3 (by omega)]; exact q, fun q => ⟨(h.2 8 (Or.inr ⟨Or.inl rfl, q⟩)).symm.trans q, h.2 9 (Or.inr ⟨Or.inr rfl, q⟩)⟩⟩
theorem FCx.t {lw : Nat} {m m2 : Mem} (hw : lw = 12 ∨ lw = 14) (h : FCx lw m m2) : FT m m2 := ⟨h.1.mono (fun c q => by omega), h.2 4 (by omega), fun q => by rw [h.2 3 (by omega)]; exact q, fun q => ⟨(h.2 8 (Or.inr ⟨Or.inl rfl, q⟩)).symm.trans q, h.2 9 (Or.inr ⟨Or.inr rfl, q⟩)⟩⟩
theorem GM.t {m m2 : Mem} (h : GM m m2) : FU0 m m2 := ⟨h.1.mono (fun c q => Or.inl q), h.2⟩
theorem FT.si {m : Mem} {c j : Nat} {v : Int32} (h1 : 9 ≤ c) (h2 : c ≤ 21) : FT m (si m c j v) := ⟨Fr.si (Or.inl ⟨h1, h2⟩), gsn (by omega), fun q => by rw [gsn (by omega)]; exact q, fun q => by rw [gsn (by omega)] at q; exact ⟨q, gsn (by omega)⟩⟩
theorem FU0.si {m : Mem} {j : Nat} {v : Int32} : FU0 m (si m 4 j v) := ⟨Fr.si (Or.inr rfl), fun i _ _ _ _ _ _ => gsn (by omega)⟩
def LOut (tb : Nat → Nat) (L a lin : Nat) (mx0 mm0 : Mem) (rc : Option (Int32 × Mem)) (rm : Option (Unit × Mem)) : Prop :=
  (∃ a' b' C' K' v' r' ag' li' N' mx' mm', rc = some (nI 1, mx') ∧ rm = some ((), mm') ∧ TL tb L a' b' C' K' v' mx' mm' ∧ TWl r' ag' li' ∧ rlin r' = lin ∧ TC r' ag' li' mx' ∧ TM r' ag' li' N' mm' ∧ N' ≤ a' ∧ a < a' ∧ FT mx0 mx' ∧ FU0 mm0 mm') ∨ (∃ mx' mm', rc = some (nI 0, mx') ∧ rm = some ((), mm') ∧ DD mx' mm' ∧ FT mx0 mx' ∧ FU0 mm0 mm')
section
variable {tb : Nat → Nat} {L a b C K v N : Nat} {r : Ru} {ag li : Nat → Nat} {mx mm : Mem}
theorem DD.fr {mx2 mm2 : Mem} (h : DD mx mm) (h1 : ∀ j, gi mx2 39 j = gi mx 39 j) (h2 : ∀ j, gi mm2 0 j = gi mm 0 j) : DD mx2 mm2 := by
  obtain ⟨w, pl, d1, d2, d3, d4, d5, d6, d7⟩ := h
  exact ⟨w, pl, d1, d2, d3, (h1 _).trans d4, (h1 _).trans d5, (h2 _).trans d6, (h2 _).trans d7⟩
theorem DD.c8 (h : DD mx mm) : gi mx 39 8 ≠ nI 0 := by
  obtain ⟨w, pl, d1, d2, d3, d4, d5, d6, d7⟩ := h
  rw [d4]
  exact fun q => by have := nI_inj (by omega) (by omega) q; omega
theorem DD.m8 (h : DD mx mm) : gi mm 0 11 ≠ nI 0 := by
  obtain ⟨w, pl, d1, d2, d3, d4, d5, d6, d7⟩ := h
  rw [d6]
  exact fun q => by have := nI_inj (by omega) (by omega) q; omega
theorem line_bar (hL : L ≤ 900) (htb : ∀ i, i < L → tb i < 256) (ht : TL tb L a b C K v mx mm) (hW : TWl r ag li) (hC : TC r ag li mx) (hM : TM r ag li N mm) (hN : N ≤ a) : LOut tb L a (rlin r) mx mm (bnd (X7_readNumber 0 999 mx) fun r_22 m_23 => lt (si m_23 9 2 r_22) fun m_24 => if (gi m_24 39 8) = 0 then (some (1, m_24)) else (some (0, m_24))) (bnd (X12_takesOne 0 999 mm) fun r_20 m_21 => chk (inb 3 2096) <| lt (si m_21 4 (ix 3) r_20) fun m_22 => some ((), m_22)) := by
  rw [show (999 : Int32) = nI 1000 - nI 1 by decide, K0, K3]
  rcases ht.num hL htb (lo := 0) (H := 1000) (by omega) (by omega) with ⟨a1, b1, C1, K1', v1, mx1, mm1, n0, n1, n2, n3, n4, n5, n6, n7, n8, n9, n10⟩ | ⟨mx1, mm1, r0, n1, n2, n3, n4, n5, n6⟩
  · rw [n5, bq, lq, n6, bq, chk_in (by omega) (by omega), ix_nI (by omega), lq, gsn (by omega), n7.2.2.2.1, if_pos rfl]
    left
    refine ⟨a1, b1, C1, K1', v1, (rT r, rP r, v, rroom r, rlin r, rwan r, rtr r, rgood r, rmay r), ag, li, N, _, _, rfl, rfl, n7.fr (fun c hc j => gsn (by omega)) (fun c hc j => gsn (by omega)), ⟨?_, hW.2⟩, rfl, ?_, ?_, by omega, n0, n8.t.tr (FT.si (by omega) (by omega)), n9.t.tr FU0.si⟩
    · obtain ⟨w1, w2, w3, w4⟩ := hW.1
      exact ⟨w1, w2, by show v ≤ 999; omega, w4⟩
    · obtain ⟨⟨c1, c2, c3, c4, c5, c6, c7, c8, c9⟩, d⟩ := (hC.g n8)
      refine ⟨⟨by rw [gsi (by omega)]; exact c1, by rw [gsi (by omega)]; exact c2, gss, by rw [gsi (by omega)]; exact c4, by rw [gsi (by omega)]; exact c5, fun t ht => by rw [gsn (by omega)]; exact c6 t ht, fun p hp => by rw [gsn (by omega)]; exact c7 p hp, ⟨by rw [gsn (by omega)]; exact c8.1, c8.2.1, fun i hi => by rw [gsn (by omega)]; exact c8.2.2 i hi⟩, ⟨by rw [gsn (by omega)]; exact c9.1, c9.2.1, fun i hi => by rw [gsn (by omega)]; exact c9.2.2 i hi⟩⟩, ?_⟩
      obtain ⟨d1, d2, d3, d4, d5, d6⟩ := d
      exact ⟨by rw [gsn (by omega)]; exact d1, fun p hp => by rw [gsn (by omega)]; exact d2 p hp, fun p hp => by rw [gsn (by omega)]; exact d3 p hp, fun p hp => by rw [gsn (by omega)]; exact d4 p hp, fun t ht => by rw [gsn (by omega)]; exact d5 t ht, fun p t hp ht q => by rw [gsn (by omega)]; exact d6 p t hp ht q⟩
    · obtain ⟨a1, a2, a3, a4, a5, a6, a7, a8, a9, b1, b2, b3, b4, b5, b6⟩ := (hM.g n9)
      exact ⟨by rw [gsi (by omega)]; exact a1, by rw [gsi (by omega)]; exact a2, by rw [gsi (by omega)]; exact a3, gss, by rw [gsi (by omega)]; exact a5, fun t ht => by rw [gsi (by omega)]; exact a6 t ht, fun p hp => by rw [gsi (by omega)]; exact a7 p hp, a8.fr (by omega) (Nat.le_refl _) (gsi (by omega)) (gsi (by omega)) (gsi (by omega)) (fun j _ => gsi (by omega)), a9.fr (by omega) (Nat.le_refl _) (gsi (by omega)) (gsi (by omega)) (gsi (by omega)) (fun j _ => gsi (by omega)), fun p hp => by rw [gsi (by omega)]; exact b1 p hp, fun p t hp ht => by rw [gsi (by omega)]; exact b2 p t hp ht, fun p hp => by rw [gsi (by omega)]; exact b3 p hp, by rw [gsi (by omega)]; exact b4, by rw [gsi (by omega)]; exact b5, by rw [gsi (by omega)]; exact b6⟩
  · rw [n1, bq, lq, n2, bq, chk_in (by omega) (by omega), ix_nI (by omega), lq, gsn (by omega), if_neg n3.c8]
    exact Or.inr ⟨_, _, rfl, rfl, n3.fr (fun j => gsn (by omega)) (fun j => gsn (by omega)), n4.t.tr (FT.si (by omega) (by omega)), n5.t.tr FU0.si⟩
end
