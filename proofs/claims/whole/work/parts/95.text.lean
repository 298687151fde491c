/-! a line, and all lines -/
section
variable {tb : Nat → Nat} {L a b C K v N : Nat} {r : Ru} {ag li : Nat → Nat} {mx mm : Mem}
theorem LOut.ck {lin : Nat} {mx0 mm0 : Mem} {rc : Option (Int32 × Mem)} {rm : Option (Unit × Mem)} (h : LOut tb L a lin mx0 mm0 rc rm) : LOut tb L a lin mx0 mm0 (bnd rc fun r_45 m_46 => chk (decide (r_45 = nI 0 ∨ r_45 = 1)) (some (r_45, m_46))) (bnd rm fun _ m_24 => some ((), m_24)) := by
  rcases h with ⟨a', b', C', K', v', r', ag', li', N', mx', mm', h1, h2, h3⟩ | ⟨mx', mm', h1, h2, h3⟩
  · rw [h1, h2, bq, bq]
    exact Or.inl ⟨a', b', C', K', v', r', ag', li', N', mx', mm', rfl, rfl, h3⟩
  · rw [h1, h2, bq, bq]
    exact Or.inr ⟨mx', mm', rfl, rfl, h3⟩
theorem LOut.st {lin a1 : Nat} {mx0 mm0 mx1 mm1 : Mem} {rc : Option (Int32 × Mem)} {rm : Option (Unit × Mem)} (h : LOut tb L a1 lin mx1 mm1 rc rm) (ha : a ≤ a1) (f1 : FT mx0 mx1) (f2 : FU0 mm0 mm1) : LOut tb L a lin mx0 mm0 rc rm := by
  rcases h with ⟨a', b', C', K', v', r', ag', li', N', mx', mm', h1, h2, h3, h4, h5, h6, h7, h8, h9, h10, h11⟩ | ⟨mx', mm', h1, h2, h3, h4, h5⟩
  · exact Or.inl ⟨a', b', C', K', v', r', ag', li', N', mx', mm', h1, h2, h3, h4, h5, h6, h7, h8, by omega, f1.tr h10, f2.tr h11⟩
  · exact Or.inr ⟨mx', mm', h1, h2, h3, f1.tr h4, f2.tr h5⟩
theorem LOut.un {lin : Nat} {mx0 mm0 : Mem} {rc : Option (Int32 × Mem)} {rm : Option (Unit × Mem)} (h : LOut tb L a lin mx0 mm0 rc rm) : LOut tb L a lin mx0 mm0 rc (bnd rm fun _ m_24 => some ((), m_24)) := by
  rcases h with ⟨a', b', C', K', v', r', ag', li', N', mx', mm', h1, h2, h3⟩ | ⟨mx', mm', h1, h2, h3⟩
  · rw [h2, bq]
    exact Or.inl ⟨a', b', C', K', v', r', ag', li', N', mx', mm', h1, rfl, h3⟩
  · rw [h2, bq]
    exact Or.inr ⟨mx', mm', h1, rfl, h3⟩
theorem line_sim (hL : L ≤ 900) (htb : ∀ i, i < L → tb i < 256) (ht : TL tb L a b C K v mx mm) (hW : TWl r ag li) (hC : TC r ag li mx) (hM : TM r ag li N mm) (hN : N ≤ a) : LOut tb L a (rlin r) mx mm (X7_readLine mx) (X12_readLine mm) := by
  have w1 : X7_isWord 1 mx = some (nI (if K = 0 then 1 else 0), mx) := ht.cw hL htb (n := 0) (by omega)
  have w3 : X7_isWord 3 mx = some (nI (if K = 2 then 1 else 0), mx) := ht.cw hL htb (n := 2) (by omega)
  have w7 : X7_isWord 7 mx = some (nI (if K = 6 then 1 else 0), mx) := ht.cw hL htb (n := 6) (by omega)
  have w15 : X7_isWord 15 mx = some (nI (if K = 7 then 1 else 0), mx) := ht.cw hL htb (n := 7) (by omega)
  have w19 : X7_isWord 19 mx = some (nI (if K = 8 then 1 else 0), mx) := ht.cw hL htb (n := 8) (by omega)
  have w20 : X7_isWord 20 mx = some (nI (if K = 9 then 1 else 0), mx) := ht.cw hL htb (n := 9) (by omega)
  have m0 : X12_is (nI 0) mm = some (nI (if K = 0 then 1 else 0), mm) := ht.mi (by omega)
  have m2 : X12_is 2 mm = some (nI (if K = 2 then 1 else 0), mm) := ht.mi (k := 2) (by omega)
  have m6 : X12_is 6 mm = some (nI (if K = 6 then 1 else 0), mm) := ht.mi (k := 6) (by omega)
  have m7 : X12_is 7 mm = some (nI (if K = 7 then 1 else 0), mm) := ht.mi (k := 7) (by omega)
  rw [X7_readLine, X12_readLine, K0, w1, bq, m0, bq]
  by_cases h0 : K = 0
  · rw [if_pos h0, if_neg (show ¬ nI 1 = nI 0 by decide), if_neg (show ¬ nI 1 = nI 0 by decide)]
    exact (line_thing hL htb ht hW hC hM hN h0).ck
  rw [if_neg h0, if_pos rfl, if_pos rfl, w3, bq, m2, bq]
  by_cases h2 : K = 2
  · rw [if_pos h2, if_neg (show ¬ nI 1 = nI 0 by decide), if_neg (show ¬ nI 1 = nI 0 by decide)]
    exact (line_person hL htb ht hW hC hM hN h2).ck
  rw [if_neg h2, if_pos rfl, if_pos rfl, w7, bq, m6, bq]
  by_cases h6 : K = 6
  · rw [if_pos h6, if_neg (show ¬ nI 1 = nI 0 by decide), if_neg (show ¬ nI 1 = nI 0 by decide), X12_readLine_b48, ht.2.2.1.2.2.2.1, h6, K6, nsub (by omega)]
    exact (line_good hL htb ht hW hC hM hN h6).un
  rw [if_neg h6, if_pos rfl, if_pos rfl, w15, bq, m7, bq]
  by_cases h7 : K = 7
  · rw [if_pos h7, if_neg (show ¬ nI 1 = nI 0 by decide), if_neg (show ¬ nI 1 = nI 0 by decide), X12_readLine_b48, ht.2.2.1.2.2.2.1, h7, K6, nsub (by omega)]
    exact (line_may hL htb ht hW hC hM hN h7).un
  rw [if_neg h7, if_pos rfl, if_pos rfl, w19, bq, K8]
  by_cases h8 : K = 8
  · obtain ⟨a1, b1, C1, K1', v1, mx1, mm1, n0, n1, n2, n3, n4, n5, n6⟩ := ht.et hL htb (k := 8) (by omega) (by omega) h8
    rw [if_pos h8, if_neg (show ¬ nI 1 = nI 0 by decide), n1, bq, n3, bq, if_neg (show ¬ nI 1 = nI 0 by decide)]
    exact (line_bar hL htb n4 hW (hC.g n5) (hM.g n6) (by omega)).st (by omega) n5.t n6.t
  rw [if_neg h8, if_pos rfl, w20, bq, ht.en (by omega) h8, bq, if_pos rfl, K9]
  by_cases h9 : K = 9
  · obtain ⟨a1, b1, C1, K1', v1, mx1, mm1, n0, n1, n2, n3, n4, n5, n6⟩ := ht.et hL htb (k := 9) (by omega) (by omega) h9
    rw [if_pos h9, if_neg (show ¬ nI 1 = nI 0 by decide), n1, bq, n3, bq, if_neg (show ¬ nI 1 = nI 0 by decide)]
    exact (line_room hL htb n4 hW (hC.g n5) (hM.g n6) (by omega)).st (by omega) n5.t n6.t
  obtain ⟨mx1, mm1, p1, p2, p3, p4, p5⟩ := ht.rf2 hL
  rw [if_neg h9, if_pos rfl, ht.en (by omega) h9, bq, if_pos rfl, p1, bq, K2, p2, bq]
  exact Or.inr ⟨mx1, mm1, rfl, rfl, p3, p4.t, p5.t⟩
end
