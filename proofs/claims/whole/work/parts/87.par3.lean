/-! what is repeated -/
theorem term_loop {tb : Nat → Nat} {L lw h h2 deep : Nat} {fa : Int32 → Mem → Option (Int32 × Mem)} {ga : Int32 → Mem → Option (Unit × Mem)} (hL : L ≤ 900) (htb : ∀ i, i < L → tb i < 256) (hw : lw = 12 ∨ lw = 14) (hh : h2 + 1 ≤ h) (h2' : 2 ≤ h) (S : Sim tb L lw false h2 deep fa ga) : ∀ n n2 i a b C K v f cd c mx mm, L - a < n → L - a < n2 → i ≤ a → TL tb L a b C K v mx mm → LWs lw f (cd ++ c) mx mm → Typ c false h → f + cd.length + c.length ≤ a → Oc tb L lw false h f cd a c.length (f + cd.length) mx mm (X7_readTerm_b8 fa n (nI deep) (nI 1) (nI i) mx) (X12_readTerm_b5 ga n2 (nI deep) mm) := by
  intro n
  induction n with
  | zero => intro n2 i a b C K v f cd c mx mm h; omega
  | succ n ih =>
    intro n2 i a b C K v f cd c mx mm hn hn2 hi ht hl hty hb
    match n2, hn2 with
    | n2 + 1, hn2 =>
    have haL := ht.aL
    have w := ht.1.2.2.2.1.w
    have s := ht.1.2.2.2.1.s
    have hlen : (cd ++ c).length = cd.length + c.length := List.length_append
    rw [X7_readTerm_b8, X12_readTerm_b5, K900, jlt_f (by omega) (by omega), K0, jeq_f (by omega) (by omega) (by omega), K1]
    rw [show (42 : Int32) = nI 42 by decide, ht.cs (by omega), show (34 : Int32) = nI 34 by decide]
    by_cases hK : K = 34
    · obtain ⟨a1, b1, C1, K1', v1, mx1, mm1, n1, n2', n3, n4, n5, n6, n7⟩ := ht.et hL htb (k := 34) (by omega) (by omega) hK
      have ht24 := ht.1.2.2.1 (by omega)
      have haL2 := ht.1.2.1
      rw [n4, bq, if_neg (show ¬ nI 1 = nI 0 by decide), if_pos (show C = 42 by omega), n2', bq]
      rcases S a1 b1 C1 K1' v1 f (cd ++ c) mx1 mm1 n5 (hl.g hw n6 n7) (by omega) with ⟨a2, b2, C2, K2', v2, c2, mx2, mm2, s1, s2, s3, s4, s5, s6, s7, s8⟩ | ⟨mx2, mm2, s1, s2, s3, s4, s7, s8⟩
      · have hlen2 : (cd ++ c ++ c2).length = cd.length + c.length + c2.length := by rw [List.length_append, hlen]
        have haL3 := s3.aL
        obtain ⟨mx3, mm3, t1, t2, t3, t4, t5, t6⟩ := adds (u := 3002) (w := -10) hw s3 s4 (by omega) (by decide)
        rw [s1, bq, s4.1, (okw2 hw).1, chk_tt rfl, lq, (okw2 hw).2, t1, bq, s2, bq, show (3002 : Int32) = nI 3002 by decide, t2, bq, nadd]
        have eq : cd ++ c ++ c2 ++ [3002] = cd ++ (c ++ c2 ++ [3002]) := by simp [List.append_assoc]
        rw [eq] at t4
        have hlen3 : (c ++ c2 ++ [3002]).length = c.length + c2.length + 1 := by simp [List.length_append]; omega
        have fx : FCx lw mx mx3 := (n6.x.tr s7).tr t5
        have fm : FMx (f + cd.length) mm mm3 := (FMx.tr (n7.x (N := f + cd.length)) s8 (by omega)).tr t6 (by omega)
        rcases ih n2 (i + 1) a2 b2 C2 K2' v2 f cd (c ++ c2 ++ [3002]) mx3 mm3 (by omega) (by omega) (by omega) t3 t4 (hty.bin s5 hh h2' (by omega)) (by omega) with ⟨a', b', C', K', v', c', mx', mm', r1, r2, r3, r4, r5, r6, r7, r8⟩ | ⟨mx', mm', r1, r2, r3, r4, r7, r8⟩
        · exact Or.inl ⟨a', b', C', K', v', c', mx', mm', r1, r2, r3, r4, r5, by omega, fx.tr r7, fm.tr r8 (by omega)⟩
        · exact Or.inr ⟨mx', mm', r1, r2, r3, r4, fx.tr r7, fm.tr r8 (by omega)⟩
      · obtain ⟨mx3, t1, t2, t3, t4⟩ := addd (w := -10) hw s3 s4
        obtain ⟨w', pl, d1, d2, d3, d4, d5, d6, d7⟩ := s3
        rw [s1, bq, s4.1, (okw2 hw).1, chk_tt rfl, lq, (okw2 hw).2, t1, bq, s2, bq, show (3002 : Int32) = nI 3002 by decide, m_codes_d d6 d1 d2, bq, nadd]
        obtain ⟨nn, hnn⟩ : ∃ nn, n = nn + 1 := ⟨n - 1, by omega⟩
        obtain ⟨nn2, hnn2⟩ : ∃ nn2, n2 = nn2 + 1 := ⟨n2 - 1, by omega⟩
        rw [hnn, hnn2, X7_readTerm_b8, X12_readTerm_b5, m_eats_d d6 d1 d2, bq, K0, if_pos rfl, if_pos rfl]
        refine Or.inr ⟨mx3, mm2, ?_, rfl, t2, t3, (n6.x.tr s7).tr t4, FMx.tr (n7.x (N := f + cd.length)) s8 (by omega)⟩
        split <;> rfl
    · rw [ht.en (by omega) hK, bq, if_pos rfl, if_neg (show ¬ C = 42 by omega)]
      exact Or.inl ⟨a, b, C, K, v, c, mx, mm, rfl, rfl, ht, hl, hty, Nat.le_refl _, FCx.rf, FMx.rf⟩
theorem term_sim {tb : Nat → Nat} {L lw h h2 deep : Nat} {fa : Int32 → Mem → Option (Int32 × Mem)} {ga : Int32 → Mem → Option (Unit × Mem)} (hL : L ≤ 900) (htb : ∀ i, i < L → tb i < 256) (hw : lw = 12 ∨ lw = 14) (hh : h2 + 1 ≤ h) (h2' : 2 ≤ h) (S : Sim tb L lw false h2 deep fa ga) : Sim tb L lw false h deep (X7_readTerm fa) (X12_readTerm ga) := by
  intro a b C K v f cd mx mm ht hl hb
  rw [X7_readTerm, X12_readTerm]
  rcases S a b C K v f cd mx mm ht hl hb with ⟨a2, b2, C2, K2', v2, c2, mx2, mm2, s1, s2, s3, s4, s5, s6, s7, s8⟩ | ⟨mx2, mm2, s1, s2, s3, s4, s7, s8⟩
  · rw [s1, bq, s2, bq, K0]
    rcases term_loop hL htb hw hh h2' S FU FU 0 a2 b2 C2 K2' v2 f cd c2 mx2 mm2 (by unfold FU; omega) (by unfold FU; omega) (by omega) s3 s4 (s5.mono (by omega)) (by omega) with ⟨a', b', C', K', v', c', mx', mm', r1, r2, r3, r4, r5, r6, r7, r8⟩ | ⟨mx', mm', r1, r2, r3, r4, r7, r8⟩
    · exact Or.inl ⟨a', b', C', K', v', c', mx', mm', r1, r2, r3, r4, r5, by omega, s7.tr r7, s8.tr r8 (by omega)⟩
    · exact Or.inr ⟨mx', mm', r1, r2, r3, r4, s7.tr r7, s8.tr r8 (by omega)⟩
  · obtain ⟨w', pl, d1, d2, d3, d4, d5, d6, d7⟩ := s3
    rw [s1, bq, s2, bq, show FU = 19999 + 1 from rfl, X7_readTerm_b8, X12_readTerm_b5, m_eats_d d6 d1 d2, bq, K0, if_pos rfl, if_pos rfl]
    refine Or.inr ⟨mx2, mm2, ?_, rfl, ⟨w', pl, d1, d2, d3, d4, d5, d6, d7⟩, s4, s7, s8⟩
    split <;> rfl
theorem both_loop {tb : Nat → Nat} {L lw h h2 deep : Nat} {fa : Int32 → Mem → Option (Int32 × Mem)} {ga : Int32 → Mem → Option (Unit × Mem)} (hL : L ≤ 900) (htb : ∀ i, i < L → tb i < 256) (hw : lw = 12 ∨ lw = 14) (hh : h2 + 1 ≤ h) (h2' : 2 ≤ h) (S : Sim tb L lw true h2 deep fa ga) : ∀ n n2 i a b C K v f cd c mx mm, L - a < n → L - a < n2 → i ≤ a → TL tb L a b C K v mx mm → LWs lw f (cd ++ c) mx mm → Typ c true h → f + cd.length + c.length ≤ a → Oc tb L lw true h f cd a c.length (f + cd.length) mx mm (X7_readBoth_b8 fa n (nI deep) (nI 1) (nI i) mx) (X12_readBoth_b5 ga n2 (nI deep) mm) := by
  intro n
  induction n with
  | zero => intro n2 i a b C K v f cd c mx mm h; omega
  | succ n ih =>
    intro n2 i a b C K v f cd c mx mm hn hn2 hi ht hl hty hb
    match n2, hn2 with
    | n2 + 1, hn2 =>
    have haL := ht.aL
    have w := ht.1.2.2.2.1.w
    have s := ht.1.2.2.2.1.s
    have hlen : (cd ++ c).length = cd.length + c.length := List.length_append
    rw [X7_readBoth_b8, X12_readBoth_b5, K900, jlt_f (by omega) (by omega), K0, jeq_f (by omega) (by omega) (by omega), K1]
    have cw : X7_isWord 17 mx = _ := ht.cw hL htb (n := 11) (by omega)
    rw [cw, bq, show (11 : Int32) = nI 11 by decide]
    by_cases hK : K = 11
    · obtain ⟨a1, b1, C1, K1', v1, mx1, mm1, n1, n2', n3, n4, n5, n6, n7⟩ := ht.et hL htb (k := 11) (by omega) (by omega) hK
      have ht24 := ht.1.2.2.1 (by omega)
      have haL2 := ht.1.2.1
      rw [n4, bq, if_neg (show ¬ nI 1 = nI 0 by decide), if_pos hK, if_neg (show ¬ nI 1 = nI 0 by decide), n2', bq]
      rcases S a1 b1 C1 K1' v1 f (cd ++ c) mx1 mm1 n5 (hl.g hw n6 n7) (by omega) with ⟨a2, b2, C2, K2', v2, c2, mx2, mm2, s1, s2, s3, s4, s5, s6, s7, s8⟩ | ⟨mx2, mm2, s1, s2, s3, s4, s7, s8⟩
      · have hlen2 : (cd ++ c ++ c2).length = cd.length + c.length + c2.length := by rw [List.length_append, hlen]
        have haL3 := s3.aL
        obtain ⟨mx3, mm3, t1, t2, t3, t4, t5, t6⟩ := adds (u := 3006) (w := -15) hw s3 s4 (by omega) (by decide)
        rw [s1, bq, s4.1, (okw2 hw).1, chk_tt rfl, lq, (okw2 hw).2, t1, bq, s2, bq, show (3006 : Int32) = nI 3006 by decide, t2, bq, nadd]
        have eq : cd ++ c ++ c2 ++ [3006] = cd ++ (c ++ c2 ++ [3006]) := by simp [List.append_assoc]
        rw [eq] at t4
        have hlen3 : (c ++ c2 ++ [3006]).length = c.length + c2.length + 1 := by simp [List.length_append]; omega
        have fx : FCx lw mx mx3 := (n6.x.tr s7).tr t5
        have fm : FMx (f + cd.length) mm mm3 := (FMx.tr (n7.x (N := f + cd.length)) s8 (by omega)).tr t6 (by omega)
        rcases ih n2 (i + 1) a2 b2 C2 K2' v2 f cd (c ++ c2 ++ [3006]) mx3 mm3 (by omega) (by omega) (by omega) t3 t4 (hty.log s5 hh h2' (by omega)) (by omega) with ⟨a', b', C', K', v', c', mx', mm', r1, r2, r3, r4, r5, r6, r7, r8⟩ | ⟨mx', mm', r1, r2, r3, r4, r7, r8⟩
        · exact Or.inl ⟨a', b', C', K', v', c', mx', mm', r1, r2, r3, r4, r5, by omega, fx.tr r7, fm.tr r8 (by omega)⟩
        · exact Or.inr ⟨mx', mm', r1, r2, r3, r4, fx.tr r7, fm.tr r8 (by omega)⟩
      · obtain ⟨mx3, t1, t2, t3, t4⟩ := addd (w := -15) hw s3 s4
        obtain ⟨w', pl, d1, d2, d3, d4, d5, d6, d7⟩ := s3
        rw [s1, bq, s4.1, (okw2 hw).1, chk_tt rfl, lq, (okw2 hw).2, t1, bq, s2, bq, show (3006 : Int32) = nI 3006 by decide, m_codes_d d6 d1 d2, bq, nadd]
        obtain ⟨nn, hnn⟩ : ∃ nn, n = nn + 1 := ⟨n - 1, by omega⟩
        obtain ⟨nn2, hnn2⟩ : ∃ nn2, n2 = nn2 + 1 := ⟨n2 - 1, by omega⟩
        rw [hnn, hnn2, X7_readBoth_b8, X12_readBoth_b5, m_eats_d d6 d1 d2, bq, K0, if_pos rfl, if_pos rfl]
        refine Or.inr ⟨mx3, mm2, ?_, rfl, t2, t3, (n6.x.tr s7).tr t4, FMx.tr (n7.x (N := f + cd.length)) s8 (by omega)⟩
        split <;> rfl
    · rw [ht.en (by omega) hK, bq, if_pos rfl, if_neg hK, if_pos rfl]
      exact Or.inl ⟨a, b, C, K, v, c, mx, mm, rfl, rfl, ht, hl, hty, Nat.le_refl _, FCx.rf, FMx.rf⟩
theorem both_sim {tb : Nat → Nat} {L lw h h2 deep : Nat} {fa : Int32 → Mem → Option (Int32 × Mem)} {ga : Int32 → Mem → Option (Unit × Mem)} (hL : L ≤ 900) (htb : ∀ i, i < L → tb i < 256) (hw : lw = 12 ∨ lw = 14) (hh : h2 + 1 ≤ h) (h2' : 2 ≤ h) (S : Sim tb L lw true h2 deep fa ga) : Sim tb L lw true h deep (X7_readBoth fa) (X12_readBoth ga) := by
  intro a b C K v f cd mx mm ht hl hb
  rw [X7_readBoth, X12_readBoth]
  rcases S a b C K v f cd mx mm ht hl hb with ⟨a2, b2, C2, K2', v2, c2, mx2, mm2, s1, s2, s3, s4, s5, s6, s7, s8⟩ | ⟨mx2, mm2, s1, s2, s3, s4, s7, s8⟩
  · rw [s1, bq, s2, bq, K0]
    rcases both_loop hL htb hw hh h2' S FU FU 0 a2 b2 C2 K2' v2 f cd c2 mx2 mm2 (by unfold FU; omega) (by unfold FU; omega) (by omega) s3 s4 (s5.mono (by omega)) (by omega) with ⟨a', b', C', K', v', c', mx', mm', r1, r2, r3, r4, r5, r6, r7, r8⟩ | ⟨mx', mm', r1, r2, r3, r4, r7, r8⟩
    · exact Or.inl ⟨a', b', C', K', v', c', mx', mm', r1, r2, r3, r4, r5, by omega, s7.tr r7, s8.tr r8 (by omega)⟩
    · exact Or.inr ⟨mx', mm', r1, r2, r3, r4, s7.tr r7, s8.tr r8 (by omega)⟩
  · obtain ⟨w', pl, d1, d2, d3, d4, d5, d6, d7⟩ := s3
    rw [s1, bq, s2, bq, show FU = 19999 + 1 from rfl, X7_readBoth_b8, X12_readBoth_b5, m_eats_d d6 d1 d2, bq, K0, if_pos rfl, if_pos rfl]
    refine Or.inr ⟨mx2, mm2, ?_, rfl, ⟨w', pl, d1, d2, d3, d4, d5, d6, d7⟩, s4, s7, s8⟩
    split <;> rfl
theorem truth_loop {tb : Nat → Nat} {L lw h h2 deep : Nat} {fa : Int32 → Mem → Option (Int32 × Mem)} {ga : Int32 → Mem → Option (Unit × Mem)} (hL : L ≤ 900) (htb : ∀ i, i < L → tb i < 256) (hw : lw = 12 ∨ lw = 14) (hh : h2 + 1 ≤ h) (h2' : 2 ≤ h) (S : Sim tb L lw true h2 deep fa ga) : ∀ n n2 i a b C K v f cd c mx mm, L - a < n → L - a < n2 → i ≤ a → TL tb L a b C K v mx mm → LWs lw f (cd ++ c) mx mm → Typ c true h → f + cd.length + c.length ≤ a → Oc tb L lw true h f cd a c.length (f + cd.length) mx mm (X7_readTruth_b8 fa n (nI deep) (nI 1) (nI i) mx) (X12_readTruth_b5 ga n2 (nI deep) mm) := by
  intro n
  induction n with
  | zero => intro n2 i a b C K v f cd c mx mm h; omega
  | succ n ih =>
    intro n2 i a b C K v f cd c mx mm hn hn2 hi ht hl hty hb
    match n2, hn2 with
    | n2 + 1, hn2 =>
    have haL := ht.aL
    have w := ht.1.2.2.2.1.w
    have s := ht.1.2.2.2.1.s
    have hlen : (cd ++ c).length = cd.length + c.length := List.length_append
    rw [X7_readTruth_b8, X12_readTruth_b5, K900, jlt_f (by omega) (by omega), K0, jeq_f (by omega) (by omega) (by omega), K1]
    have cw : X7_isWord 18 mx = _ := ht.cw hL htb (n := 10) (by omega)
    rw [cw, bq, show (10 : Int32) = nI 10 by decide]
    by_cases hK : K = 10
    · obtain ⟨a1, b1, C1, K1', v1, mx1, mm1, n1, n2', n3, n4, n5, n6, n7⟩ := ht.et hL htb (k := 10) (by omega) (by omega) hK
      have ht24 := ht.1.2.2.1 (by omega)
      have haL2 := ht.1.2.1
      rw [n4, bq, if_neg (show ¬ nI 1 = nI 0 by decide), if_pos hK, if_neg (show ¬ nI 1 = nI 0 by decide), n2', bq]
      rcases S a1 b1 C1 K1' v1 f (cd ++ c) mx1 mm1 n5 (hl.g hw n6 n7) (by omega) with ⟨a2, b2, C2, K2', v2, c2, mx2, mm2, s1, s2, s3, s4, s5, s6, s7, s8⟩ | ⟨mx2, mm2, s1, s2, s3, s4, s7, s8⟩
      · have hlen2 : (cd ++ c ++ c2).length = cd.length + c.length + c2.length := by rw [List.length_append, hlen]
        have haL3 := s3.aL
        obtain ⟨mx3, mm3, t1, t2, t3, t4, t5, t6⟩ := adds (u := 3007) (w := -16) hw s3 s4 (by omega) (by decide)
        rw [s1, bq, s4.1, (okw2 hw).1, chk_tt rfl, lq, (okw2 hw).2, t1, bq, s2, bq, show (3007 : Int32) = nI 3007 by decide, t2, bq, nadd]
        have eq : cd ++ c ++ c2 ++ [3007] = cd ++ (c ++ c2 ++ [3007]) := by simp [List.append_assoc]
        rw [eq] at t4
        have hlen3 : (c ++ c2 ++ [3007]).length = c.length + c2.length + 1 := by simp [List.length_append]; omega
        have fx : FCx lw mx mx3 := (n6.x.tr s7).tr t5
        have fm : FMx (f + cd.length) mm mm3 := (FMx.tr (n7.x (N := f + cd.length)) s8 (by omega)).tr t6 (by omega)
        rcases ih n2 (i + 1) a2 b2 C2 K2' v2 f cd (c ++ c2 ++ [3007]) mx3 mm3 (by omega) (by omega) (by omega) t3 t4 (hty.log s5 hh h2' (by omega)) (by omega) with ⟨a', b', C', K', v', c', mx', mm', r1, r2, r3, r4, r5, r6, r7, r8⟩ | ⟨mx', mm', r1, r2, r3, r4, r7, r8⟩
        · exact Or.inl ⟨a', b', C', K', v', c', mx', mm', r1, r2, r3, r4, r5, by omega, fx.tr r7, fm.tr r8 (by omega)⟩
        · exact Or.inr ⟨mx', mm', r1, r2, r3, r4, fx.tr r7, fm.tr r8 (by omega)⟩
      · obtain ⟨mx3, t1, t2, t3, t4⟩ := addd (w := -16) hw s3 s4
        obtain ⟨w', pl, d1, d2, d3, d4, d5, d6, d7⟩ := s3
        rw [s1, bq, s4.1, (okw2 hw).1, chk_tt rfl, lq, (okw2 hw).2, t1, bq, s2, bq, show (3007 : Int32) = nI 3007 by decide, m_codes_d d6 d1 d2, bq, nadd]
        obtain ⟨nn, hnn⟩ : ∃ nn, n = nn + 1 := ⟨n - 1, by omega⟩
        obtain ⟨nn2, hnn2⟩ : ∃ nn2, n2 = nn2 + 1 := ⟨n2 - 1, by omega⟩
        rw [hnn, hnn2, X7_readTruth_b8, X12_readTruth_b5, m_eats_d d6 d1 d2, bq, K0, if_pos rfl, if_pos rfl]
        refine Or.inr ⟨mx3, mm2, ?_, rfl, t2, t3, (n6.x.tr s7).tr t4, FMx.tr (n7.x (N := f + cd.length)) s8 (by omega)⟩
        split <;> rfl
    · rw [ht.en (by omega) hK, bq, if_pos rfl, if_neg hK, if_pos rfl]
      exact Or.inl ⟨a, b, C, K, v, c, mx, mm, rfl, rfl, ht, hl, hty, Nat.le_refl _, FCx.rf, FMx.rf⟩
theorem truth_sim {tb : Nat → Nat} {L lw h h2 deep : Nat} {fa : Int32 → Mem → Option (Int32 × Mem)} {ga : Int32 → Mem → Option (Unit × Mem)} (hL : L ≤ 900) (htb : ∀ i, i < L → tb i < 256) (hw : lw = 12 ∨ lw = 14) (hh : h2 + 1 ≤ h) (h2' : 2 ≤ h) (S : Sim tb L lw true h2 deep fa ga) : Sim tb L lw true h deep (X7_readTruth fa) (X12_readTruth ga) := by
  intro a b C K v f cd mx mm ht hl hb
  rw [X7_readTruth, X12_readTruth]
  rcases S a b C K v f cd mx mm ht hl hb with ⟨a2, b2, C2, K2', v2, c2, mx2, mm2, s1, s2, s3, s4, s5, s6, s7, s8⟩ | ⟨mx2, mm2, s1, s2, s3, s4, s7, s8⟩
  · rw [s1, bq, s2, bq, K0]
    rcases truth_loop hL htb hw hh h2' S FU FU 0 a2 b2 C2 K2' v2 f cd c2 mx2 mm2 (by unfold FU; omega) (by unfold FU; omega) (by omega) s3 s4 (s5.mono (by omega)) (by omega) with ⟨a', b', C', K', v', c', mx', mm', r1, r2, r3, r4, r5, r6, r7, r8⟩ | ⟨mx', mm', r1, r2, r3, r4, r7, r8⟩
    · exact Or.inl ⟨a', b', C', K', v', c', mx', mm', r1, r2, r3, r4, r5, by omega, s7.tr r7, s8.tr r8 (by omega)⟩
    · exact Or.inr ⟨mx', mm', r1, r2, r3, r4, s7.tr r7, s8.tr r8 (by omega)⟩
  · obtain ⟨w', pl, d1, d2, d3, d4, d5, d6, d7⟩ := s3
    rw [s1, bq, s2, bq, show FU = 19999 + 1 from rfl, X7_readTruth_b8, X12_readTruth_b5, m_eats_d d6 d1 d2, bq, K0, if_pos rfl, if_pos rfl]
    refine Or.inr ⟨mx2, mm2, ?_, rfl, ⟨w', pl, d1, d2, d3, d4, d5, d6, d7⟩, s4, s7, s8⟩
    split <;> rfl
