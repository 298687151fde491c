/-! sums, atoms, units -/
section
variable {tb : Nat → Nat} {L lw : Nat}
theorem sum_loop {h h2 deep : Nat} {fa : Int32 → Mem → Option (Int32 × Mem)} {ga : Int32 → Mem → Option (Unit × Mem)} (hL : L ≤ 900) (htb : ∀ i, i < L → tb i < 256) (hw : lw = 12 ∨ lw = 14) (hh : h2 + 1 ≤ h) (h2' : 2 ≤ h) (S : Sim tb L lw false h2 deep fa ga) : ∀ n n2 i a b C K v f cd c mx mm, L - a < n → L - a < n2 → i ≤ a → TL tb L a b C K v mx mm → LWs lw f (cd ++ c) mx mm → Typ c false h → f + cd.length + c.length ≤ a → Oc tb L lw false h f cd a c.length (f + cd.length) mx mm (X7_readSum_b8 fa n (nI deep) (nI 1) (nI i) mx) (X12_readSum_b5 ga n2 (nI deep) mm) := by
  intro n
  induction n with
  | zero => intro n2 i a b C K v f cd c mx mm h; omega
  | succ n ih =>
    intro n2 i a b C K v f cd c mx mm hn hn2 hi ht hl hty hb
    match n2, hn2 with
    | n2 + 1, hn2 =>
    have haL := ht.aL
    have w := ht.1.2.2.2.1.w.1
    have w1 := ht.1.2.2.2.1.w.2.1
    have s43 := ht.1.2.2.2.1.s.2.2.2.2.2.1
    have s45 := ht.1.2.2.2.1.s.2.2.2.2.2.2.1
    have hlen : (cd ++ c).length = cd.length + c.length := List.length_append
    have go : ∀ (code : Nat) (W : Int32), (code = 3000 ∨ code = 3001) → W = ccode code → K ≠ 24 → Oc tb L lw false h f cd a c.length (f + cd.length) mx mm (X7_readSum_b53 fa (X7_readSum_b8 fa n) (nI deep) (nI i) W mx) (X12_readSum_b41 ga (X12_readSum_b5 ga n2) (nI deep) (nI code) mm) := by
      intro code W hcode hW hK
      obtain ⟨a1, b1, C1, K1', v1, mx1, mm1, n1, n2', n3, n5, n6, n7⟩ := ht.nx hL htb
      have ht24 := ht.1.2.2.1 hK
      have haL2 := ht.1.2.1
      rw [X7_readSum_b53, X12_readSum_b41, n2', bq, n3, bq]
      rcases S a1 b1 C1 K1' v1 f (cd ++ c) mx1 mm1 n5 (hl.g hw n6.g n7.g) (by omega) with ⟨a2, b2, C2, K2', v2, c2, mx2, mm2, s1, s2, s3, s4, s5, s6, s7, s8⟩ | ⟨mx2, mm2, s1, s2, s3, s4, s7, s8⟩
      · have hlen2 : (cd ++ c ++ c2).length = cd.length + c.length + c2.length := by rw [List.length_append, hlen]
        have haL3 := s3.aL
        obtain ⟨mx3, mm3, t1, t2, t3, t4, t5, t6⟩ := adds (u := code) (w := W) hw s3 s4 (by omega) hW
        rw [s1, bq, s4.1, (okw2 hw).1, chk_tt rfl, lq, (okw2 hw).2, t1, bq, s2, bq, t2, bq, K1, nadd]
        have eq : cd ++ c ++ c2 ++ [code] = cd ++ (c ++ c2 ++ [code]) := by simp [List.append_assoc]
        rw [eq] at t4
        have hlen3 : (c ++ c2 ++ [code]).length = c.length + c2.length + 1 := by simp [List.length_append]; omega
        have fx : FCx lw mx mx3 := (n6.g.x.tr s7).tr t5
        have fm : FMx (f + cd.length) mm mm3 := (FMx.tr (n7.g.x (N := f + cd.length)) s8 (by omega)).tr t6 (by omega)
        rcases ih n2 (i + 1) a2 b2 C2 K2' v2 f cd (c ++ c2 ++ [code]) mx3 mm3 (by omega) (by omega) (by omega) t3 t4 (hty.bin s5 hh h2' (by omega)) (by omega) with ⟨a', b', C', K', v', c', mx', mm', r1, r2, r3, r4, r5, r6, r7, r8⟩ | ⟨mx', mm', r1, r2, r3, r4, r7, r8⟩
        · exact Or.inl ⟨a', b', C', K', v', c', mx', mm', r1, r2, r3, r4, r5, by omega, fx.tr r7, fm.tr r8 (by omega)⟩
        · exact Or.inr ⟨mx', mm', r1, r2, r3, r4, fx.tr r7, fm.tr r8 (by omega)⟩
      · obtain ⟨mx3, t1, t2, t3, t4⟩ := addd (w := W) hw s3 s4
        obtain ⟨w', pl, d1, d2, d3, d4, d5, d6, d7⟩ := s3
        rw [s1, bq, s4.1, (okw2 hw).1, chk_tt rfl, lq, (okw2 hw).2, t1, bq, s2, bq, m_codes_d d6 d1 d2, bq, K1, nadd]
        obtain ⟨nn, hnn⟩ : ∃ nn, n = nn + 1 := ⟨n - 1, by omega⟩
        obtain ⟨nn2, hnn2⟩ : ∃ nn2, n2 = nn2 + 1 := ⟨n2 - 1, by omega⟩
        rw [hnn, hnn2, X7_readSum_b8, X12_readSum_b5, m_is_d d6 d1 d2, bq, K0, if_pos rfl, if_pos rfl, m_is_d d6 d1 d2, bq, if_pos rfl]
        refine Or.inr ⟨mx3, mm2, ?_, rfl, t2, t3, (n6.g.x.tr s7).tr t4, FMx.tr (n7.g.x (N := f + cd.length)) s8 (by omega)⟩
        split <;> rfl
    have m32 : X12_is 32 mm = some (nI (if K = 32 then 1 else 0), mm) := ht.mi (k := 32) (by omega)
    have m33 : X12_is 33 mm = some (nI (if K = 33 then 1 else 0), mm) := ht.mi (k := 33) (by omega)
    rw [X7_readSum_b8, X12_readSum_b5, K900, jlt_f (by omega) (by omega), K0, jeq_f (by omega) (by omega) (by omega), show (43 : Int32) = nI 43 by decide, show (45 : Int32) = nI 45 by decide, ht.cs (by omega), ht.cs (by omega), m32, bq, X7_readSum_b37, show (43 : Int32) = nI 43 by decide, ht.cs (by omega)]
    by_cases h32 : K = 32
    · rw [if_pos (show C = 43 by omega), if_pos (show C = 43 by omega), if_pos h32, if_neg (show ¬ nI 1 = nI 0 by decide), X12_readSum_b23, ht.2.2.1.2.2.2.1, K32, if_pos (by rw [h32]), K3000]
      exact go 3000 (-8) (by omega) (by decide) (by omega)
    · rw [if_neg (show ¬ C = 43 by omega), if_neg (show ¬ C = 43 by omega), if_neg h32, if_pos rfl, m33, bq]
      by_cases h33 : K = 33
      · rw [if_pos (show C = 45 by omega), if_pos h33, if_neg (show ¬ nI 1 = nI 0 by decide), X12_readSum_b23, ht.2.2.1.2.2.2.1, K32, jeq_f h32 (by omega) (by omega), K3001]
        exact go 3001 (-9) (by omega) (by decide) (by omega)
      · rw [if_neg (show ¬ C = 45 by omega), if_neg h33, if_pos rfl]
        exact Or.inl ⟨a, b, C, K, v, c, mx, mm, rfl, rfl, ht, hl, hty, Nat.le_refl _, FCx.rf, FMx.rf⟩
theorem sum_sim {h h2 deep : Nat} {fa : Int32 → Mem → Option (Int32 × Mem)} {ga : Int32 → Mem → Option (Unit × Mem)} (hL : L ≤ 900) (htb : ∀ i, i < L → tb i < 256) (hw : lw = 12 ∨ lw = 14) (hh : h2 + 1 ≤ h) (h2' : 2 ≤ h) (S : Sim tb L lw false h2 deep fa ga) : Sim tb L lw false h deep (X7_readSum fa) (X12_readSum ga) := by
  intro a b C K v f cd mx mm ht hl hb
  rw [X7_readSum, X12_readSum]
  rcases S a b C K v f cd mx mm ht hl hb with ⟨a2, b2, C2, K2', v2, c2, mx2, mm2, s1, s2, s3, s4, s5, s6, s7, s8⟩ | ⟨mx2, mm2, s1, s2, s3, s4, s7, s8⟩
  · rw [s1, bq, s2, bq, K0]
    rcases sum_loop hL htb hw hh h2' S FU FU 0 a2 b2 C2 K2' v2 f cd c2 mx2 mm2 (by unfold FU; omega) (by unfold FU; omega) (by omega) s3 s4 (s5.mono (by omega)) (by omega) with ⟨a', b', C', K', v', c', mx', mm', r1, r2, r3, r4, r5, r6, r7, r8⟩ | ⟨mx', mm', r1, r2, r3, r4, r7, r8⟩
    · exact Or.inl ⟨a', b', C', K', v', c', mx', mm', r1, r2, r3, r4, r5, by omega, s7.tr r7, s8.tr r8 (by omega)⟩
    · exact Or.inr ⟨mx', mm', r1, r2, r3, r4, s7.tr r7, s8.tr r8 (by omega)⟩
  · obtain ⟨w', pl, d1, d2, d3, d4, d5, d6, d7⟩ := s3
    rw [s1, bq, s2, bq, show FU = 19999 + 1 from rfl, X7_readSum_b8, X12_readSum_b5, m_is_d d6 d1 d2, bq, K0, if_pos rfl, if_pos rfl, m_is_d d6 d1 d2, bq, if_pos rfl]
    refine Or.inr ⟨mx2, mm2, ?_, rfl, ⟨w', pl, d1, d2, d3, d4, d5, d6, d7⟩, s4, s7, s8⟩
    split <;> rfl
theorem c_termWord {a b C K v : Nat} {mx mm : Mem} (hL : L ≤ 900) (htb : ∀ i, i < L → tb i < 256) (h : TL tb L a b C K v mx mm) : X7_termWord mx = some (if 13 ≤ K ∧ K ≤ 19 then nI (K - 13) else NO, mx) := by
  have w0 : X7_isWord 8 mx = some (nI (if K = 13 then 1 else 0), mx) := h.cw hL htb (n := 13) (by omega)
  have w1 : X7_isWord 9 mx = some (nI (if K = 14 then 1 else 0), mx) := h.cw hL htb (n := 14) (by omega)
  have w2 : X7_isWord 10 mx = some (nI (if K = 15 then 1 else 0), mx) := h.cw hL htb (n := 15) (by omega)
  have w3 : X7_isWord 11 mx = some (nI (if K = 16 then 1 else 0), mx) := h.cw hL htb (n := 16) (by omega)
  have w4 : X7_isWord 12 mx = some (nI (if K = 17 then 1 else 0), mx) := h.cw hL htb (n := 17) (by omega)
  have w5 : X7_isWord 13 mx = some (nI (if K = 18 then 1 else 0), mx) := h.cw hL htb (n := 18) (by omega)
  have w6 : X7_isWord 14 mx = some (nI (if K = 19 then 1 else 0), mx) := h.cw hL htb (n := 19) (by omega)
  have zi : ∀ (P : Prop) [Decidable P] {β : Type} (x y : β), (if nI (if P then 1 else 0) = nI 0 then x else y) = if P then y else x := by
    intro P _ β x y
    by_cases hP : P
    · rw [if_pos hP, if_pos hP, if_neg (by decide)]
    · rw [if_neg hP, if_neg hP, if_pos rfl]
  rw [X7_termWord, kn1, K0, w0, bq, zi]
  by_cases e : K = 13
  · subst e; rfl
  rw [if_neg e, w1, bq, zi]
  by_cases e : K = 14
  · subst e; rfl
  rw [if_neg e, w2, bq, zi]
  by_cases e : K = 15
  · subst e; rfl
  rw [if_neg e, w3, bq, zi]
  by_cases e : K = 16
  · subst e; rfl
  rw [if_neg e, w4, bq, zi]
  by_cases e : K = 17
  · subst e; rfl
  rw [if_neg e, w5, bq, zi]
  by_cases e : K = 18
  · subst e; rfl
  rw [if_neg e, w6, bq, zi]
  by_cases e : K = 19
  · subst e; rfl
  rw [if_neg e, if_neg (by omega)]
theorem atom_sim {h h2 deep : Nat} {fs : Int32 → Mem → Option (Int32 × Mem)} {gs : Int32 → Mem → Option (Unit × Mem)} (hL : L ≤ 900) (htb : ∀ i, i < L → tb i < 256) (hw : lw = 12 ∨ lw = 14) (hd : deep ≤ 6) (hh : deep < 6 → h2 ≤ h) (S : deep < 6 → Sim tb L lw false h2 (deep + 1) fs gs) : Sim tb L lw false h deep (X7_readAtom fs) (X12_readAtom gs) := by
  intro a b C K v f cd mx mm ht hl hb
  have haL := ht.aL
  have w := ht.1.2.2.2.1.w.1
  have w1 := ht.1.2.2.2.1.w.2.1
  have s2 := ht.1.2.2.2.1.s.2.1
  have s40 := ht.1.2.2.2.1.s.2.2.2.2.2.2.2.2.1
  have m23 : X12_is 23 mm = some (nI (if K = 23 then 1 else 0), mm) := ht.mi (k := 23) (by omega)
  have m35 : X12_is 35 mm = some (nI (if K = 35 then 1 else 0), mm) := ht.mi (k := 35) (by omega)
  rw [X7_readAtom, X12_readAtom, show (40 : Int32) = nI 40 by decide, K2, ht.cs (by omega), ht.cs (by omega), m23, bq, K0, ht.2.2.2.2, if_pos rfl, ht.2.2.1.2.2.2.1]
  by_cases h23 : K = 23
  · have ab := ht.1.2.2.1 (by omega)
    have bL := ht.1.2.1
    obtain ⟨mxA, mmA, t1, t2, t3, t4, t5, t6⟩ := adds (u := v) (w := ccode v) hw ht hl (by omega) rfl
    have htA : TL tb L a b C K v mx mmA := ⟨ht.1, ht.2.1, t3.2.2.1, ht.2.2.2.1, t3.2.2.2.2⟩
    rcases htA.num hL htb (lo := 0) (H := 1000) (by omega) (by omega) with ⟨a1, b1, C1, K1', v1, mx1, mm1, n0, n1, n2, n3, n4, n5, n6, n7, n8, n9, n10⟩ | ⟨mx1, mm1, r, n1, n2, n3, n4, n5, n6⟩
    · have lc : LawC mx1 lw cd := ⟨by rw [(n8.1 lw (by omega) 1).1]; exact hl.2.1.1, hl.2.1.2.1, fun i hi => by rw [(n8.1 (lw + 1) (by omega) i).1]; exact hl.2.1.2.2 i hi⟩
      obtain ⟨mx2, e1, e2, e3⟩ := c_add (w := ccode v) (v := v) rfl lc (by omega)
      have hcc : ccode v = nI v := if_pos n3
      rw [hcc] at e1
      rw [if_neg (show ¬ C = 40 by omega), if_pos (show C = 2 by omega), hl.1, (okw2 hw).1, chk_tt rfl, lq, (okw2 hw).2, show (999 : Int32) = nI 1000 - nI 1 by decide, n5, bq, e1, bq, if_pos h23, if_neg (show ¬ nI 1 = nI 0 by decide), ht.2.2.1.2.2.2.2 h23, t2, bq, n10, bq, K1]
      have gx : ∀ c, c = 1 ∨ c = 39 → ∀ j, gi mx2 c j = gi mx1 c j := fun c hc j => (e3 c (by unfold s01; omega) j).1
      refine Or.inl ⟨a1, b1, C1, K1', v1, [v], mx2, mm1, rfl, rfl, n7.fr gx (fun c _ j => rfl), ⟨by rw [gx 39 (by omega), n8.2 3 (by omega), hl.1], e2, by rw [(n9.1 4 (by omega) _).1]; exact t4.2.2.1, fun i hi => by rw [(n9.1 4 (by omega) _).1]; exact t4.2.2.2 i hi⟩, Typ.num (by omega) (by omega), by show a + 1 ≤ a1 + 0; omega, n8.x.tr ⟨e3.mono (fun c q => by unfold s01 at q; omega), fun j _ => gx 39 (by omega) j⟩, t6.tr n9.x (Nat.le_refl _)⟩
    · have hv := htA.1.2.2.2.2.2 (show C = 2 by omega)
      have hv3 : v < 1000 := by
        rw [hv.1]
        exact vl_1000 hv.2.1 (fun i hi => hv.2.2 (a + i) (by omega) (by omega))
      exact absurd ⟨Nat.zero_le _, hv3⟩ (n6 h23)
  · rw [if_neg h23, if_pos rfl]
    by_cases h35 : K = 35
    · rw [if_pos (show C = 40 by omega), wl_f (l := 13) (k := 19) (by decide) (by decide) (by omega) (by omega) (by omega) (by omega), bq, if_pos rfl, X12_readAtom_b70, m35, bq, if_pos h35, K0, if_neg (show ¬ nI 1 = nI 0 by decide)]
      rcases ht.dp hL htb hd (by omega) (by omega) with ⟨a1, b1, C1, K1', v1, mx1, mm1, d0, n0, n1, n2, n3, n4, n5⟩ | ⟨mx1, mm1, n1, n2, n3, n4, n5⟩
      · rw [n1, bq, if_neg (show ¬ nI 1 = nI 0 by decide), n2, bq, if_neg (show ¬ nI 1 = nI 0 by decide), K1, nadd]
        rcases S d0 a1 b1 C1 K1' v1 f cd mx1 mm1 n3 (hl.g hw n4 n5) (by omega) with ⟨a2, b2, C2, K2', v2, c2, mx2, mm2, s1, s2, s3, s4, s5, s6, s7, s8⟩ | ⟨mx2, mm2, s1, s2, s3, s4, s7, s8⟩
        · have ss := s3.1.2.2.2.1.s.2.2.2.2.2.2.2.2.2.1
          rw [s1, bq, if_neg (show ¬ nI 1 = nI 0 by decide), s2, bq, show (41 : Int32) = nI 41 by decide, show (36 : Int32) = nI 36 by decide]
          have fx := (n4.x (lw := lw)).tr s7
          have fm := FMx.tr (n5.x (N := f + cd.length)) s8 (Nat.le_refl _)
          rcases s3.ps hL htb (sg := 41) (k := 36) (by omega) (by omega) ss (by omega) with ⟨a3, b3, C3, K3', v3, mx3, mm3, p0, p1, p2, p3, p4, p5, p6⟩ | ⟨mx3, mm3, p1, p2, p3, p4, p5, p6, p7⟩
          · rw [p2, bq, if_neg (show ¬ nI 1 = nI 0 by decide), p3, bq, if_neg (show ¬ nI 1 = nI 0 by decide)]
            exact Or.inl ⟨a3, b3, C3, K3', v3, c2, mx3, mm3, rfl, rfl, p4, s4.g hw p5 p6, s5.mono (hh d0), by omega, fx.tr p5.x, fm.tr p6.x (Nat.le_refl _)⟩
          · rw [p2, bq, if_pos rfl, p3, bq, if_pos rfl, K2, p4, bq]
            exact Or.inr ⟨mx3, mm3, rfl, rfl, p5, s4.dl hw p6, fx.tr p6.x, fm.tr p7.x (Nat.le_refl _)⟩
        · have hdd := s3
          obtain ⟨w', pl, d1, d2, d3, d4, d5, d6, d7⟩ := s3
          rw [s1, bq, if_pos rfl, s2, bq, m_eats_d d6 d1 d2, bq, if_pos rfl, m_fails_d d6 d1 d2, bq]
          exact Or.inr ⟨mx2, mm2, rfl, rfl, hdd, s4, n4.x.tr s7, FMx.tr (n5.x (N := f + cd.length)) s8 (Nat.le_refl _)⟩
      · rw [n1, bq, if_pos rfl, n2, bq, if_pos rfl]
        exact Or.inr ⟨mx1, mm1, rfl, rfl, n3, hl.dl hw n4, n4.x, n5.x⟩
    · rw [if_neg (show ¬ C = 40 by omega), if_neg (show ¬ C = 2 by omega), c_termWord hL htb ht, bq, kn1]
      by_cases hk : 13 ≤ K ∧ K ≤ 19
      · have ab := ht.1.2.2.1 (by omega)
        have bL := ht.1.2.1
        have hcc : X4_ofTerm (nI (K - 13)) mx = some (ccode (1000 + (K - 13)), mx) := by
          rw [X4_ofTerm, ccode, if_neg (by omega), if_pos (by omega), show 1000 + (K - 13) - 1000 = K - 13 by omega]
        obtain ⟨mx1, mm1, t1, t2, t3, t4, t5, t6⟩ := adds (u := 1000 + (K - 13)) (w := ccode (1000 + (K - 13))) hw ht hl (by omega) rfl
        obtain ⟨a2, b2, C2, K2', v2, mx2, mm2, n1, n2, n3, n4, n5, n6⟩ := t3.nx hL htb
        rw [if_pos hk, jm_f (by omega), hl.1, (okw2 hw).1, chk_tt rfl, lq, (okw2 hw).2, hcc, bq, t1, bq, n2, bq, wl_t (l := 13) (k := 19) (by decide) (by decide) (by omega) (by omega) (by omega), bq, if_neg (show ¬ nI 1 = nI 0 by decide), K1000, ht.2.2.1.2.2.2.1, nadd, K13, nsub (by omega), show 1000 + K - 13 = 1000 + (K - 13) by omega, t2, bq, n3, bq, K1]
        exact Or.inl ⟨a2, b2, C2, K2', v2, [1000 + (K - 13)], mx2, mm2, rfl, rfl, n4, t4.g hw n5.g n6.g, Typ.num (by omega) (by omega), by show a + 1 ≤ a2 + 0; omega, t5.tr n5.g.x, t6.tr n6.g.x (Nat.le_refl _)⟩
      · obtain ⟨mx1, mm1, b1, b2, b3, b4, b5⟩ := ht.rf2 hL
        rw [if_neg hk, jm_t, b1, bq, wl_f (l := 13) (k := 19) (by decide) (by decide) hk (by omega) (by omega) (by omega), bq, if_pos rfl, X12_readAtom_b70, m35, bq, if_neg h35, K0, if_pos rfl, K2, b2, bq]
        exact Or.inr ⟨mx1, mm1, rfl, rfl, b3, hl.dl hw b4, b4.x, b5.x⟩
end
