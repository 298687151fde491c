/-! units, and the whole of a law -/
def DeadM (g : Int32 → Mem → Option (Unit × Mem)) : Prop := ∀ (x : Int32) (mm : Mem) (w : Nat), gi mm 0 11 = nI w → 1 ≤ w → w ≤ 4 → g x mm = some ((), mm)
theorem dead_atom (gs : Int32 → Mem → Option (Unit × Mem)) : DeadM (X12_readAtom gs) := by
  intro x mm w h h1 h2
  rw [X12_readAtom, m_is_d h h1 h2, bq, K0, if_pos rfl, h, jeq_f (by omega) (by omega) (by omega), X12_readAtom_b70, m_is_d h h1 h2, bq, K0, if_pos rfl, m_fails_d h h1 h2, bq]
theorem dead_term {g : Int32 → Mem → Option (Unit × Mem)} (hg : DeadM g) : DeadM (X12_readTerm g) := by
  intro x mm w h h1 h2
  rw [X12_readTerm, hg x mm w h h1 h2, bq, show FU = 19999 + 1 from rfl, X12_readTerm_b5, m_eats_d h h1 h2, bq, K0, if_pos rfl]
theorem dead_sum {g : Int32 → Mem → Option (Unit × Mem)} (hg : DeadM g) : DeadM (X12_readSum g) := by
  intro x mm w h h1 h2
  rw [X12_readSum, hg x mm w h h1 h2, bq, show FU = 19999 + 1 from rfl, X12_readSum_b5, m_is_d h h1 h2, bq, K0, if_pos rfl, m_is_d h h1 h2, bq, if_pos rfl]
section
variable {tb : Nat → Nat} {L lw : Nat}
theorem c_cmp {a b C K v : Nat} {mx mm : Mem} (h : TL tb L a b C K v mx mm) : X7_comparison mx = some (if K = 40 then -12 else if K = 39 then -11 else if K = 41 then -13 else nI 0, mx) := by
  have s61 := h.1.2.2.2.1.s.2.2.2.2.2.2.2.2.2.2.2.2.1
  have s60 := h.1.2.2.2.1.s.2.2.2.2.2.2.2.2.2.2.2.2.2.1
  have s62 := h.1.2.2.2.1.s.2.2.2.2.2.2.2.2.2.2.2.2.2.2
  rw [X7_comparison, show (60 : Int32) = nI 60 by decide, show (61 : Int32) = nI 61 by decide, show (62 : Int32) = nI 62 by decide, h.cs (by omega), h.cs (by omega), h.cs (by omega)]
  by_cases e1 : K = 40
  · rw [if_pos (s60.mpr e1), if_pos e1]
  · rw [if_neg (fun q => e1 (s60.mp q)), if_neg e1]
    by_cases e2 : K = 39
    · rw [if_pos (s61.mpr e2), if_pos e2]
    · rw [if_neg (fun q => e2 (s61.mp q)), if_neg e2]
      by_cases e3 : K = 41
      · rw [if_pos (s62.mpr e3), if_pos e3]
      · rw [if_neg (fun q => e3 (s62.mp q)), if_neg e3]
        rfl
theorem unit_sim {h hs hu ht2 deep : Nat} {ft fu fs : Int32 → Mem → Option (Int32 × Mem)} {gt gu gs : Int32 → Mem → Option (Unit × Mem)} (hL : L ≤ 900) (htb : ∀ i, i < L → tb i < 256) (hw : lw = 12 ∨ lw = 14) (hd : deep ≤ 6) (hh : hs + 1 ≤ h) (hh2 : deep < 6 → hu ≤ h) (hh3 : deep < 6 → ht2 ≤ h) (h2' : 2 ≤ h) (ST : deep < 6 → Sim tb L lw true ht2 (deep + 1) ft gt) (SU : deep < 6 → Sim tb L lw true hu (deep + 1) fu gu) (SS : Sim tb L lw false hs deep fs gs) (DS : DeadM gs) : Sim tb L lw true h deep (X7_readUnit ft fu fs) (X12_readUnit gt gu gs) := by
  intro a b C K v f cd mx mm ht hl hb
  have haL := ht.aL
  have w := ht.1.2.2.2.1.w.1
  have w1 := ht.1.2.2.2.1.w.2.1
  have s91 := ht.1.2.2.2.1.s.2.2.2.2.2.2.2.2.2.2.1
  have m12 : X12_is 12 mm = some (nI (if K = 12 then 1 else 0), mm) := ht.mi (k := 12) (by omega)
  have m37 : X12_is 37 mm = some (nI (if K = 37 then 1 else 0), mm) := ht.mi (k := 37) (by omega)
  have cw : X7_isWord 16 mx = some (nI (if K = 12 then 1 else 0), mx) := ht.cw hL htb (n := 12) (by omega)
  rw [X7_readUnit, X12_readUnit, cw, bq, m12, bq, K0]
  by_cases h12 : K = 12
  · rw [if_pos h12, if_neg (show ¬ nI 1 = nI 0 by decide), if_neg (show ¬ nI 1 = nI 0 by decide)]
    have ab := ht.1.2.2.1 (by omega)
    rcases ht.dp hL htb hd (by omega) (by omega) with ⟨a1, b1, C1, K1', v1, mx1, mm1, d0, n0, n1, n2, n3, n4, n5⟩ | ⟨mx1, mm1, n1, n2, n3, n4, n5⟩
    · rw [n1, bq, if_neg (show ¬ nI 1 = nI 0 by decide), n2, bq, if_neg (show ¬ nI 1 = nI 0 by decide), K1, nadd]
      rcases SU d0 a1 b1 C1 K1' v1 f cd mx1 mm1 n3 (hl.g hw n4 n5) (by omega) with ⟨a2, b2, C2, K2', v2, c2, mx2, mm2, s1, s2, s3, s4, s5, s6, s7, s8⟩ | ⟨mx2, mm2, s1, s2, s3, s4, s7, s8⟩
      · have haL3 := s3.aL
        have hlen : (cd ++ c2).length = cd.length + c2.length := List.length_append
        obtain ⟨mx3, mm3, t1, t2, t3, t4, t5, t6⟩ := adds (u := 3008) (w := -14) hw s3 s4 (by omega) (by decide)
        rw [s1, bq, if_neg (show ¬ nI 1 = nI 0 by decide), s4.1, (okw2 hw).1, chk_tt rfl, lq, (okw2 hw).2, t1, bq, s2, bq, K3008, t2, bq]
        rw [List.append_assoc] at t4
        have hlen3 : (c2 ++ [3008]).length = c2.length + 1 := by simp
        exact Or.inl ⟨a2, b2, C2, K2', v2, c2 ++ [3008], mx3, mm3, rfl, rfl, t3, t4, (s5.mono (hh2 d0)).nt (by omega), by omega, (n4.x.tr s7).tr t5, (FMx.tr (n5.x (N := f + cd.length)) s8 (Nat.le_refl _)).tr t6 (by omega)⟩
      · have hdd := s3
        obtain ⟨w', pl, d1, d2, d3, d4, d5, d6, d7⟩ := s3
        rw [s1, bq, if_pos rfl, s2, bq, m_codes_d d6 d1 d2, bq]
        exact Or.inr ⟨mx2, mm2, rfl, rfl, hdd, s4, n4.x.tr s7, FMx.tr (n5.x (N := f + cd.length)) s8 (Nat.le_refl _)⟩
    · rw [n1, bq, if_pos rfl, n2, bq, if_pos rfl]
      exact Or.inr ⟨mx1, mm1, rfl, rfl, n3, hl.dl hw n4, n4.x, n5.x⟩
  · rw [if_neg h12, if_pos rfl, if_pos rfl, show (91 : Int32) = nI 91 by decide, ht.cs (by omega), m37, bq]
    by_cases h37 : K = 37
    · rw [if_pos (s91.mpr h37), if_pos h37, if_neg (show ¬ nI 1 = nI 0 by decide)]
      have ab := ht.1.2.2.1 (by omega)
      rcases ht.dp hL htb hd (by omega) (by omega) with ⟨a1, b1, C1, K1', v1, mx1, mm1, d0, n0, n1, n2, n3, n4, n5⟩ | ⟨mx1, mm1, n1, n2, n3, n4, n5⟩
      · rw [n1, bq, if_neg (show ¬ nI 1 = nI 0 by decide), n2, bq, if_neg (show ¬ nI 1 = nI 0 by decide), K1, nadd]
        rcases ST d0 a1 b1 C1 K1' v1 f cd mx1 mm1 n3 (hl.g hw n4 n5) (by omega) with ⟨a2, b2, C2, K2', v2, c2, mx2, mm2, s1, s2, s3, s4, s5, s6, s7, s8⟩ | ⟨mx2, mm2, s1, s2, s3, s4, s7, s8⟩
        · have ss := s3.1.2.2.2.1.s.2.2.2.2.2.2.2.2.2.2.2.1
          rw [s1, bq, if_neg (show ¬ nI 1 = nI 0 by decide), s2, bq, show (93 : Int32) = nI 93 by decide, show (38 : Int32) = nI 38 by decide]
          have fx := (n4.x (lw := lw)).tr s7
          have fm := FMx.tr (n5.x (N := f + cd.length)) s8 (Nat.le_refl _)
          rcases s3.ps hL htb (sg := 93) (k := 38) (by omega) (by omega) ss (by omega) with ⟨a3, b3, C3, K3', v3, mx3, mm3, p0, p1, p2, p3, p4, p5, p6⟩ | ⟨mx3, mm3, p1, p2, p3, p4, p5, p6, p7⟩
          · rw [p2, bq, if_neg (show ¬ nI 1 = nI 0 by decide), p3, bq, if_neg (show ¬ nI 1 = nI 0 by decide)]
            exact Or.inl ⟨a3, b3, C3, K3', v3, c2, mx3, mm3, rfl, rfl, p4, s4.g hw p5 p6, s5.mono (hh3 d0), by omega, fx.tr p5.x, fm.tr p6.x (Nat.le_refl _)⟩
          · rw [p2, bq, if_pos rfl, p3, bq, if_pos rfl, K2, p4, bq]
            exact Or.inr ⟨mx3, mm3, rfl, rfl, p5, s4.dl hw p6, fx.tr p6.x, fm.tr p7.x (Nat.le_refl _)⟩
        · have hdd := s3
          obtain ⟨w', pl, d1, d2, d3, d4, d5, d6, d7⟩ := s3
          rw [s1, bq, if_pos rfl, s2, bq, m_eats_d d6 d1 d2, bq, if_pos rfl, m_fails_d d6 d1 d2, bq]
          exact Or.inr ⟨mx2, mm2, rfl, rfl, hdd, s4, n4.x.tr s7, FMx.tr (n5.x (N := f + cd.length)) s8 (Nat.le_refl _)⟩
      · rw [n1, bq, if_pos rfl, n2, bq, if_pos rfl]
        exact Or.inr ⟨mx1, mm1, rfl, rfl, n3, hl.dl hw n4, n4.x, n5.x⟩
    · rw [if_neg (fun q => h37 (s91.mp q)), if_neg h37, if_pos rfl]
      have dead : ∀ {mx' mm' : Mem} (z : Int32), DD mx' mm' → X12_readUnit_b111 gt gu gs (nI deep) z mm' = some ((), mm') := by
        intro mx' mm' z ⟨w', pl, d1, d2, d3, d4, d5, d6, d7⟩
        rw [X12_readUnit_b111, m_is_d d6 d1 d2, bq, K0, if_pos rfl, m_is_d d6 d1 d2, bq, if_pos rfl, m_is_d d6 d1 d2, bq, if_pos rfl, m_fails_d d6 d1 d2, bq, X12_readUnit_b151, DS _ _ _ d6 d1 d2, bq, m_codes_d d6 d1 d2, bq]
      rcases SS a b C K v f cd mx mm ht hl hb with ⟨a1, b1, C1, K1', v1, c1, mx1, mm1, s1, s2, s3, s4, s5, s6, s7, s8⟩ | ⟨mx1, mm1, s1, s2, s3, s4, s7, s8⟩
      · have q39 : X12_is 39 mm1 = some (nI (if K1' = 39 then 1 else 0), mm1) := s3.mi (k := 39) (by omega)
        have q40 : X12_is 40 mm1 = some (nI (if K1' = 40 then 1 else 0), mm1) := s3.mi (k := 40) (by omega)
        have q41 : X12_is 41 mm1 = some (nI (if K1' = 41 then 1 else 0), mm1) := s3.mi (k := 41) (by omega)
        have haL1 := s3.aL
        have hlen : (cd ++ c1).length = cd.length + c1.length := List.length_append
        rw [s1, bq, if_neg (show ¬ nI 1 = nI 0 by decide), s2, bq, c_cmp s3, bq, q39, bq]
        have go : ∀ (code : Nat) (W : Int32), (code = 3003 ∨ code = 3004 ∨ code = 3005) → W = ccode code → K1' ≠ 24 → Oc tb L lw true h f cd a 0 (f + cd.length) mx mm (bnd (X7_next mx1) fun _ m_8 => bnd (fs (nI deep) m_8) fun r_9 m_10 => chk (okl (gi m_10 39 3)) <| lt (ix (gi m_10 39 3)) fun b_11 => bnd (X4_add b_11 W m_10) fun _ m_14 => chk (decide (r_9 = nI 0 ∨ r_9 = 1)) (some (r_9, m_14))) (bnd (X12_next mm1) fun _ m_14 => X12_readUnit_b151 gt gu gs (nI deep) (nI code) m_14) := by
          intro code W hcode hW hK
          obtain ⟨a2, b2, C2, K2', v2, mx2, mm2, n1, n2, n3, n4, n5, n6⟩ := s3.nx hL htb
          have ab := s3.1.2.2.1 hK
          rw [n2, bq, n3, bq, X12_readUnit_b151]
          rcases SS a2 b2 C2 K2' v2 f (cd ++ c1) mx2 mm2 n4 (s4.g hw n5.g n6.g) (by omega) with ⟨a3, b3, C3, K3', v3, c3, mx3, mm3, u1, u2, u3, u4, u5, u6, u7, u8⟩ | ⟨mx3, mm3, u1, u2, u3, u4, u7, u8⟩
          · have haL3 := u3.aL
            have hlen2 : (cd ++ c1 ++ c3).length = cd.length + c1.length + c3.length := by rw [List.length_append, hlen]
            obtain ⟨mx4, mm4, t1, t2, t3, t4, t5, t6⟩ := adds (u := code) (w := W) hw u3 u4 (by omega) hW
            rw [u1, bq, u4.1, (okw2 hw).1, chk_tt rfl, lq, (okw2 hw).2, t1, bq, u2, bq, t2, bq]
            have eq : cd ++ c1 ++ c3 ++ [code] = cd ++ (c1 ++ c3 ++ [code]) := by simp [List.append_assoc]
            rw [eq] at t4
            have hlen3 : (c1 ++ c3 ++ [code]).length = c1.length + c3.length + 1 := by simp [List.length_append]; omega
            exact Or.inl ⟨a3, b3, C3, K3', v3, c1 ++ c3 ++ [code], mx4, mm4, rfl, rfl, t3, t4, Typ.cmp (s5.mono (by omega)) u5 hh h2' hcode, by omega, ((s7.tr n5.g.x).tr u7).tr t5, (((s8.tr (n6.g.x (N := f + cd.length)) (Nat.le_refl _)).tr u8 (by omega)).tr t6 (by omega))⟩
          · obtain ⟨mx4, t1, t2, t3, t4⟩ := addd (w := W) hw u3 u4
            obtain ⟨w', pl, d1, d2, d3, d4, d5, d6, d7⟩ := u3
            rw [u1, bq, u4.1, (okw2 hw).1, chk_tt rfl, lq, (okw2 hw).2, t1, bq, u2, bq, m_codes_d d6 d1 d2, bq]
            exact Or.inr ⟨mx4, mm3, rfl, rfl, t2, t3, ((s7.tr n5.g.x).tr u7).tr t4, (s8.tr (n6.g.x (N := f + cd.length)) (Nat.le_refl _)).tr u8 (by omega)⟩
        by_cases e39 : K1' = 39
        · rw [if_neg (show ¬ K1' = 40 by omega), if_pos e39, if_neg (show ¬ (-11 : Int32) = nI 0 by decide), if_pos e39, if_neg (show ¬ nI 1 = nI 0 by decide), X12_readUnit_b111, q39, bq, K0, if_pos e39, if_neg (show ¬ nI 1 = nI 0 by decide), K3003]
          exact go 3003 (-11) (by omega) (by decide) (by omega)
        · rw [if_neg e39, if_neg e39, if_pos rfl, q40, bq]
          by_cases e40 : K1' = 40
          · rw [if_pos e40, if_pos e40, if_neg (show ¬ (-12 : Int32) = nI 0 by decide), if_neg (show ¬ nI 1 = nI 0 by decide), X12_readUnit_b111, q39, bq, K0, if_neg e39, if_pos rfl, q40, bq, if_pos e40, if_neg (show ¬ nI 1 = nI 0 by decide), K3004]
            exact go 3004 (-12) (by omega) (by decide) (by omega)
          · rw [if_neg e40, if_neg e40, if_pos rfl, X12_readUnit_b111, q39, bq, K0, if_neg e39, if_pos rfl, q40, bq, if_neg e40, if_pos rfl, q41, bq]
            by_cases e41 : K1' = 41
            · rw [if_pos e41, if_pos e41, if_neg (show ¬ (-13 : Int32) = nI 0 by decide), if_neg (show ¬ nI 1 = nI 0 by decide), K3005]
              exact go 3005 (-13) (by omega) (by decide) (by omega)
            · obtain ⟨mx2, mm2, p1, p2, p3, p4, p5⟩ := s3.rf2 hL
              have hdd := p3
              obtain ⟨w', pl, d1, d2, d3, d4, d5, d6, d7⟩ := p3
              rw [if_neg e41, if_neg e41, if_pos rfl, if_pos rfl, p1, bq, K2, p2, bq, X12_readUnit_b151, DS _ _ _ d6 d1 d2, bq, m_codes_d d6 d1 d2, bq]
              exact Or.inr ⟨mx2, mm2, rfl, rfl, hdd, s4.dl hw p4, s7.tr p4.x, s8.tr p5.x (Nat.le_refl _)⟩
      · have hdd := s3
        obtain ⟨w', pl, d1, d2, d3, d4, d5, d6, d7⟩ := s3
        rw [s1, bq, if_pos rfl, s2, bq, m_is_d d6 d1 d2, bq, if_pos rfl, m_is_d d6 d1 d2, bq, if_pos rfl, dead _ hdd]
        exact Or.inr ⟨mx1, mm1, rfl, rfl, hdd, s4, s7, s8⟩
/-- all of them, by depth -/
theorem all_sim (hL : L ≤ 900) (htb : ∀ i, i < L → tb i < 256) (hw : lw = 12 ∨ lw = 14) : ∀ d deep, deep ≤ 6 → (3 * (6 - deep) + 1 ≤ d → Sim tb L lw false (1 + 2 * (6 - deep)) deep (g_X7_readTruth d).2.2.2.2.2 (g_X12_readTruth d).2.2.2.2.2) ∧ (3 * (6 - deep) + 2 ≤ d → Sim tb L lw false (2 + 2 * (6 - deep)) deep (g_X7_readTruth d).2.2.2.2.1 (g_X12_readTruth d).2.2.2.2.1) ∧ (3 * (6 - deep) + 3 ≤ d → Sim tb L lw false (3 + 2 * (6 - deep)) deep (g_X7_readTruth d).2.2.2.1 (g_X12_readTruth d).2.2.2.1) ∧ (3 * (6 - deep) + 4 ≤ d → Sim tb L lw true (4 + 2 * (6 - deep)) deep (g_X7_readTruth d).2.2.1 (g_X12_readTruth d).2.2.1) ∧ (3 * (6 - deep) + 5 ≤ d → Sim tb L lw true (5 + 2 * (6 - deep)) deep (g_X7_readTruth d).2.1 (g_X12_readTruth d).2.1) ∧ (3 * (6 - deep) + 6 ≤ d → Sim tb L lw true (6 + 2 * (6 - deep)) deep (g_X7_readTruth d).1 (g_X12_readTruth d).1) ∧ (1 ≤ d → DeadM (g_X12_readTruth d).2.2.2.2.2) ∧ (2 ≤ d → DeadM (g_X12_readTruth d).2.2.2.2.1) ∧ (3 ≤ d → DeadM (g_X12_readTruth d).2.2.2.1) := by
  intro d
  induction d with
  | zero => intro deep _; exact ⟨fun h => by omega, fun h => by omega, fun h => by omega, fun h => by omega, fun h => by omega, fun h => by omega, fun h => by omega, fun h => by omega, fun h => by omega⟩
  | succ d ih =>
    intro deep hdp
    obtain ⟨i1, i2, i3, i4, i5, i6, i7, i8, i9⟩ := ih deep hdp
    refine ⟨fun h => ?_, fun h => ?_, fun h => ?_, fun h => ?_, fun h => ?_, fun h => ?_, fun h => ?_, fun h => ?_, fun h => ?_⟩
    · exact atom_sim (h2 := 3 + 2 * (6 - (deep + 1))) hL htb hw hdp (fun q => by omega) (fun q => (ih (deep + 1) (by omega)).2.2.1 (by omega))
    · exact term_sim (h2 := 1 + 2 * (6 - deep)) hL htb hw (by omega) (by omega) (i1 (by omega))
    · exact sum_sim (h2 := 2 + 2 * (6 - deep)) hL htb hw (by omega) (by omega) (i2 (by omega))
    · exact unit_sim (hs := 3 + 2 * (6 - deep)) (hu := 4 + 2 * (6 - (deep + 1))) (ht2 := 6 + 2 * (6 - (deep + 1))) hL htb hw hdp (by omega) (fun q => by omega) (fun q => by omega) (by omega) (fun q => (ih (deep + 1) (by omega)).2.2.2.2.2.1 (by omega)) (fun q => (ih (deep + 1) (by omega)).2.2.2.1 (by omega)) (i3 (by omega)) (i9 (by omega))
    · exact both_sim (h2 := 4 + 2 * (6 - deep)) hL htb hw (by omega) (by omega) (i4 (by omega))
    · exact truth_sim (h2 := 5 + 2 * (6 - deep)) hL htb hw (by omega) (by omega) (i5 (by omega))
    · exact dead_atom _
    · exact dead_term (i7 (by omega))
    · exact dead_sum (i8 (by omega))
end
