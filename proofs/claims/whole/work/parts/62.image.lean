/-! images -/
def sRXH (s : Sg) (y : Ru × Lf) : Sg := (s.1, y.1, y.2, [], s.2.2.2.2)
def sImg (s : Sg) (i : Nat) (y : Ru × Lf) : Sg := (s.1, s.2.1, s.2.2.1, s.2.2.2.1, (fun j => if j = i then some y else sIm s j), s.2.2.2.2.2)
theorem c_isImage_t {n : Nat} (h : n < 2) (m : Mem) : X11_isImage (nI n) m = some (nI 1, m) := by
  rw [X11_isImage]
  simp (disch := omega) only [nadn, gsn, gss, gsi, if_true, if_false, chk_in, chk_tt, bq, lq, ix_nI, jle_t, jle_f, jlt_t, jlt_f, jeq_t, jeq_f, nadd, nmul, nsub, nshl, nshl2, nor, nand, nandn, ↓kn1, K0, K1, K2, K3, K4, K5, K6, K7, K8, K9, K10, K11, K12, K13, K14, K20, K24, K25, K32, K33, K40, K41, K60, K63, K64, K100, K112, K120, K128, K129, K153, K161, K162, K163, K255, K256, K900, K903, K999, K1000, K1195, K1196, K2000, K2096, K3000, K3001, K3002, K3003, K3004, K3005, K3006, K3007, K3008]
theorem c_isImage_f {a : Int32} (h : ¬ prs 2 a) (m : Mem) : X11_isImage a m = some (nI 0, m) := by
  rw [prs_iff (by omega), le_iff, lt_iff, zI, tI (by omega)] at h
  rw [X11_isImage]
  by_cases h0 : a < 0
  · rw [if_pos h0]; rfl
  · rw [if_neg h0, if_pos]
    · rfl
    · rw [lt_iff, zI] at h0
      rw [le_iff, show (2 : Int32).toInt = 2 by decide]
      omega
theorem MLaw.tr {m m2 : Mem} {so d k : Nat} {cd : Option (List Nat)} (hk : k < 2) (h : MLaw m 1 so k cd) (hf : ∀ j, j < 2096 → gi m2 1 (d + j) = gi m 1 (so + j)) : MLaw m2 1 d k cd := by
  cases cd with
  | none =>
    have h : gi m 1 (so + 5 + k) = nI 0 := h
    show gi m2 1 (d + 5 + k) = nI 0
    rw [show d + 5 + k = d + (5 + k) by omega, hf _ (by omega), ← h]
    exact gix (by omega)
  | some cd =>
    obtain ⟨h1, h2, f, h3, h4, h5⟩ := h
    refine ⟨?_, ?_, f, ?_, h4, fun i hi => ?_⟩
    · rw [show d + 5 + k = d + (5 + k) by omega, hf _ (by omega), ← h1]; exact gix (by omega)
    · rw [show d + 9 + k = d + (9 + k) by omega, hf _ (by omega), ← h2]; exact gix (by omega)
    · rw [show d + 7 + k = d + (7 + k) by omega, hf _ (by omega), ← h3]; exact gix (by omega)
    · rw [show d + 1196 + f + i = d + (1196 + f + i) by omega, hf _ (by omega), ← h5 i hi]; exact gix (by omega)
theorem MR.tr {r : Ru} {m m2 : Mem} {so d : Nat} (hT : rT r ≤ 14) (hP : rP r ≤ 8) (h : MR r m 1 so) (hf : ∀ j, j < 2096 → gi m2 1 (d + j) = gi m 1 (so + j)) : MR r m2 1 d := by
  obtain ⟨h1, h2, h3, h4, h5, h6, h7, h8, h9⟩ := h
  refine ⟨(hf 0 (by omega)).trans h1, (hf 1 (by omega)).trans h2, (hf 2 (by omega)).trans h3, (hf 3 (by omega)).trans h4, (hf 4 (by omega)).trans h5, fun t ht => ?_, fun p hp => ?_, h8.tr (by omega) hf, h9.tr (by omega) hf⟩
  · rw [show d + 11 + t = d + (11 + t) by omega, hf _ (by omega), ← h6 t ht]; exact gix (by omega)
  · rw [show d + 25 + p = d + (25 + p) by omega, hf _ (by omega), ← h7 p hp]; exact gix (by omega)
theorem m_image_loop {m : Mem} {i : Nat} (hi : i < 2) : ∀ n k, k ≤ 2096 → 2096 - k < n → X12_image_b20 n (nI i) (nI k) (cq m 1 0 1 (2096 * (i + 1)) k) = some (nI 0, si (cq m 1 0 1 (2096 * (i + 1)) 2096) 2 i (nI 1)) := by
  have hv : vp_nar .boolean (nI 1) = nI 1 := by decide
  intro n
  induction n with
  | zero => intro k _ h; omega
  | succ n ih =>
    intro k hk hn
    rw [X12_image_b20]
    rcases Nat.eq_or_lt_of_le hk with he | hl
    · subst he
      simp (disch := omega) only [nadn, gsn, gss, gsi, if_true, if_false, chk_in, chk_tt, bq, lq, ix_nI, jle_t, jle_f, jlt_t, jlt_f, jeq_t, jeq_f, nadd, nmul, nsub, nshl, nshl2, nor, nand, nandn, ↓kn1, K0, K1, K2, K3, K4, K5, K6, K7, K8, K9, K10, K11, K12, K13, K14, K20, K24, K25, K32, K33, K40, K41, K60, K63, K64, K100, K112, K120, K128, K129, K153, K161, K162, K163, K255, K256, K900, K903, K999, K1000, K1195, K1196, K2000, K2096, K3000, K3001, K3002, K3003, K3004, K3005, K3006, K3007, K3008, hv]
    · have ih2 := ih (k + 1) (by omega) (by omega)
      have e : gi (cq m 1 0 1 (2096 * (i + 1)) k) 1 k = gi m 1 (0 + k) := by rw [gi_cq, if_neg (by omega), Nat.zero_add]
      simp (disch := omega) only [nadn, gsn, gss, gsi, if_true, if_false, chk_in, chk_tt, bq, lq, ix_nI, jle_t, jle_f, jlt_t, jlt_f, jeq_t, jeq_f, nadd, nmul, nsub, nshl, nshl2, nor, nand, nandn, ↓kn1, K0, K1, K2, K3, K4, K5, K6, K7, K8, K9, K10, K11, K12, K13, K14, K20, K24, K25, K32, K33, K40, K41, K60, K63, K64, K100, K112, K120, K128, K129, K153, K161, K162, K163, K255, K256, K900, K903, K999, K1000, K1195, K1196, K2000, K2096, K3000, K3001, K3002, K3003, K3004, K3005, K3006, K3007, K3008, e]
      rw [cq_s _ _ _ _ _ _ _ (by omega)]
      exact ih2
theorem m_restore_loop {m : Mem} {i : Nat} (hi : i < 2) : ∀ n k, k ≤ 2096 → 2096 - k < n → X12_restore_b32 n (nI i) (nI k) (cq m 1 (2096 * (i + 1)) 1 0 k) = some (nI 0, si (cq m 1 (2096 * (i + 1)) 1 0 2096) 1 162 (nI 0)) := by
  intro n
  induction n with
  | zero => intro k _ h; omega
  | succ n ih =>
    intro k hk hn
    rw [X12_restore_b32]
    rcases Nat.eq_or_lt_of_le hk with he | hl
    · subst he
      simp (disch := omega) only [nadn, gsn, gss, gsi, if_true, if_false, chk_in, chk_tt, bq, lq, ix_nI, jle_t, jle_f, jlt_t, jlt_f, jeq_t, jeq_f, nadd, nmul, nsub, nshl, nshl2, nor, nand, nandn, ↓kn1, K0, K1, K2, K3, K4, K5, K6, K7, K8, K9, K10, K11, K12, K13, K14, K20, K24, K25, K32, K33, K40, K41, K60, K63, K64, K100, K112, K120, K128, K129, K153, K161, K162, K163, K255, K256, K900, K903, K999, K1000, K1195, K1196, K2000, K2096, K3000, K3001, K3002, K3003, K3004, K3005, K3006, K3007, K3008]
    · have ih2 := ih (k + 1) (by omega) (by omega)
      have e : gi (cq m 1 (2096 * (i + 1)) 1 0 k) 1 (2096 * (i + 1) + k) = gi m 1 (2096 * (i + 1) + k) := by rw [gi_cq, if_neg (by omega)]
      simp (disch := omega) only [nadn, gsn, gss, gsi, if_true, if_false, chk_in, chk_tt, bq, lq, ix_nI, jle_t, jle_f, jlt_t, jlt_f, jeq_t, jeq_f, nadd, nmul, nsub, nshl, nshl2, nor, nand, nandn, ↓kn1, K0, K1, K2, K3, K4, K5, K6, K7, K8, K9, K10, K11, K12, K13, K14, K20, K24, K25, K32, K33, K40, K41, K60, K63, K64, K100, K112, K120, K128, K129, K153, K161, K162, K163, K255, K256, K900, K903, K999, K1000, K1195, K1196, K2000, K2096, K3000, K3001, K3002, K3003, K3004, K3005, K3006, K3007, K3008, e]
      rw [cq_s _ _ _ _ _ _ _ (by omega)]
      exact ih2
theorem m_img0 {s : Sg} {m : Mem} (h : Mim s m) {i : Nat} (hi : i < 2) (hn : sIm s i = none) : gi m 2 i = nI 0 := by
  have q := h i hi
  rw [hn] at q
  exact q
theorem m_img1 {s : Sg} {m : Mem} (h : Mim s m) {i : Nat} (hi : i < 2) {y : Ru × Lf} (hn : sIm s i = some y) : gi m 2 i = nI 1 ∧ MR y.1 m 1 (2096 * (i + 1)) ∧ ML y.1 y.2 m 1 (2096 * (i + 1) + 33) := by
  have q := h i hi
  rw [hn] at q
  exact q
theorem oki_t {s : Sg} {ib : Nat → Nat} {N i : Nat} (h : Cib s ib N) (hi : i < 2) (hs : (sIm s i).isSome = true) : oki N (nI (ib i)) = true ∧ (ib i = 109 ∨ ib i = 123) := by
  obtain ⟨h1, h2, h3⟩ := h
  have q := (h1 i hi).2.1 hs
  have q2 := (h1 i hi).2.2
  refine ⟨?_, q⟩
  rw [oki]
  apply decide_eq_true
  have hi2 : i = 0 ∨ i = 1 := by omega
  rcases q with q | q
  · left
    rw [q]
    refine ⟨by decide, ?_⟩
    omega
  · right
    rw [q]
    refine ⟨by decide, ?_⟩
    omega
theorem l64_1' : (1 : Int64) = Int32.toInt64 (nI 1) := l64_1
theorem St_restore_ok : St_restore Rel := by
  intro k N mx mm hk ⟨s, e, ib, hw, hc, hm⟩ a
  have hm0 := hm.th
  have fin : Rel (k + 1) N mx (si mm 0 0 (nI 0)) := Rel.rd hk hw hc hm FX.rf FM.th
  rw [X11_restore, X12_restore, K0, lq]
  by_cases ha : prs 2 a
  · obtain ⟨i, hi, rfl⟩ := ha
    rw [c_isImage_t hi, bq, jeq_f (by omega) (by omega) (by omega), wk_t l64_1 (by omega) (by omega), bq, jeq_f (by omega) (by omega) (by omega)]
    simp (disch := omega) only [chk_in, ix_nI]
    obtain ⟨c1, c2⟩ := hc.2.2.2.2.2.2 i hi
    have hcb := hc.2.2.2.2.2.1
    simp only [c1]
    cases hs : sIm s i with
    | none =>
      rw [(hcb.1 i hi).1 hs, jeq_t rfl, m_img0 hm0.2.2.2.2.2 hi hs, jeq_t rfl]
      exact ⟨_, _, _, rfl, rfl, fin⟩
    | some y =>
      obtain ⟨o1, o2⟩ := oki_t hcb hi (by rw [hs]; rfl)
      obtain ⟨q1, q2, q3⟩ := m_img1 hm0.2.2.2.2.2 hi hs
      obtain ⟨w1, w2⟩ := hw.2.2.2.2.2.2.2.1 i y hi hs
      obtain ⟨r1, r2⟩ := c2 y hs
      have hT : rT y.1 ≤ 14 := w1.1
      have hP : rP y.1 ≤ 8 := w1.2.1
      obtain ⟨mx1, a1, a2, a3⟩ := c_rbecome (a := 2) (b := ib i + 1) hT hP (by omega) r1
      obtain ⟨mx2, b1, b2, b3⟩ := c_become (a := 26) (b := ib i + 8) (m := mx1) hT hP (by omega) (r2.fr (fun c q1 q2 j => (a3 c (by unfold s06; omega) j).1))
      have c1' : gi mx1 108 i = nI (ib i) := by rw [(a3 108 (by unfold s06; omega) i).1]; exact c1
      have hne : ¬ ib i = 0 := by omega
      have l1 := m_restore_loop (m := si mm 0 0 (nI 0)) hi FU 0 (by omega) (by unfold FU; omega)
      rw [cq_z] at l1
      rw [jeq_f hne (by omega) (by omega), chk_tt o1, lq, jeq_f hne (by omega) (by omega), chk_tt o1, lq, ix_nI (by omega), a1, bq, c1', jeq_f hne (by omega) (by omega), chk_tt o1, lq, ix_nI (by omega), b1, bq, X2_forget, K0, lq, bq, q1, jeq_f (by omega) (by omega) (by omega), l1]
      refine ⟨_, _, _, rfl, rfl, sRXH s y, e, ib, ?_, ?_, ?_⟩
      · obtain ⟨z1, z2, z3, z4, z5, z6, z7, z8, z9⟩ := hw.mono (k := k + 1) (by omega) (by omega)
        exact ⟨z1, z2, z3, w1, w2.mono (bd_le (by omega)), Nat.zero_le _, fun i hi => absurd hi (Nat.not_lt_zero _), z8, z9⟩
      · obtain ⟨⟨z1, z2⟩, z3, ⟨z4, z5, z6, z7⟩, ⟨z8, z9, z10⟩, z11, z12, z13⟩ := hc
        have kk : ∀ c, ¬ (2 ≤ c ∧ c ≤ 8) → ¬ (26 ≤ c ∧ c ≤ 31) → c ≠ 40 → ∀ j, gi (si mx2 40 2 (nI 0)) c j = gi mx c j ∧ gl (si mx2 40 2 (nI 0)) c j = gl mx c j := fun c h1 h2 h3 j => ⟨by rw [gsn h3, (b3 c (by unfold s05; omega) j).1, (a3 c (by unfold s06; omega) j).1], (b3 c (by unfold s05; omega) j).2.trans (a3 c (by unfold s06; omega) j).2⟩
        refine ⟨⟨(kk 0 (by omega) (by omega) (by omega) 1).1.trans z1, fun j hj => (kk 1 (by omega) (by omega) (by omega) j).1.trans (z2 j hj)⟩, ⟨a2.fr (fun c h1 h2 j => by rw [gsn (by omega), (b3 c (by unfold s05; omega) j).1]), b2.fr (fun c h1 h2 j => gsn (by omega))⟩, ⟨z4, ?_, gss, fun i hi => absurd hi (Nat.not_lt_zero _)⟩, ⟨⟨by rw [(kk 39 (by omega) (by omega) (by omega) 3).1]; exact z8.1, fun j hj => (kk 108 (by omega) (by omega) (by omega) j).1.trans (z8.2 j hj)⟩, (kk 39 (by omega) (by omega) (by omega) _).1.trans z9, (kk 39 (by omega) (by omega) (by omega) _).1.trans z10⟩, fun j hj => ?_, z12, fun j hj => ⟨(kk 108 (by omega) (by omega) (by omega) j).1.trans (z13 j hj).1, fun u hu => ?_⟩⟩
        · rw [gsi (by omega), (b3 40 (by unfold s05; omega) _).1, (a3 40 (by unfold s06; omega) _).1]; exact z5
        · have q := z11 j hj
          show match sT s j with
            | none => gi (si mx2 40 2 (nI 0)) (100 + 2 * j) 0 = nI 0
            | some t => gi (si mx2 40 2 (nI 0)) (100 + 2 * j) 0 = nI 1 ∧ gi (si mx2 40 2 (nI 0)) (100 + 2 * j) 1 = nI t.2.1 ∧ gi (si mx2 40 2 (nI 0)) (100 + 2 * j) 2 = nI t.1 ∧ ∀ l, l < t.2.1 → gl (si mx2 40 2 (nI 0)) (101 + 2 * j) l = t.2.2 l
          cases ht : sT s j with
          | none =>
            rw [ht] at q
            exact (kk _ (by omega) (by omega) (by omega) _).1.trans q
          | some t =>
            rw [ht] at q
            exact ⟨(kk _ (by omega) (by omega) (by omega) _).1.trans q.1, (kk _ (by omega) (by omega) (by omega) _).1.trans q.2.1, (kk _ (by omega) (by omega) (by omega) _).1.trans q.2.2.1, fun l hl => (kk _ (by omega) (by omega) (by omega) _).2.trans (q.2.2.2 l hl)⟩
        · have hu : sIm s j = some u := hu
          have q := (z13 j hj).2 u hu
          have hb := (z12.1 j hj).2.1 (by rw [hu]; rfl)
          exact ⟨q.1.fr (fun c h1 h2 l => (kk c (by omega) (by omega) (by omega) l).1), q.2.fr (fun c h1 h2 l => (kk c (by omega) (by omega) (by omega) l).1)⟩
      · obtain ⟨⟨z1, z2⟩, z3, _, ⟨z6, z7⟩, z8, z9⟩ := hm0
        have kk : ∀ c, c ≠ 1 → ∀ j, gi (si (cq (si mm 0 0 (nI 0)) 1 (2096 * (i + 1)) 1 0 2096) 1 162 (nI 0)) c j = gi (si mm 0 0 (nI 0)) c j := fun c h1 j => by rw [gsn h1, gi_cq, if_neg (fun q => h1 q.1)]
        have k1 : ∀ j, 2096 ≤ j → gi (si (cq (si mm 0 0 (nI 0)) 1 (2096 * (i + 1)) 1 0 2096) 1 162 (nI 0)) 1 j = gi (si mm 0 0 (nI 0)) 1 j := fun j hj => by rw [gsi (by omega), gi_cq, if_neg (by omega)]
        have k2 : ∀ j, j < 2096 → j ≠ 162 → gi (si (cq (si mm 0 0 (nI 0)) 1 (2096 * (i + 1)) 1 0 2096) 1 162 (nI 0)) 1 j = gi (si mm 0 0 (nI 0)) 1 (2096 * (i + 1) + j) := fun j hj h => by
          rw [gsi h, gi_cq, if_pos (by omega)]
          exact gix (by omega)
        refine ⟨⟨(kk 0 (by omega) 5).trans z1, fun j hj => (kk 3 (by omega) j).trans (z2 j hj)⟩, ⟨?_, q3.tr hT hP (fun j hj => by rw [k2 _ (by omega) (by omega)]; exact gix (by omega))⟩, ⟨gss, fun i hi => absurd hi (Nat.not_lt_zero _)⟩, ⟨(kk 0 (by omega) 13).trans z6, (kk 0 (by omega) 14).trans z7⟩, fun j hj => ?_, fun j hj => ?_⟩
        · have m9 : ∀ j, (j < 33 ∨ 1196 ≤ j) → gi (si (cq (si mm 0 0 (nI 0)) 1 (2096 * (i + 1)) 1 0 2096) 1 162 (nI 0)) 1 j = gi (cq (si mm 0 0 (nI 0)) 1 (2096 * (i + 1)) 1 0 2096) 1 j := fun j hj => gsi (by omega)
          refine MR.fl (m := cq (si mm 0 0 (nI 0)) 1 (2096 * (i + 1)) 1 0 2096) hT hP (q2.tr hT hP (fun j hj => ?_)) m9
          rw [gi_cq, if_pos (by omega)]
          exact gix (by omega)
        · have q := z8 j hj
          show match sT s j with
            | none => gi (si (cq (si mm 0 0 (nI 0)) 1 (2096 * (i + 1)) 1 0 2096) 1 162 (nI 0)) 14 j = NO
            | some t => gi (si (cq (si mm 0 0 (nI 0)) 1 (2096 * (i + 1)) 1 0 2096) 1 162 (nI 0)) 14 j = nI t.1 ∧ gi (si (cq (si mm 0 0 (nI 0)) 1 (2096 * (i + 1)) 1 0 2096) 1 162 (nI 0)) 15 j = nI t.2.1 ∧ ∀ l, l < t.2.1 → gl (si mm 0 0 (nI 0)) 16 (40 * j + l) = t.2.2 l
          cases ht : sT s j with
          | none =>
            rw [ht] at q
            exact (kk 14 (by omega) _).trans q
          | some t =>
            rw [ht] at q
            exact ⟨(kk 14 (by omega) _).trans q.1, (kk 15 (by omega) _).trans q.2.1, q.2.2⟩
        · have q := z9 j hj
          show match sIm s j with
            | none => gi (si (cq (si mm 0 0 (nI 0)) 1 (2096 * (i + 1)) 1 0 2096) 1 162 (nI 0)) 2 j = nI 0
            | some y => gi (si (cq (si mm 0 0 (nI 0)) 1 (2096 * (i + 1)) 1 0 2096) 1 162 (nI 0)) 2 j = nI 1 ∧ MR y.1 (si (cq (si mm 0 0 (nI 0)) 1 (2096 * (i + 1)) 1 0 2096) 1 162 (nI 0)) 1 (2096 * (j + 1)) ∧ ML y.1 y.2 (si (cq (si mm 0 0 (nI 0)) 1 (2096 * (i + 1)) 1 0 2096) 1 162 (nI 0)) 1 (2096 * (j + 1) + 33)
          cases ht : sIm s j with
          | none =>
            rw [ht] at q
            exact (kk 2 (by omega) _).trans q
          | some u =>
            rw [ht] at q
            have hwu := (hw.2.2.2.2.2.2.2.1 j u hj ht).1
            exact ⟨(kk 2 (by omega) _).trans q.1, q.2.1.fo (fun l hl => k1 l (by omega)), q.2.2.tr hwu.1 hwu.2.1 (fun l hl => k1 _ (by omega))⟩
  · rw [c_isImage_f ha, bq, jeq_t rfl, wk_f l64_1 ha (by omega), bq, jeq_t rfl]
    exact ⟨_, _, _, rfl, rfl, fin⟩
