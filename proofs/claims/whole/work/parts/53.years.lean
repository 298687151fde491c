/-! years, undo -/
def yrn (r : Ru) (x : Lf) : Nat → Lf
  | 0 => x
  | n + 1 => yrf r (yrn r x n)
def wnn (r : Ru) (x : Lf) : Nat → Nat
  | 0 => 0
  | n + 1 => wnn r x n + wns r al (yrn r x n) (rP r)
theorem WL.xn {r : Ru} {x : Lf} {B : Nat} (h : WL r x B) : ∀ n, WL r (yrn r x n) (B + n)
  | 0 => h
  | n + 1 => (WL.xn h n).xf
theorem c_years_loop {r : Ru} {x : Lf} {B e : Nat} (g : GX r x) (hB : WL r x B) (hb : B + 100 ≤ 900000) (he : e ≤ 60) : ∀ n k m, k ≤ e → e - k < n → IC r (yrn r x k) m 25 → ∃ m2, X11_years_b32 n (nI e) (nI (wnn r x k)) (nI k) m = some (nI (wnn r x e), m2) ∧ IC r (yrn r x e) m2 25 ∧ Fr (s16 25) m m2 := by
  intro n
  induction n with
  | zero => intro k m _ h; omega
  | succ n ih =>
    intro k m hk hn h
    rw [X11_years_b32]
    rcases Nat.eq_or_lt_of_le hk with he | hl
    · subst he
      simp (disch := omega) only [nadn, gsn, gss, gsi, if_true, if_false, chk_in, chk_tt, bq, lq, ix_nI, jle_t, jle_f, jlt_t, jlt_f, jeq_t, jeq_f, nadd, nmul, nsub, nshl, nshl2, nor, nand, nandn, ↓kn1, K0, K1, K2, K3, K4, K5, K6, K7, K8, K9, K10, K11, K12, K13, K14, K20, K24, K25, K32, K33, K40, K41, K60, K63, K64, K100, K112, K120, K128, K129, K153, K161, K162, K163, K255, K256, K900, K903, K999, K1000, K1195, K1196, K2000, K2096, K3000, K3001, K3002, K3003, K3004, K3005, K3006, K3007, K3008]
      exact ⟨m, rfl, h, Fr.rf⟩
    · obtain ⟨m1, e1, e2, e3⟩ := c_passYear (by decide) (g.mk (hB.xn k) (by omega)) (hB.xn k) (by omega) h
      obtain ⟨m2, f1, f2, f3⟩ := ih (k + 1) m1 (by omega) (by omega) e2
      refine ⟨m2, ?_, f2, e3.tr f3⟩
      rw [← f1]
      simp (disch := omega) only [nadn, gsn, gss, gsi, if_true, if_false, chk_in, chk_tt, bq, lq, ix_nI, jle_t, jle_f, jlt_t, jlt_f, jeq_t, jeq_f, nadd, nmul, nsub, nshl, nshl2, nor, nand, nandn, ↓kn1, K0, K1, K2, K3, K4, K5, K6, K7, K8, K9, K10, K11, K12, K13, K14, K20, K24, K25, K32, K33, K40, K41, K60, K63, K64, K100, K112, K120, K128, K129, K153, K161, K162, K163, K255, K256, K900, K903, K999, K1000, K1195, K1196, K2000, K2096, K3000, K3001, K3002, K3003, K3004, K3005, K3006, K3007, K3008, e1]
      rfl
theorem m_years_loop {r : Ru} {x : Lf} {B e : Nat} (g : GX r x) (hB : WL r x B) (hb : B + 100 ≤ 900000) (he : e ≤ 60) : ∀ n k m, k ≤ e → e - k < n → IM r (yrn r x k) m → ∃ m2, X12_years_b28 n (nI e) (nI (wnn r x k)) (nI k) m = (bnd (X12_notes m2) fun _ m_7 => some (nI (wnn r x e), m_7)) ∧ IM r (yrn r x e) m2 ∧ FL s8 m m2 := by
  intro n
  induction n with
  | zero => intro k m _ h; omega
  | succ n ih =>
    intro k m hk hn h
    rw [X12_years_b28]
    rcases Nat.eq_or_lt_of_le hk with he | hl
    · subst he
      simp (disch := omega) only [nadn, gsn, gss, gsi, if_true, if_false, chk_in, chk_tt, bq, lq, ix_nI, jle_t, jle_f, jlt_t, jlt_f, jeq_t, jeq_f, nadd, nmul, nsub, nshl, nshl2, nor, nand, nandn, ↓kn1, K0, K1, K2, K3, K4, K5, K6, K7, K8, K9, K10, K11, K12, K13, K14, K20, K24, K25, K32, K33, K40, K41, K60, K63, K64, K100, K112, K120, K128, K129, K153, K161, K162, K163, K255, K256, K900, K903, K999, K1000, K1195, K1196, K2000, K2096, K3000, K3001, K3002, K3003, K3004, K3005, K3006, K3007, K3008]
      exact ⟨m, rfl, h, FL.rf⟩
    · obtain ⟨m1, e1, e2, e3⟩ := m_yrf (y2 := NO) (g.mk (hB.xn k) (by omega)) (hB.xn k) (by omega) h
      obtain ⟨m2, f1, f2, f3⟩ := ih (k + 1) m1 (by omega) (by omega) e2
      refine ⟨m2, ?_, f2, e3.tr f3⟩
      rw [← f1]
      simp (disch := omega) only [nadn, gsn, gss, gsi, if_true, if_false, chk_in, chk_tt, bq, lq, ix_nI, jle_t, jle_f, jlt_t, jlt_f, jeq_t, jeq_f, nadd, nmul, nsub, nshl, nshl2, nor, nand, nandn, ↓kn1, K0, K1, K2, K3, K4, K5, K6, K7, K8, K9, K10, K11, K12, K13, K14, K20, K24, K25, K32, K33, K40, K41, K60, K63, K64, K100, K112, K120, K128, K129, K153, K161, K162, K163, K255, K256, K900, K903, K999, K1000, K1195, K1196, K2000, K2096, K3000, K3001, K3002, K3003, K3004, K3005, K3006, K3007, K3008, e1]
      rfl
theorem St_years_ok : St_years Rel := by
  intro k N mx mm hk ⟨s, e, ib, hw, hc, hm⟩ a
  have g := hw.gx
  have hT := g.T; have hP := g.P
  have h := hc.2.1
  have hm0 := hm.th
  have hi := hm0.2.1
  have fin : Rel (k + 1) N mx (si mm 0 0 (nI 0)) := Rel.rd hk hw hc hm FX.rf FM.th
  rw [X11_years, X12_years, K0, lq, K1, K60]
  by_cases ha : rg 1 60 a
  · obtain ⟨n, n1, n2, rfl⟩ := ha
    rw [jlt_f n1 (by omega), jle_t n2 (by omega), wl_t l64_1 l64_60 n1 n2 (by omega), bq, jeq_f (by omega) (by omega) (by omega)]
    have hB := hw.2.2.2.2.1
    obtain ⟨mx2, e2', k1, k2, k3, k4⟩ := c_keeps hw hc
    obtain ⟨mx3, l1, l2, l3⟩ := c_years_loop g hB (by unfold bd; omega) n2 FU 0 mx2 (by omega) (by unfold FU; omega) k3
    obtain ⟨mm2, n3, n4, n5⟩ := m_keeps hT hP hi
    obtain ⟨mm3, o1, o2, o3⟩ := m_years_loop g hB (by unfold bd; omega) n2 FU 0 mm2 (by omega) (by unfold FU; omega) (hi.fr (fun j => (n5 1 (by decide) j).1))
    obtain ⟨mm4, p1, p2, p3, p4⟩ := m_noted hw hm0 n4 n5 o2 o3
    have l1 : X11_years_b32 FU (nI n) (nI 0) (nI 0) mx2 = _ := l1
    have o1 : X12_years_b28 FU (nI n) (nI 0) (nI 0) mm2 = _ := o1
    rw [k1, bq, l1, n3, bq, o1, p1, bq]
    exact ⟨_, _, _, rfl, rfl, Rel.kp hk hw hc hm ((hB.xn n).mono (by unfold bd; omega)) ((xh40 k4).tr (xh16 l3)) l2 (k2.f16 l3) (FM.th.mh.tr p4) p2 p3⟩
  · rw [out ha (by omega) (by omega), out_w l64_1 l64_60 ha (by omega) (by omega), bq, jeq_t rfl]
    exact ⟨_, _, _, rfl, rfl, fin⟩
theorem m_undo_loop {m : Mem} {l : Nat} (hl8 : l < 8) (h162 : gi m 1 162 = nI l) : ∀ n k, k ≤ 129 → 129 - k < n → X12_undo_b46 n (nI k) (cq m 1 (163 + 129 * l) 1 33 k) = some (nI l, cq m 1 (163 + 129 * l) 1 33 129) := by
  intro n
  induction n with
  | zero => intro k _ h; omega
  | succ n ih =>
    intro k hk hn
    rw [X12_undo_b46]
    have e2 : ∀ k, k ≤ 129 → gi (cq m 1 (163 + 129 * l) 1 33 k) 1 162 = nI l := fun k hk => by rw [gi_cq, if_neg (by omega)]; exact h162
    rcases Nat.eq_or_lt_of_le hk with he | hl
    · subst he
      simp (disch := omega) only [nadn, gsn, gss, gsi, if_true, if_false, chk_in, chk_tt, bq, lq, ix_nI, jle_t, jle_f, jlt_t, jlt_f, jeq_t, jeq_f, nadd, nmul, nsub, nshl, nshl2, nor, nand, nandn, ↓kn1, K0, K1, K2, K3, K4, K5, K6, K7, K8, K9, K10, K11, K12, K13, K14, K20, K24, K25, K32, K33, K40, K41, K60, K63, K64, K100, K112, K120, K128, K129, K153, K161, K162, K163, K255, K256, K900, K903, K999, K1000, K1195, K1196, K2000, K2096, K3000, K3001, K3002, K3003, K3004, K3005, K3006, K3007, K3008, e2]
    · have ih2 := ih (k + 1) (by omega) (by omega)
      have e : gi (cq m 1 (163 + 129 * l) 1 33 k) 1 (163 + 129 * l + k) = gi m 1 (163 + 129 * l + k) := by rw [gi_cq, if_neg (by omega)]
      simp (disch := omega) only [nadn, gsn, gss, gsi, if_true, if_false, chk_in, chk_tt, bq, lq, ix_nI, jle_t, jle_f, jlt_t, jlt_f, jeq_t, jeq_f, nadd, nmul, nsub, nshl, nshl2, nor, nand, nandn, ↓kn1, K0, K1, K2, K3, K4, K5, K6, K7, K8, K9, K10, K11, K12, K13, K14, K20, K24, K25, K32, K33, K40, K41, K60, K63, K64, K100, K112, K120, K128, K129, K153, K161, K162, K163, K255, K256, K900, K903, K999, K1000, K1195, K1196, K2000, K2096, K3000, K3001, K3002, K3003, K3004, K3005, K3006, K3007, K3008, e2, e]
      rw [cq_s _ _ _ _ _ _ _ (by omega)]
      exact ih2
theorem hg_k {h : List Lf} {n i : Nat} (hi : i < n) : hg (h.take n) i = hg h i := by
  rw [hg, hg, List.getD_eq_getElem?_getD, List.getD_eq_getElem?_getD, List.getElem?_take_of_lt hi]
theorem St_undo_ok : St_undo Rel := by
  intro k N mx mm hk ⟨s, e, ib, hw, hc, hm⟩ a
  have g := hw.gx
  have hT := g.T; have hP := g.P
  have h := hc.2.1
  have hm0 := hm.th
  have hi := hm0.2.1
  have hl : (sH s).length ≤ 8 := hw.2.2.2.2.2.1
  have fin : Rel (k + 1) N mx (si mm 0 0 (nI 0)) := Rel.rd hk hw hc hm FX.rf FM.th
  obtain ⟨c1, c2, c3, c4⟩ := hc.2.2.1
  obtain ⟨d1, d2⟩ := hm0.2.2.1
  rw [X11_undo, X12_undo, K0, lq, K1, c3]
  by_cases ha : rg 1 (sH s).length a
  · obtain ⟨n, n1, n2, rfl⟩ := ha
    rw [jlt_f n1 (by omega), jle_t n2 (by omega), wl_t l64_1 l64_8 n1 (by omega) (by omega), bq, jeq_f (by omega) (by omega) (by omega)]
    simp (disch := omega) only [chk_in, ix_nI, K162, d1, jle_t, nsub, lq]
    have f0 := m_undo_loop (m := si (si mm 0 0 (nI 0)) 1 162 (nI ((sH s).length - n))) (l := (sH s).length - n) (by omega) gss FU 0 (by omega) (by unfold FU; omega)
    rw [cq_z] at f0
    rw [f0, X2_bringBack, c3]
    have hm8 : (e + ((sH s).length - n)) % 8 < 8 := by omega
    have q := c4 ((sH s).length - n) (by omega)
    obtain ⟨mx2, b1, b2, b3⟩ := c_become (a := 26) (b := 42 + 6 * ((e + ((sH s).length - n)) % 8)) (m := si mx 40 2 (nI ((sH s).length - n))) hT hP (by omega) (q.fr (fun c q1 q2 j => gsn (by omega)))
    have g1 : gi (si mx 40 2 (nI ((sH s).length - n))) 40 1 = nI e := by rw [gsi (by omega)]; exact c2
    have k40 : ∀ c, 40 ≤ c → ∀ j, gi mx2 c j = gi (si mx 40 2 (nI ((sH s).length - n))) c j := fun c q1 j => (b3 c (by unfold s05; omega) j).1
    rw [K0, jle_f (by omega) (by omega), jlt_f n2 (by omega), nsub n2, lq, g1, gss, nadd, mod8 _ (by omega), chk_in hm8 (by omega), ix_nI (by omega), lq, b1, bq, bq, k40 40 (by omega), gss]
    have htl : ((sH s).take ((sH s).length - n)).length = (sH s).length - n := by rw [List.length_take]; omega
    refine ⟨_, _, _, rfl, rfl, Rel.dd (x := hg (sH s) ((sH s).length - n)) (h := (sH s).take ((sH s).length - n)) (e2 := e) hk hw hc hm ((hw.2.2.2.2.2.2.1 _ (by omega)).mono (bd_le (by omega))) (by omega) (fun i hi => ?_) ?_ ⟨?_, b2⟩ ⟨c1, ?_, ?_, fun i hi => ?_⟩ ?_ ⟨?_, ?_⟩ ⟨?_, fun i hi => ?_⟩⟩
    · rw [hg_k (by omega)]
      exact (hw.2.2.2.2.2.2.1 i (by omega)).mono (bd_le (by omega))
    · exact FXH.tr (Fr.xh (Fr.si (S := s4089) (by unfold s4089; omega)) (fun c q => by unfold s4089 at q; omega)) (b3.xh (fun c q => by unfold s05 at q; omega))
    · refine h.1.fr (fun c q1 q2 j => ?_)
      rw [(b3 c (by unfold s05; omega) j).1, gsn (by omega)]
    · rw [k40 40 (by omega)]; exact g1
    · rw [k40 40 (by omega), gss, htl]
    · rw [hg_k (by omega)]
      refine (c4 i (by omega)).fr (fun c q1 q2 j => ?_)
      rw [k40 c (by omega), gsn (by omega)]
    · refine ⟨fun c q1 q2 q3 j => ⟨?_, rfl⟩, fun j hj => ?_, ?_, ?_, ?_⟩
      · rw [gi_cq, if_neg (fun q => q3 q.1), gsn q3, gsn q2]
      · rw [gi_cq, if_neg (by omega), gsi (by omega), gsn (by omega)]
      · rw [gi_cq, if_neg (by omega), gsn (by omega), gsi (by omega)]
      · rw [gi_cq, if_neg (by omega), gsn (by omega), gsi (by omega)]
      · rw [gi_cq, if_neg (by omega), gsn (by omega), gsi (by omega)]
    · refine hi.1.fl hT hP (fun j hj => ?_)
      rw [gi_cq, if_neg (by omega), gsi (by omega)]
    · refine (d2 ((sH s).length - n) (by omega)).tr hT hP (fun j hj => ?_)
      rw [gi_cq, if_pos (by omega), gsi (by omega)]
      exact gix (by omega)
    · rw [gi_cq, if_neg (by omega), gss, htl]
    · rw [hg_k (by omega)]
      refine (d2 i (by omega)).tr hT hP (fun j hj => ?_)
      rw [gi_cq, if_neg (by omega), gsi (by omega)]
  · rw [out ha (by omega) (by omega)]
    by_cases hb : rg 1 8 a
    · obtain ⟨n, n1, n2, rfl⟩ := hb
      have n3 : ¬ n ≤ (sH s).length := fun q => ha ⟨n, n1, q, rfl⟩
      rw [wl_t l64_1 l64_8 n1 n2 (by omega), bq, jeq_f (by omega) (by omega) (by omega)]
      simp (disch := omega) only [chk_in, ix_nI, K162, d1, jle_f]
      exact ⟨_, _, _, rfl, rfl, fin⟩
    · rw [out_w l64_1 l64_8 hb (by omega) (by omega), bq, jeq_t rfl]
      exact ⟨_, _, _, rfl, rfl, fin⟩
