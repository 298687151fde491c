theorem K292 : (292 : Int32) = nI 292 := (show (292 : Int32) = nI 292 from rfl).symm.symm
theorem m_notes_s {m : Mem} {l : Nat} (hl8 : l < 8) (h162 : gi m 1 162 = nI l) : ∀ n k, k ≤ 129 → 129 - k < n → X12_notes_b62 n (nI k) (cq m 7 0 1 (163 + 129 * l) k) = some ((), si (cq m 7 0 1 (163 + 129 * l) 129) 1 162 (nI (l + 1))) := by
  intro n
  induction n with
  | zero => intro k _ h; omega
  | succ n ih =>
    intro k hk hn
    rw [X12_notes_b62]
    have e2 : ∀ k, gi (cq m 7 0 1 (163 + 129 * l) k) 1 162 = nI l := fun k => by rw [gi_cq, if_neg (by omega)]; exact h162
    rcases Nat.eq_or_lt_of_le hk with he | hl
    · subst he
      simp (disch := omega) only [nadn, gsn, gss, gsi, if_true, if_false, chk_in, chk_tt, bq, lq, ix_nI, jle_t, jle_f, jlt_t, jlt_f, jeq_t, jeq_f, nadd, nmul, nsub, nshl, nshl2, nor, nand, nandn, ↓kn1, K0, K1, K2, K3, K4, K5, K6, K7, K8, K9, K10, K11, K12, K13, K14, K20, K24, K25, K32, K33, K40, K41, K60, K63, K64, K100, K112, K120, K128, K129, K153, K161, K162, K163, K255, K256, K900, K903, K999, K1000, K1195, K1196, K2000, K2096, K3000, K3001, K3002, K3003, K3004, K3005, K3006, K3007, K3008, e2]
    · have ih2 := ih (k + 1) (by omega) (by omega)
      have e : gi (cq m 7 0 1 (163 + 129 * l) k) 7 k = gi m 7 (0 + k) := by rw [gi_cq, if_neg (by omega), Nat.zero_add]
      simp (disch := omega) only [nadn, gsn, gss, gsi, if_true, if_false, chk_in, chk_tt, bq, lq, ix_nI, jle_t, jle_f, jlt_t, jlt_f, jeq_t, jeq_f, nadd, nmul, nsub, nshl, nshl2, nor, nand, nandn, ↓kn1, K0, K1, K2, K3, K4, K5, K6, K7, K8, K9, K10, K11, K12, K13, K14, K20, K24, K25, K32, K33, K40, K41, K60, K63, K64, K100, K112, K120, K128, K129, K153, K161, K162, K163, K255, K256, K900, K903, K999, K1000, K1195, K1196, K2000, K2096, K3000, K3001, K3002, K3003, K3004, K3005, K3006, K3007, K3008, e2, e]
      rw [cq_s _ _ _ _ _ _ _ (by omega)]
      exact ih2
theorem m_notes_m {m : Mem} (h162 : gi m 1 162 = nI 8) : ∀ n k, k ≤ 903 → 903 - k < n → X12_notes_b15 n (nI k) (cq m 1 292 1 163 k) = X12_notes_b62 FU (nI 0) (si (cq m 1 292 1 163 903) 1 162 (nI 7)) := by
  intro n
  induction n with
  | zero => intro k _ h; omega
  | succ n ih =>
    intro k hk hn
    rw [X12_notes_b15]
    have e2 : ∀ k, gi (cq m 1 292 1 163 k) 1 162 = nI 8 := fun k => by rw [gi_cq, if_neg (by omega)]; exact h162
    rcases Nat.eq_or_lt_of_le hk with he | hl
    · subst he
      simp (disch := omega) only [nadn, gsn, gss, gsi, if_true, if_false, chk_in, chk_tt, bq, lq, ix_nI, jle_t, jle_f, jlt_t, jlt_f, jeq_t, jeq_f, nadd, nmul, nsub, nshl, nshl2, nor, nand, nandn, ↓kn1, K0, K1, K2, K3, K4, K5, K6, K7, K8, K9, K10, K11, K12, K13, K14, K20, K24, K25, K32, K33, K40, K41, K60, K63, K64, K100, K112, K120, K128, K129, K153, K161, K162, K163, K255, K256, K900, K903, K999, K1000, K1195, K1196, K2000, K2096, K3000, K3001, K3002, K3003, K3004, K3005, K3006, K3007, K3008, e2]
    · have ih2 := ih (k + 1) (by omega) (by omega)
      have e : gi (cq m 1 292 1 163 k) 1 (292 + k) = gi m 1 (292 + k) := by rw [gi_cq, if_neg (by omega)]
      simp (disch := omega) only [nadn, gsn, gss, gsi, if_true, if_false, chk_in, chk_tt, bq, lq, ix_nI, jle_t, jle_f, jlt_t, jlt_f, jeq_t, jeq_f, nadd, nmul, nsub, nshl, nshl2, nor, nand, nandn, ↓kn1, K0, K1, K2, K3, K4, K5, K6, K7, K8, K9, K10, K11, K12, K13, K14, K20, K24, K25, K32, K33, K40, K41, K60, K63, K64, K100, K112, K120, K128, K129, K153, K161, K162, K163, K255, K256, K900, K903, K999, K1000, K1195, K1196, K2000, K2096, K3000, K3001, K3002, K3003, K3004, K3005, K3006, K3007, K3008, K292, e]
      rw [cq_s _ _ _ _ _ _ _ (by omega)]
      exact ih2
/-- only places 162 to 1194 of the great array change -/
def FN (m m2 : Mem) : Prop := (∀ c, c ≠ 1 → ∀ j, gi m2 c j = gi m c j) ∧ (∀ c j, gl m2 c j = gl m c j) ∧ ∀ j, (j < 162 ∨ 1195 ≤ j) → gi m2 1 j = gi m 1 j
theorem m_store {r : Ru} {x : Lf} {h : List Lf} {m : Mem} (hT : rT r ≤ 14) (hP : rP r ≤ 8) (hl : h.length < 8) (hh : Mh r h m) (h7 : ML r x m 7 0) : ∃ m2, X12_notes_b62 FU (nI 0) m = some ((), m2) ∧ Mh r (h ++ [x]) m2 ∧ FN m m2 := by
  obtain ⟨h1, h2⟩ := hh
  have e := m_notes_s hl h1 FU 0 (by omega) (by unfold FU; omega)
  rw [cq_z] at e
  refine ⟨_, e, ⟨?_, fun i hi => ?_⟩, fun c hc j => ?_, fun c j => rfl, fun j hj => ?_⟩
  · rw [gss, List.length_append]; rfl
  · rw [List.length_append] at hi
    have hi : i < h.length + 1 := hi
    by_cases hil : i = h.length
    · subst hil
      rw [hg_r]
      refine h7.tr hT hP (fun j hj => ?_)
      rw [gsi (by omega), gi_cq, if_pos (by omega)]
      exact gix (by omega)
    · rw [hg_l (by omega)]
      refine (h2 i (by omega)).tr hT hP (fun j hj => ?_)
      rw [gsi (by omega), gi_cq, if_neg (by omega)]
  · rw [gsn hc, gi_cq, if_neg (fun q => hc q.1)]
  · rw [gsi (by omega), gi_cq, if_neg (by omega)]
theorem m_notes {r : Ru} {x : Lf} {h : List Lf} {m : Mem} (hT : rT r ≤ 14) (hP : rP r ≤ 8) (hl : h.length ≤ 8) (hh : Mh r h m) (h7 : ML r x m 7 0) : ∃ m2, X12_notes m = some ((), m2) ∧ Mh r (kpH h x) m2 ∧ FN m m2 := by
  have hh0 := hh
  obtain ⟨h1, h2⟩ := hh
  rw [X12_notes, kpH]
  simp (disch := omega) only [chk_in, ix_nI, ↓kn1, K0, K1, K2, K3, K4, K5, K6, K7, K8, K9, K10, K11, K12, K13, K14, K20, K24, K25, K32, K33, K40, K41, K60, K63, K64, K100, K112, K120, K128, K129, K153, K161, K162, K163, K255, K256, K900, K903, K999, K1000, K1195, K1196, K2000, K2096, K3000, K3001, K3002, K3003, K3004, K3005, K3006, K3007, K3008, h1]
  by_cases h8 : h.length = 8
  · rw [jeq_t h8, if_pos h8]
    rw [h8] at h1
    have e := m_notes_m h1 FU 0 (by omega) (by unfold FU; omega)
    rw [cq_z] at e
    rw [e]
    have ht : h.tail.length = h.length - 1 := List.length_tail
    have hq : ∀ i, i < h.tail.length → ML r (hg h.tail i) (si (cq m 1 292 1 163 903) 1 162 (nI 7)) 1 (163 + 129 * i) := fun i hi => by
      rw [hg_t]
      refine (h2 (i + 1) (by omega)).tr hT hP (fun j hj => ?_)
      rw [gsi (by omega), gi_cq, if_pos (by omega)]
      exact gix (by omega)
    obtain ⟨m2, e1, e2, e3, e4, e5⟩ := m_store (h := h.tail) (x := x) (m := si (cq m 1 292 1 163 903) 1 162 (nI 7)) hT hP (by omega) ⟨by rw [gss, ht, h8], hq⟩ (h7.fr (fun j => by rw [gsn (by decide), gi_cq, if_neg (by omega)]))
    refine ⟨m2, e1, e2, fun c hc j => ?_, fun c j => e4 c j, fun j hj => ?_⟩
    · rw [e3 c hc, gsn hc, gi_cq, if_neg (fun q => hc q.1)]
    · rw [e5 j hj, gsi (by omega), gi_cq, if_neg (by omega)]
  · rw [jeq_f h8 (by omega) (by omega), if_neg h8]
    exact m_store hT hP (by omega) hh0 h7
/-! the state, life and history changed -/
def sXH (s : Sg) (x : Lf) (h : List Lf) : Sg := (s.1, s.2.1, x, h, s.2.2.2.2)
def FXH (m m2 : Mem) : Prop := (∀ c, ¬ scx c → ¬ (26 ≤ c ∧ c ≤ 31) → ¬ (40 ≤ c ∧ c ≤ 89) → c ≠ 0 → c ≠ 39 → ∀ j, gi m2 c j = gi m c j ∧ gl m2 c j = gl m c j) ∧ gi m2 0 1 = gi m 0 1 ∧ gi m2 39 3 = gi m 39 3 ∧ gi m2 39 8 = gi m 39 8 ∧ gi m2 39 9 = gi m 39 9
theorem FXH.tr {m m1 m2 : Mem} (h1 : FXH m m1) (h2 : FXH m1 m2) : FXH m m2 :=
  ⟨fun c a b d f g j => ⟨((h2.1 c a b d f g j).1).trans (h1.1 c a b d f g j).1, ((h2.1 c a b d f g j).2).trans (h1.1 c a b d f g j).2⟩, h2.2.1.trans h1.2.1, h2.2.2.1.trans h1.2.2.1, h2.2.2.2.1.trans h1.2.2.2.1, h2.2.2.2.2.trans h1.2.2.2.2⟩
theorem FXH.rf {m : Mem} : FXH m m := ⟨fun _ _ _ _ _ _ _ => ⟨rfl, rfl⟩, rfl, rfl, rfl, rfl⟩
theorem FX.xh {m m2 : Mem} (h : FX m m2) : FXH m m2 := ⟨fun c a _ _ b d j => h.1 c a b d j, h.2⟩
theorem Fr.xh {S : Nat → Prop} {m m2 : Mem} (h : Fr S m m2) (hs : ∀ c, S c → scx c ∨ (26 ≤ c ∧ c ≤ 31) ∨ (40 ≤ c ∧ c ≤ 89)) : FXH m m2 := by
  have k : ∀ c, ¬ scx c → ¬ (26 ≤ c ∧ c ≤ 31) → ¬ (40 ≤ c ∧ c ≤ 89) → ∀ j, gi m2 c j = gi m c j ∧ gl m2 c j = gl m c j := fun c h1 h2 h3 j => h c (fun q => by
    rcases hs c q with h | h | h
    · exact h1 h
    · exact h2 h
    · exact h3 h) j
  exact ⟨fun c h1 h2 h3 _ _ j => k c h1 h2 h3 j, (k 0 (by unfold scx; omega) (by omega) (by omega) 1).1, (k 39 (by unfold scx; omega) (by omega) (by omega) 3).1, (k 39 (by unfold scx; omega) (by omega) (by omega) 8).1, (k 39 (by unfold scx; omega) (by omega) (by omega) 9).1⟩
theorem CI.lh {s : Sg} {e e2 : Nat} {ib : Nat → Nat} {N : Nat} {m m2 : Mem} {x : Lf} {h : List Lf} (hc : CI s e ib N m) (hf : FXH m m2) (hx : IC (sR s) x m2 25) (hh : Hs (sR s) h e2 m2) : CI (sXH s x h) e2 ib N m2 := by
  obtain ⟨⟨a1, a2⟩, a3, _, ⟨a8, a9, a10⟩, a11, a12, a13⟩ := hc
  obtain ⟨f1, f2, f3, f4, f5⟩ := hf
  have k : ∀ c, ¬ scx c → ¬ (26 ≤ c ∧ c ≤ 31) → ¬ (40 ≤ c ∧ c ≤ 89) → c ≠ 0 → c ≠ 39 → ∀ j, gi m2 c j = gi m c j := fun c x y z u v j => (f1 c x y z u v j).1
  refine ⟨⟨f2.trans a1, fun i hi => (k 1 (by unfold scx; omega) (by omega) (by omega) (by omega) (by omega) i).trans (a2 i hi)⟩, hx, hh, ⟨⟨by rw [f3]; exact a8.1, fun j hj => (k 108 (by unfold scx; omega) (by omega) (by omega) (by omega) (by omega) j).trans (a8.2 j hj)⟩, f4.trans a9, f5.trans a10⟩, fun i hi => ?_, a12, fun i hi => ⟨(k 108 (by unfold scx; omega) (by omega) (by omega) (by omega) (by omega) i).trans (a13 i hi).1, fun y hy => ?_⟩⟩
  · have q := a11 i hi
    show match sT s i with
      | none => gi m2 (100 + 2 * i) 0 = nI 0
      | some t => gi m2 (100 + 2 * i) 0 = nI 1 ∧ gi m2 (100 + 2 * i) 1 = nI t.2.1 ∧ gi m2 (100 + 2 * i) 2 = nI t.1 ∧ ∀ j, j < t.2.1 → gl m2 (101 + 2 * i) j = t.2.2 j
    cases ht : sT s i with
    | none =>
      rw [ht] at q
      exact (k _ (by unfold scx; omega) (by omega) (by omega) (by omega) (by omega) _).trans q
    | some t =>
      rw [ht] at q
      exact ⟨(k _ (by unfold scx; omega) (by omega) (by omega) (by omega) (by omega) _).trans q.1, (k _ (by unfold scx; omega) (by omega) (by omega) (by omega) (by omega) _).trans q.2.1, (k _ (by unfold scx; omega) (by omega) (by omega) (by omega) (by omega) _).trans q.2.2.1, fun j hj => ((f1 _ (by unfold scx; omega) (by omega) (by omega) (by omega) (by omega) _).2).trans (q.2.2.2 j hj)⟩
  · have q := (a13 i hi).2 y hy
    have hb := (a12.1 i hi).2.1 (by have hy2 : sIm s i = some y := hy; rw [hy2]; rfl)
    exact ⟨q.1.fr (fun c h1 h2 j => k c (by unfold scx; omega) (by omega) (by omega) (by omega) (by omega) j), q.2.fr (fun c h1 h2 j => k c (by unfold scx; omega) (by omega) (by omega) (by omega) (by omega) j)⟩
def FMH (m m2 : Mem) : Prop := (∀ c, ¬ scm c → c ≠ 0 → c ≠ 1 → ∀ j, gi m2 c j = gi m c j ∧ gl m2 c j = gl m c j) ∧ (∀ j, 2096 ≤ j → gi m2 1 j = gi m 1 j) ∧ gi m2 0 5 = gi m 0 5 ∧ gi m2 0 13 = gi m 0 13 ∧ gi m2 0 14 = gi m 0 14
theorem FMH.tr {m m1 m2 : Mem} (h1 : FMH m m1) (h2 : FMH m1 m2) : FMH m m2 :=
  ⟨fun c a b d j => ⟨((h2.1 c a b d j).1).trans (h1.1 c a b d j).1, ((h2.1 c a b d j).2).trans (h1.1 c a b d j).2⟩, fun j hj => (h2.2.1 j hj).trans (h1.2.1 j hj), h2.2.2.1.trans h1.2.2.1, h2.2.2.2.1.trans h1.2.2.2.1, h2.2.2.2.2.trans h1.2.2.2.2⟩
theorem FM.mh {m m2 : Mem} (h : FM m m2) : FMH m m2 := ⟨fun c a b _ j => h.1 c a b j, fun j _ => (h.1 1 (by unfold scm; omega) (by omega) j).1, h.2⟩
theorem FL.mh {S : Nat → Prop} {m m2 : Mem} (h : FL S m m2) (hs : ∀ c, S c → scm c) : FMH m m2 := by
  have k : ∀ c, ¬ scm c → c ≠ 1 → ∀ j, gi m2 c j = gi m c j ∧ gl m2 c j = gl m c j := fun c hc h1 j => h.1 c (fun q => hc (hs c q)) h1 j
  exact ⟨fun c a _ b j => k c a b j, fun j hj => h.2 j (by omega), (k 0 (by unfold scm; omega) (by omega) 5).1, (k 0 (by unfold scm; omega) (by omega) 13).1, (k 0 (by unfold scm; omega) (by omega) 14).1⟩
theorem FN.mh {m m2 : Mem} (h : FN m m2) : FMH m m2 := ⟨fun c _ _ b j => ⟨h.1 c b j, h.2.1 c j⟩, fun j hj => h.2.2 j (by omega), h.1 0 (by omega) 5, h.1 0 (by omega) 13, h.1 0 (by omega) 14⟩
theorem IM.fn {r : Ru} {x : Lf} {m m2 : Mem} (hT : rT r ≤ 14) (hP : rP r ≤ 8) (h : IM r x m) (hf : FN m m2) : IM r x m2 := ⟨h.1.fl hT hP (fun j hj => hf.2.2 j (by omega)), h.2.tr hT hP (fun j hj => hf.2.2 _ (by omega))⟩
theorem Mh.fl {r : Ru} {h : List Lf} {S : Nat → Prop} {m m2 : Mem} (hT : rT r ≤ 14) (hP : rP r ≤ 8) (hh : Mh r h m) (hf : FL S m m2) : Mh r h m2 := ⟨(hf.2 162 (by omega)).trans hh.1, fun i hi => (hh.2 i hi).tr hT hP (fun j hj => hf.2 _ (by omega))⟩
theorem MLaw.fo {m m2 : Mem} {c o k : Nat} {cd : Option (List Nat)} (h : MLaw m c o k cd) (hf : ∀ j, o ≤ j → gi m2 c j = gi m c j) : MLaw m2 c o k cd := by
  cases cd with
  | none => exact (hf _ (by omega)).trans h
  | some cd =>
    obtain ⟨h1, h2, f, h3, h4, h5⟩ := h
    exact ⟨(hf _ (by omega)).trans h1, (hf _ (by omega)).trans h2, f, (hf _ (by omega)).trans h3, h4, fun i hi => (hf _ (by omega)).trans (h5 i hi)⟩
theorem MR.fo {r : Ru} {m m2 : Mem} {c o : Nat} (h : MR r m c o) (hf : ∀ j, o ≤ j → gi m2 c j = gi m c j) : MR r m2 c o := by
  obtain ⟨h1, h2, h3, h4, h5, h6, h7, h8, h9⟩ := h
  exact ⟨(hf _ (by omega)).trans h1, (hf _ (by omega)).trans h2, (hf _ (by omega)).trans h3, (hf _ (by omega)).trans h4, (hf _ (by omega)).trans h5, fun t ht => (hf _ (by omega)).trans (h6 t ht), fun p hp => (hf _ (by omega)).trans (h7 p hp), h8.fo hf, h9.fo hf⟩
theorem MI.lh {s : Sg} {m m2 : Mem} {x : Lf} {h : List Lf} (hw : ∀ i y, i < 2 → sIm s i = some y → WR y.1) (hm : MI s m) (hf : FMH m m2) (hx : IM (sR s) x m2) (hh : Mh (sR s) h m2) : MI (sXH s x h) m2 := by
  obtain ⟨⟨a1, a2⟩, a3, _, ⟨a6, a7⟩, a8, a9⟩ := hm
  obtain ⟨f1, f2, f3, f4, f5⟩ := hf
  have k : ∀ c, ¬ scm c → c ≠ 0 → c ≠ 1 → ∀ j, gi m2 c j = gi m c j := fun c x y z j => (f1 c x y z j).1
  refine ⟨⟨f3.trans a1, fun i hi => (k 3 (by unfold scm; omega) (by omega) (by omega) i).trans (a2 i hi)⟩, hx, hh, ⟨f4.trans a6, f5.trans a7⟩, fun i hi => ?_, fun i hi => ?_⟩
  · have q := a8 i hi
    show match sT s i with
      | none => gi m2 14 i = NO
      | some t => gi m2 14 i = nI t.1 ∧ gi m2 15 i = nI t.2.1 ∧ ∀ l, l < t.2.1 → gl m2 16 (40 * i + l) = t.2.2 l
    cases ht : sT s i with
    | none =>
      rw [ht] at q
      exact (k 14 (by unfold scm; omega) (by omega) (by omega) _).trans q
    | some t =>
      rw [ht] at q
      exact ⟨(k 14 (by unfold scm; omega) (by omega) (by omega) _).trans q.1, (k 15 (by unfold scm; omega) (by omega) (by omega) _).trans q.2.1, fun j hj => ((f1 16 (by unfold scm; omega) (by omega) (by omega) _).2).trans (q.2.2 j hj)⟩
  · have q := a9 i hi
    show match sIm s i with
      | none => gi m2 2 i = nI 0
      | some y => gi m2 2 i = nI 1 ∧ MR y.1 m2 1 (2096 * (i + 1)) ∧ ML y.1 y.2 m2 1 (2096 * (i + 1) + 33)
    cases ht : sIm s i with
    | none =>
      rw [ht] at q
      exact (k 2 (by unfold scm; omega) (by omega) (by omega) _).trans q
    | some y =>
      rw [ht] at q
      have hwy := hw i y hi ht
      exact ⟨(k 2 (by unfold scm; omega) (by omega) (by omega) _).trans q.1, q.2.1.fo (fun j hj => f2 j (by omega)), q.2.2.tr hwy.1 hwy.2.1 (fun j hj => f2 _ (by omega))⟩
theorem WS.lh {s : Sg} {j k : Nat} {x : Lf} {h : List Lf} (hw : WS s j) (hj : j ≤ k) (hk : k ≤ 512) (hx : WL (sR s) x (bd k)) (hl : h.length ≤ 8) (hh : ∀ i, i < h.length → WL (sR s) (hg h i) (bd k)) : WS (sXH s x h) k := by
  obtain ⟨h1, h2, h3, h4, h5, h6, h7, h8, h9⟩ := hw
  exact ⟨hk, h2, h3, h4, hx, hl, hh, fun i y hi hy => ⟨(h8 i y hi hy).1, (h8 i y hi hy).2.mono (bd_le hj)⟩, h9⟩
theorem kpH_len {h : List Lf} {x : Lf} (hl : h.length ≤ 8) : (kpH h x).length ≤ 8 := by
  rw [kpH, List.length_append]
  have ht : h.tail.length = h.length - 1 := List.length_tail
  show _ + 1 ≤ 8
  split <;> omega
theorem kpH_wl {r : Ru} {h : List Lf} {x : Lf} {B : Nat} (hl : h.length ≤ 8) (hx : WL r x B) (hh : ∀ i, i < h.length → WL r (hg h i) B) : ∀ i, i < (kpH h x).length → WL r (hg (kpH h x) i) B := by
  intro i hi
  have ht : h.tail.length = h.length - 1 := List.length_tail
  rw [kpH] at hi ⊢
  rw [List.length_append] at hi
  have hi : i < (if h.length = 8 then h.tail else h).length + 1 := hi
  by_cases h8 : h.length = 8
  · rw [if_pos h8] at hi ⊢
    by_cases he : i = h.tail.length
    · subst he; rw [hg_r]; exact hx
    · rw [hg_l (by omega), hg_t]; exact hh _ (by omega)
  · rw [if_neg h8] at hi ⊢
    by_cases he : i = h.length
    · subst he; rw [hg_r]; exact hx
    · rw [hg_l (by omega)]; exact hh _ (by omega)
