/-! numbers written one by one -/
def wlg (m : Mem) (c o n : Nat) (f : Nat → Int64) : Mem := (m.1, fun b j => if b = c ∧ o ≤ j ∧ j < o + n then f (j - o) else m.2 b j)
theorem gi_wlg (m : Mem) (c o n : Nat) (f : Nat → Int64) (b j : Nat) : gi (wlg m c o n f) b j = gi m b j := rfl
theorem gl_wlg (m : Mem) (c o n : Nat) (f : Nat → Int64) (b j : Nat) : gl (wlg m c o n f) b j = if b = c ∧ o ≤ j ∧ j < o + n then f (j - o) else gl m b j := rfl
theorem wlg_z (m : Mem) (c o : Nat) (f : Nat → Int64) : wlg m c o 0 f = m := by
  refine Prod.ext rfl (funext fun b => funext fun j => ?_)
  show (if b = c ∧ o ≤ j ∧ j < o + 0 then _ else _) = _
  rw [if_neg (by omega)]
theorem wlg_s (m : Mem) (c o k : Nat) (f : Nat → Int64) (j : Nat) (hj : j = o + k) : sl (wlg m c o k f) c j (f k) = wlg m c o (k + 1) f := by
  subst hj
  refine Prod.ext rfl (funext fun b => funext fun i => ?_)
  show (if b = c ∧ i = o + k then f k else if b = c ∧ o ≤ i ∧ i < o + k then f (i - o) else m.2 b i) = (if b = c ∧ o ≤ i ∧ i < o + (k + 1) then f (i - o) else m.2 b i)
  by_cases h1 : b = c ∧ i = o + k
  · rw [if_pos h1, if_pos (by omega), show i - o = k by omega]
  · rw [if_neg h1]
    by_cases h2 : b = c ∧ o ≤ i ∧ i < o + k
    · rw [if_pos h2, if_pos (by omega)]
    · rw [if_neg h2, if_neg (by omega)]
theorem c_lay_loop {m : Mem} {a : Nat} : ∀ n k, k ≤ 40 → 40 - k < n → X9_lay_b17 a n (nI k) (wlg m (a + 1) 0 k (fun _ => 0)) = some ((), wlg m (a + 1) 0 40 (fun _ => 0)) := by
  intro n
  induction n with
  | zero => intro k _ h; omega
  | succ n ih =>
    intro k hk hn
    rw [X9_lay_b17]
    rcases Nat.eq_or_lt_of_le hk with he | hl
    · subst he
      simp (disch := omega) only [nadn, gsn, gss, gsi, if_true, if_false, chk_in, chk_tt, bq, lq, ix_nI, jle_t, jle_f, jlt_t, jlt_f, jeq_t, jeq_f, nadd, nmul, nsub, nshl, nshl2, nor, nand, nandn, ↓kn1, K0, K1, K2, K3, K4, K5, K6, K7, K8, K9, K10, K11, K12, K13, K14, K20, K24, K25, K32, K33, K40, K41, K60, K63, K64, K100, K112, K120, K128, K129, K153, K161, K162, K163, K255, K256, K900, K903, K999, K1000, K1195, K1196, K2000, K2096, K3000, K3001, K3002, K3003, K3004, K3005, K3006, K3007, K3008]
    · have ih2 := ih (k + 1) (by omega) (by omega)
      simp (disch := omega) only [nadn, gsn, gss, gsi, if_true, if_false, chk_in, chk_tt, bq, lq, ix_nI, jle_t, jle_f, jlt_t, jlt_f, jeq_t, jeq_f, nadd, nmul, nsub, nshl, nshl2, nor, nand, nandn, ↓kn1, K0, K1, K2, K3, K4, K5, K6, K7, K8, K9, K10, K11, K12, K13, K14, K20, K24, K25, K32, K33, K40, K41, K60, K63, K64, K100, K112, K120, K128, K129, K153, K161, K162, K163, K255, K256, K900, K903, K999, K1000, K1195, K1196, K2000, K2096, K3000, K3001, K3002, K3003, K3004, K3005, K3006, K3007, K3008]
      rw [wlg_s m (a + 1) 0 k (fun _ => 0) k (by omega)]
      exact ih2
theorem m_numbers_loop {m : Mem} {i e : Nat} (hi : i < 4) (he : e ≤ 40) : ∀ n k, k ≤ e → e - k < n → X12_numbers_b64 n (nI i) (nI e) (nI k) (wlg m 16 (40 * i) k (fun _ => 0)) = some (nI 0, wlg m 16 (40 * i) e (fun _ => 0)) := by
  intro n
  induction n with
  | zero => intro k _ h; omega
  | succ n ih =>
    intro k hk hn
    rw [X12_numbers_b64]
    rcases Nat.eq_or_lt_of_le hk with he | hl
    · subst he
      simp (disch := omega) only [nadn, gsn, gss, gsi, if_true, if_false, chk_in, chk_tt, bq, lq, ix_nI, jle_t, jle_f, jlt_t, jlt_f, jeq_t, jeq_f, nadd, nmul, nsub, nshl, nshl2, nor, nand, nandn, ↓kn1, K0, K1, K2, K3, K4, K5, K6, K7, K8, K9, K10, K11, K12, K13, K14, K20, K24, K25, K32, K33, K40, K41, K60, K63, K64, K100, K112, K120, K128, K129, K153, K161, K162, K163, K255, K256, K900, K903, K999, K1000, K1195, K1196, K2000, K2096, K3000, K3001, K3002, K3003, K3004, K3005, K3006, K3007, K3008]
    · have ih2 := ih (k + 1) (by omega) (by omega)
      simp (disch := omega) only [nadn, gsn, gss, gsi, if_true, if_false, chk_in, chk_tt, bq, lq, ix_nI, jle_t, jle_f, jlt_t, jlt_f, jeq_t, jeq_f, nadd, nmul, nsub, nshl, nshl2, nor, nand, nandn, ↓kn1, K0, K1, K2, K3, K4, K5, K6, K7, K8, K9, K10, K11, K12, K13, K14, K20, K24, K25, K32, K33, K40, K41, K60, K63, K64, K100, K112, K120, K128, K129, K153, K161, K162, K163, K255, K256, K900, K903, K999, K1000, K1195, K1196, K2000, K2096, K3000, K3001, K3002, K3003, K3004, K3005, K3006, K3007, K3008]
      rw [wlg_s m 16 (40 * i) k (fun _ => 0) _ (by omega)]
      exact ih2
theorem rg_prs {k : Nat} {a : Int32} (h : ¬ prs (k + 1) a) : ¬ rg 0 k a := fun ⟨n, _, h2, e⟩ => h ⟨n, by omega, e⟩
theorem St_numbers_ok : St_numbers Rel := by
  intro k N mx mm hk ⟨s, e, ib, hw, hc, hm⟩ a b c
  have fin : Rel (k + 1) N mx (si mm 0 0 (nI 0)) := Rel.rd hk hw hc hm FX.rf FM.th
  rw [X11_numbers, X12_numbers, K0, lq, K3, K40]
  by_cases ha : prs 4 a
  · obtain ⟨i, hi, rfl⟩ := ha
    rw [c_isTray_t hi, bq, jeq_f (by omega) (by omega) (by omega), wk_t l64_3 (by omega) (by omega), bq, jeq_f (by omega) (by omega) (by omega)]
    by_cases hb : rg 0 3 b
    · obtain ⟨o, _, ho, rfl⟩ := hb
      rw [jlt_f (by omega) (by omega), jle_t ho (by omega), wk_t l64_3 ho (by omega), bq, jeq_f (by omega) (by omega) (by omega)]
      by_cases hz : rg 0 40 c
      · obtain ⟨n, _, hn, rfl⟩ := hz
        rw [jlt_f (by omega) (by omega), jle_t hn (by omega), wk_t l64_40 hn (by omega), bq, jeq_f (by omega) (by omega) (by omega)]
        have e1 := fun m => c_lay_loop (m := m) (a := 100 + 2 * i) FU 0 (by omega) (by unfold FU; omega)
        have e2 := fun m => m_numbers_loop (m := m) hi hn FU 0 (by omega) (by unfold FU; omega)
        simp only [wlg_z] at e1 e2
        simp (disch := omega) only [chk_in, ix_nI, lq, X9_lay, K0, e1, e2, bq, K1]
        refine ⟨_, _, _, rfl, rfl, sTr s i (o, n, fun _ => 0), e, ib, (hw.mono (by omega) (by omega)).tray ho hn, hc.tray hi (fun c q1 q2 l => ⟨?_, ?_⟩) ?_ ?_ ?_ (fun l hl => ?_), hm.tray hi (fun c q1 q2 q3 q4 l => ?_) (fun l hl => ?_) (fun l hl => ?_) (fun l hl => ?_) (fun l hl => ?_) ?_ ?_ (fun l hl => ?_) (fun l u hl hu => (hw.2.2.2.2.2.2.2.2 l u hl hu).2)⟩
        · rw [gi_wlg, gsn q1, gsn q1, gsn q1]
        · rw [gl_wlg, if_neg (by omega)]; rfl
        · rw [gi_wlg, gsi (by omega), gsi (by omega), gss]
        · rw [gi_wlg, gss]
        · rw [gi_wlg, gsi (by omega), gss]
        · rw [gl_wlg, if_pos (by have hl : l < n := hl; omega)]
        · rw [gi_wlg, gsn q2, gsn q1, gsn q4]
        · rw [gi_wlg, gsn (by omega), gsn (by omega), gsi hl]
        · rw [gi_wlg, gsn (by omega), gsi hl, gsn (by omega)]
        · rw [gi_wlg, gsi hl, gsn (by omega), gsn (by omega)]
        · rw [gl_wlg, if_neg (by omega)]; rfl
        · rw [gi_wlg, gsn (by omega), gss]
        · rw [gi_wlg, gss]
        · rw [gl_wlg, if_pos (by have hl : l < n := hl; omega)]
      · rw [out hz (by omega) (by omega), out_w (l := 0) l64_0 l64_40 hz (by omega) (by omega), bq, jeq_t rfl]
        exact ⟨_, _, _, rfl, rfl, fin⟩
    · rw [out hb (by omega) (by omega), out_w (l := 0) l64_0 l64_3 hb (by omega) (by omega), bq, jeq_t rfl]
      exact ⟨_, _, _, rfl, rfl, fin⟩
  · rw [c_isTray_f ha, bq, jeq_t rfl, wk_f l64_3 ha (by omega), bq, jeq_t rfl]
    exact ⟨_, _, _, rfl, rfl, fin⟩
theorem c_lists_loop {r : Ru} {x : Lf} {m : Mem} {i o e : Nat} (hi : i < 4) (ho : o ≤ 3) (hP : rP r ≤ 8) (hep : e ≤ rP r) (h : IC r x m 25) (hs : gi m (100 + 2 * i) 2 = nI o) : ∀ n k, k ≤ e → e - k < n → X11_lists_b45 (100 + 2 * i) n (nI e) (nI k) (wlg m (100 + 2 * i + 1) 0 k (fun p => cutv o (Int32.toInt64 (nI (ls r x p))))) = some (nI e, wlg m (100 + 2 * i + 1) 0 e (fun p => cutv o (Int32.toInt64 (nI (ls r x p))))) := by
  intro n
  induction n with
  | zero => intro k _ h; omega
  | succ n ih =>
    intro k hk hn
    rw [X11_lists_b45]
    rcases Nat.eq_or_lt_of_le hk with he | hl
    · subst he
      simp (disch := omega) only [nadn, gsn, gss, gsi, if_true, if_false, chk_in, chk_tt, bq, lq, ix_nI, jle_t, jle_f, jlt_t, jlt_f, jeq_t, jeq_f, nadd, nmul, nsub, nshl, nshl2, nor, nand, nandn, ↓kn1, K0, K1, K2, K3, K4, K5, K6, K7, K8, K9, K10, K11, K12, K13, K14, K20, K24, K25, K32, K33, K40, K41, K60, K63, K64, K100, K112, K120, K128, K129, K153, K161, K162, K163, K255, K256, K900, K903, K999, K1000, K1195, K1196, K2000, K2096, K3000, K3001, K3002, K3003, K3004, K3005, K3006, K3007, K3008]
    · have ih2 := ih (k + 1) (by omega) (by omega)
      have e1 : gi (wlg m (100 + 2 * i + 1) 0 k (fun p => cutv o (Int32.toInt64 (nI (ls r x p))))) 29 k = nI (ls r x k) := h.list (by omega)
      have e2 := fun v => c_cut (m := wlg m (100 + 2 * i + 1) 0 k (fun p => cutv o (Int32.toInt64 (nI (ls r x p))))) (a := 100 + 2 * i) hs ho v
      simp (disch := omega) only [nadn, gsn, gss, gsi, if_true, if_false, chk_in, chk_tt, bq, lq, ix_nI, jle_t, jle_f, jlt_t, jlt_f, jeq_t, jeq_f, nadd, nmul, nsub, nshl, nshl2, nor, nand, nandn, ↓kn1, K0, K1, K2, K3, K4, K5, K6, K7, K8, K9, K10, K11, K12, K13, K14, K20, K24, K25, K32, K33, K40, K41, K60, K63, K64, K100, K112, K120, K128, K129, K153, K161, K162, K163, K255, K256, K900, K903, K999, K1000, K1195, K1196, K2000, K2096, K3000, K3001, K3002, K3003, K3004, K3005, K3006, K3007, K3008, e1, e2]
      rw [wlg_s m (100 + 2 * i + 1) 0 k (fun p => cutv o (Int32.toInt64 (nI (ls r x p)))) k (by omega)]
      exact ih2
theorem m_lists_loop {r : Ru} {x : Lf} {m : Mem} {i o e : Nat} (hi : i < 4) (ho : o ≤ 3) (g : GX r x) (hep : e ≤ rP r) (h : IM r x m) (hs : gi m 14 i = nI o) : ∀ n k, k ≤ e → e - k < n → X12_lists_b51 n (nI i) (nI e) (nI k) (wlg m 16 (40 * i) k (fun p => cutv o (Int32.toInt64 (nI (ls r x p))))) = some (nI e, wlg m 16 (40 * i) e (fun p => cutv o (Int32.toInt64 (nI (ls r x p))))) := by
  have hP := g.P
  intro n
  induction n with
  | zero => intro k _ h; omega
  | succ n ih =>
    intro k hk hn
    rw [X12_lists_b51]
    rcases Nat.eq_or_lt_of_le hk with he | hl
    · subst he
      simp (disch := omega) only [nadn, gsn, gss, gsi, if_true, if_false, chk_in, chk_tt, bq, lq, ix_nI, jle_t, jle_f, jlt_t, jlt_f, jeq_t, jeq_f, nadd, nmul, nsub, nshl, nshl2, nor, nand, nandn, ↓kn1, K0, K1, K2, K3, K4, K5, K6, K7, K8, K9, K10, K11, K12, K13, K14, K20, K24, K25, K32, K33, K40, K41, K60, K63, K64, K100, K112, K120, K128, K129, K153, K161, K162, K163, K255, K256, K900, K903, K999, K1000, K1195, K1196, K2000, K2096, K3000, K3001, K3002, K3003, K3004, K3005, K3006, K3007, K3008]
    · have ih2 := ih (k + 1) (by omega) (by omega)
      have h2 : IM r x (wlg m 16 (40 * i) k (fun p => cutv o (Int32.toInt64 (nI (ls r x p))))) := h.fr (fun j => rfl)
      have e1 : gi (wlg m 16 (40 * i) k (fun p => cutv o (Int32.toInt64 (nI (ls r x p))))) 14 i = nI o := hs
      simp (disch := omega) only [nadn, gsn, gss, gsi, if_true, if_false, chk_in, chk_tt, bq, lq, ix_nI, jle_t, jle_f, jlt_t, jlt_f, jeq_t, jeq_f, nadd, nmul, nsub, nshl, nshl2, nor, nand, nandn, ↓kn1, K0, K1, K2, K3, K4, K5, K6, K7, K8, K9, K10, K11, K12, K13, K14, K20, K24, K25, K32, K33, K40, K41, K60, K63, K64, K100, K112, K120, K128, K129, K153, K161, K162, K163, K255, K256, K900, K903, K999, K1000, K1195, K1196, K2000, K2096, K3000, K3001, K3002, K3003, K3004, K3005, K3006, K3007, K3008, m_listOf g h2 (show k < rP r by omega), e1, m_cut ho]
      rw [wlg_s m 16 (40 * i) k (fun p => cutv o (Int32.toInt64 (nI (ls r x p)))) _ (by omega)]
      exact ih2
theorem St_lists_ok : St_lists Rel := by
  intro k N mx mm hk ⟨s, e, ib, hw, hc, hm⟩ a
  have g := hw.gx
  have hT := g.T; have hP := g.P
  have h := hc.2.1
  have hm0 := hm.th
  have hi0 := hm0.2.1
  have m1 : Mtr s (si mm 0 0 (nI 0)) := hm0.2.2.2.2.1
  have fin : Rel (k + 1) N mx (si mm 0 0 (nI 0)) := Rel.rd hk hw hc hm FX.rf FM.th
  rw [X11_lists, X12_lists, K0, lq]
  by_cases ha : prs 4 a
  · obtain ⟨i, hi, rfl⟩ := ha
    rw [c_isTray_t hi, bq, jeq_f (by omega) (by omega) (by omega), chk_in hi (by omega), lq, ix_nI (by omega)]
    cases ht : sT s i with
    | none =>
      rw [c_tray0 hc.2.2.2.2.1 hi ht, jeq_t rfl, m_noTray_0 hi (m_tray0 m1 hi ht), bq, if_neg (by decide)]
      exact ⟨_, _, _, rfl, rfl, fin⟩
    | some t =>
      obtain ⟨c0, c1, c2, c3⟩ := c_tray1 hc.2.2.2.2.1 hi ht
      obtain ⟨d0, d1, d2⟩ := m_tray1 m1 hi ht
      obtain ⟨t1, t2⟩ := hw.2.2.2.2.2.2.2.2 i t hi ht
      have t1 : t.1 ≤ 3 := t1
      have t2 : t.2.1 ≤ 40 := t2
      have hPx : gi mx 2 1 = nI (rP (sR s)) := h.P
      have hE : ∃ E, E ≤ rP (sR s) ∧ E ≤ t.2.1 ∧ (if nI (rP (sR s)) < nI t.2.1 then nI (rP (sR s)) else nI t.2.1) = nI E ∧ ∀ {β : Type} (f : Int32 → β), (if nI t.2.1 ≤ nI (rP (sR s)) then f (nI t.2.1) else f (nI (rP (sR s)))) = f (nI E) := by
        by_cases hq : rP (sR s) < t.2.1
        · exact ⟨rP (sR s), by omega, by omega, by rw [jlt_t hq (by omega)], fun f => by rw [jle_f hq (by omega)]⟩
        · exact ⟨t.2.1, by omega, by omega, by rw [jlt_f (by omega) (by omega)], fun f => by rw [jle_t (by omega) (by omega)]⟩
      obtain ⟨E, E1, E2, E3, E4⟩ := hE
      have l1 := c_lists_loop hi t1 hP E1 h c2 FU 0 (by omega) (by unfold FU; omega)
      have l2 := m_lists_loop hi t1 g E1 hi0 d0 FU 0 (by omega) (by unfold FU; omega)
      rw [wlg_z] at l1 l2
      have E5 := E4 (fun v => X12_lists_b51 FU (nI i) v (nI 0) (si mm 0 0 (nI 0)))
      rw [c0, jeq_f (by omega) (by omega) (by omega), m_noTray_1 hi t1 d0, bq, jeq_t rfl]
      simp (disch := omega) only [chk_in, ix_nI, K2, d1, hi0.P, lq, hPx, c1]
      rw [E3, l1]
      refine ⟨_, _, _, rfl, E5.trans l2, sTr s i (t.1, t.2.1, fun l => if l < E then cutv t.1 (Int32.toInt64 (nI (ls (sR s) (sX s) l))) else t.2.2 l), e, ib, (hw.mono (by omega) (by omega)).tray t1 t2, hc.tray hi (fun c q1 q2 l => ⟨rfl, ?_⟩) c0 c1 c2 (fun l hl => ?_), hm.tray hi (fun c q1 q2 q3 q4 l => gsn q4) (fun l hl => gsi hl) (fun l _ => show gi (si mm 0 0 (nI 0)) 14 l = gi mm 14 l from gsn (by omega)) (fun l _ => show gi (si mm 0 0 (nI 0)) 15 l = gi mm 15 l from gsn (by omega)) (fun l hl => ?_) d0 d1 (fun l hl => ?_) (fun l u hl hu => (hw.2.2.2.2.2.2.2.2 l u hl hu).2)⟩
      · rw [gl_wlg, if_neg (by omega)]
      · have hl : l < t.2.1 := hl
        show gl (wlg mx (100 + 2 * i + 1) 0 E _) (101 + 2 * i) l = (if l < E then _ else _)
        rw [gl_wlg]
        by_cases hq : l < E
        · rw [if_pos (by omega), if_pos hq]; rfl
        · rw [if_neg (by omega), if_neg hq]; exact c3 l hl
      · rw [gl_wlg, if_neg (by omega)]; rfl
      · have hl : l < t.2.1 := hl
        show gl (wlg (si mm 0 0 (nI 0)) 16 (40 * i) E _) 16 (40 * i + l) = (if l < E then _ else _)
        rw [gl_wlg]
        by_cases hq : l < E
        · rw [if_pos (by omega), if_pos hq, show 40 * i + l - 40 * i = l by omega]
        · rw [if_neg (by omega), if_neg hq]; exact d2 l hl
  · rw [c_isTray_f ha, bq, jeq_t rfl, m_noTray_f ha, bq, if_neg (by decide)]
    exact ⟨_, _, _, rfl, rfl, fin⟩
