/-! trays -/
def sTr (s : Sg) (i : Nat) (t : Tr) : Sg := (s.1, s.2.1, s.2.2.1, s.2.2.2.1, s.2.2.2.2.1, (fun j => if j = i then some t else sT s j), s.2.2.2.2.2.2)
theorem CI.tray {s : Sg} {e : Nat} {ib : Nat → Nat} {N : Nat} {m m2 : Mem} (h : CI s e ib N m) {i : Nat} (hi4 : i < 4) {t : Tr} (hf : ∀ c, c ≠ 100 + 2 * i → c ≠ 101 + 2 * i → ∀ j, gi m2 c j = gi m c j ∧ gl m2 c j = gl m c j) (h0 : gi m2 (100 + 2 * i) 0 = nI 1) (h1 : gi m2 (100 + 2 * i) 1 = nI t.2.1) (h2 : gi m2 (100 + 2 * i) 2 = nI t.1) (h3 : ∀ j, j < t.2.1 → gl m2 (101 + 2 * i) j = t.2.2 j) : CI (sTr s i t) e ib N m2 := by
  obtain ⟨⟨a1, a2⟩, a3, ⟨a4, a5, a6, a7⟩, ⟨a8, a9, a10⟩, a11, a12, a13⟩ := h
  have k : ∀ c, c ≠ 100 + 2 * i → c ≠ 101 + 2 * i → ∀ j, gi m2 c j = gi m c j := fun c x y j => (hf c x y j).1
  refine ⟨⟨(k 0 (by omega) (by omega) 1).trans a1, fun j hj => (k 1 (by omega) (by omega) j).trans (a2 j hj)⟩, a3.fr (fun c hc j => k c (by omega) (by omega) j), ⟨a4, (k 40 (by omega) (by omega) 1).trans a5, (k 40 (by omega) (by omega) 2).trans a6, fun j hj => (a7 j hj).fr (fun c h1 h2 l => k c (by omega) (by omega) l)⟩, ⟨⟨by rw [k 39 (by omega) (by omega)]; exact a8.1, fun j hj => (k 108 (by omega) (by omega) j).trans (a8.2 j hj)⟩, (k 39 (by omega) (by omega) 8).trans a9, (k 39 (by omega) (by omega) 9).trans a10⟩, fun j hj => ?_, a12, fun j hj => ⟨(k 108 (by omega) (by omega) j).trans (a13 j hj).1, fun y hy => ?_⟩⟩
  · show match (if j = i then some t else sT s j) with
      | none => gi m2 (100 + 2 * j) 0 = nI 0
      | some t => gi m2 (100 + 2 * j) 0 = nI 1 ∧ gi m2 (100 + 2 * j) 1 = nI t.2.1 ∧ gi m2 (100 + 2 * j) 2 = nI t.1 ∧ ∀ l, l < t.2.1 → gl m2 (101 + 2 * j) l = t.2.2 l
    by_cases hji : j = i
    · subst hji
      rw [if_pos rfl]
      exact ⟨h0, h1, h2, h3⟩
    · rw [if_neg hji]
      have q := a11 j hj
      cases ht : sT s j with
      | none =>
        rw [ht] at q
        exact (k _ (by omega) (by omega) _).trans q
      | some u =>
        rw [ht] at q
        exact ⟨(k _ (by omega) (by omega) _).trans q.1, (k _ (by omega) (by omega) _).trans q.2.1, (k _ (by omega) (by omega) _).trans q.2.2.1, fun l hl => ((hf _ (by omega) (by omega) _).2).trans (q.2.2.2 l hl)⟩
  · have q := (a13 j hj).2 y hy
    have hb := (a12.1 j hj).2.1 (by have hy2 : sIm s j = some y := hy; rw [hy2]; rfl)
    exact ⟨q.1.fr (fun c h1 h2 l => k c (by omega) (by omega) l), q.2.fr (fun c h1 h2 l => k c (by omega) (by omega) l)⟩
theorem MI.tray {s : Sg} {m m2 : Mem} (h : MI s m) {i : Nat} (hi4 : i < 4) {t : Tr} (hf : ∀ c, c ≠ 14 → c ≠ 15 → c ≠ 16 → c ≠ 0 → ∀ j, gi m2 c j = gi m c j) (hf0 : ∀ j, j ≠ 0 → gi m2 0 j = gi m 0 j) (h14 : ∀ j, j ≠ i → gi m2 14 j = gi m 14 j) (h15 : ∀ j, j ≠ i → gi m2 15 j = gi m 15 j) (h16 : ∀ j, (j < 40 * i ∨ 40 * i + 40 ≤ j) → gl m2 16 j = gl m 16 j) (g1 : gi m2 14 i = nI t.1) (g2 : gi m2 15 i = nI t.2.1) (g3 : ∀ j, j < t.2.1 → gl m2 16 (40 * i + j) = t.2.2 j) (hw : ∀ j u, j < 4 → sT s j = some u → u.2.1 ≤ 40) : MI (sTr s i t) m2 := by
  obtain ⟨⟨a1, a2⟩, a3, ⟨a4, a5⟩, ⟨a6, a7⟩, a8, a9⟩ := h
  have k1 := hf 1 (by omega) (by omega) (by omega) (by omega)
  refine ⟨⟨(hf0 5 (by omega)).trans a1, fun j hj => (hf 3 (by omega) (by omega) (by omega) (by omega) j).trans (a2 j hj)⟩, a3.fr k1, ⟨(k1 _).trans a4, fun j hj => (a5 j hj).fr k1⟩, ⟨(hf0 13 (by omega)).trans a6, (hf0 14 (by omega)).trans a7⟩, fun j hj => ?_, fun j hj => ?_⟩
  · show match (if j = i then some t else sT s j) with
      | none => gi m2 14 j = NO
      | some t => gi m2 14 j = nI t.1 ∧ gi m2 15 j = nI t.2.1 ∧ ∀ l, l < t.2.1 → gl m2 16 (40 * j + l) = t.2.2 l
    by_cases hji : j = i
    · subst hji
      rw [if_pos rfl]
      exact ⟨g1, g2, g3⟩
    · rw [if_neg hji]
      have q := a8 j hj
      cases ht : sT s j with
      | none =>
        rw [ht] at q
        exact (h14 j hji).trans q
      | some u =>
        rw [ht] at q
        have hu := hw j u hj ht
        exact ⟨(h14 j hji).trans q.1, (h15 j hji).trans q.2.1, fun l hl => (h16 _ (by omega)).trans (q.2.2 l hl)⟩
  · have q := a9 j hj
    show match sIm s j with
      | none => gi m2 2 j = nI 0
      | some y => gi m2 2 j = nI 1 ∧ MR y.1 m2 1 (2096 * (j + 1)) ∧ ML y.1 y.2 m2 1 (2096 * (j + 1) + 33)
    cases ht : sIm s j with
    | none =>
      rw [ht] at q
      exact (hf 2 (by omega) (by omega) (by omega) (by omega) _).trans q
    | some y =>
      rw [ht] at q
      exact ⟨(hf 2 (by omega) (by omega) (by omega) (by omega) _).trans q.1, q.2.1.fr k1, q.2.2.fr k1⟩
theorem WS.tray {s : Sg} {k : Nat} (h : WS s k) {i : Nat} {t : Tr} (h1 : t.1 ≤ 3) (h2 : t.2.1 ≤ 40) : WS (sTr s i t) k := by
  obtain ⟨a1, a2, a3, a4, a5, a6, a7, a8, a9⟩ := h
  refine ⟨a1, a2, a3, a4, a5, a6, a7, a8, fun j u hj hu => ?_⟩
  have hu : (if j = i then some t else sT s j) = some u := hu
  by_cases hji : j = i
  · rw [if_pos hji] at hu
    injection hu with hu
    subst hu
    exact ⟨h1, h2⟩
  · rw [if_neg hji] at hu
    exact a9 j u hj hu
def cutv (o : Nat) (v : Int64) : Int64 := if o = 0 then Int32.toInt64 (Int64.toInt32 v).toInt8.toInt32 else if o = 1 then Int32.toInt64 (Int64.toInt32 v).toInt16.toInt32 else if o = 2 then Int32.toInt64 (Int64.toInt32 v) else v
theorem cut_o {o : Nat} (h : o ≤ 3) : o = 0 ∨ o = 1 ∨ o = 2 ∨ o = 3 := by omega
theorem c_cut {m : Mem} {a o : Nat} (h : gi m a 2 = nI o) (ho : o ≤ 3) (v : Int64) : X9_cut a v m = some (cutv o v, m) := by
  rw [X9_cut, h]
  rcases cut_o ho with e | e | e | e <;> subst e <;> rfl
theorem m_cut {m : Mem} {o : Nat} (ho : o ≤ 3) (v : Int64) : X12_cut v (nI o) m = some (cutv o v, m) := by
  rw [X12_cut]
  rcases cut_o ho with e | e | e | e <;> subst e <;> rfl
theorem c_isTray_t {n : Nat} (h : n < 4) (m : Mem) : X11_isTray (nI n) m = some (nI 1, m) := by
  rw [X11_isTray]
  simp (disch := omega) only [nadn, gsn, gss, gsi, if_true, if_false, chk_in, chk_tt, bq, lq, ix_nI, jle_t, jle_f, jlt_t, jlt_f, jeq_t, jeq_f, nadd, nmul, nsub, nshl, nshl2, nor, nand, nandn, ↓kn1, K0, K1, K2, K3, K4, K5, K6, K7, K8, K9, K10, K11, K12, K13, K14, K20, K24, K25, K32, K33, K40, K41, K60, K63, K64, K100, K112, K120, K128, K129, K153, K161, K162, K163, K255, K256, K900, K903, K999, K1000, K1195, K1196, K2000, K2096, K3000, K3001, K3002, K3003, K3004, K3005, K3006, K3007, K3008]
theorem c_isTray_f {a : Int32} (h : ¬ prs 4 a) (m : Mem) : X11_isTray a m = some (nI 0, m) := by
  rw [prs_iff (by omega), le_iff, lt_iff, zI, tI (by omega)] at h
  rw [X11_isTray]
  by_cases h0 : a < 0
  · rw [if_pos h0]; rfl
  · rw [if_neg h0, if_pos]
    · rfl
    · rw [lt_iff, zI] at h0
      rw [le_iff, show (4 : Int32).toInt = 4 by decide]
      omega
theorem l64_3 : (3 : Int64) = Int32.toInt64 (nI 3) := by decide
theorem l64_40 : (40 : Int64) = Int32.toInt64 (nI 40) := by decide
theorem c_tray0 {s : Sg} {m : Mem} (h : Ctr s m) {i : Nat} (hi : i < 4) (hn : sT s i = none) : gi m (100 + 2 * i) 0 = nI 0 := by
  have q := h i hi
  rw [hn] at q
  exact q
theorem c_tray1 {s : Sg} {m : Mem} (h : Ctr s m) {i : Nat} (hi : i < 4) {t : Tr} (hn : sT s i = some t) : gi m (100 + 2 * i) 0 = nI 1 ∧ gi m (100 + 2 * i) 1 = nI t.2.1 ∧ gi m (100 + 2 * i) 2 = nI t.1 ∧ ∀ j, j < t.2.1 → gl m (101 + 2 * i) j = t.2.2 j := by
  have q := h i hi
  rw [hn] at q
  exact q
theorem m_tray0 {s : Sg} {m : Mem} (h : Mtr s m) {i : Nat} (hi : i < 4) (hn : sT s i = none) : gi m 14 i = NO := by
  have q := h i hi
  rw [hn] at q
  exact q
theorem m_tray1 {s : Sg} {m : Mem} (h : Mtr s m) {i : Nat} (hi : i < 4) {t : Tr} (hn : sT s i = some t) : gi m 14 i = nI t.1 ∧ gi m 15 i = nI t.2.1 ∧ ∀ j, j < t.2.1 → gl m 16 (40 * i + j) = t.2.2 j := by
  have q := h i hi
  rw [hn] at q
  exact q
theorem m_noTray_f {a : Int32} (h : ¬ prs 4 a) (m : Mem) : X12_noTray a m = some (-2, m) := by
  rw [X12_noTray, K0, wl_n l64_0 l64_3 (l := 0) h (by omega) (by omega), bq, jeq_t rfl]
theorem m_noTray_0 {m : Mem} {i : Nat} (hi : i < 4) (h : gi m 14 i = NO) : X12_noTray (nI i) m = some (-6, m) := by
  rw [X12_noTray, K0, wl_t l64_0 l64_3 (l := 0) (by omega) (by omega) (by omega), bq, jeq_f (by omega) (by omega) (by omega), chk_in (by omega) (by omega), ix_nI (by omega), h, kn1, jm_t]
theorem m_noTray_1 {m : Mem} {i o : Nat} (hi : i < 4) (ho : o ≤ 3) (h : gi m 14 i = nI o) : X12_noTray (nI i) m = some (nI 0, m) := by
  rw [X12_noTray, K0, wl_t l64_0 l64_3 (l := 0) (by omega) (by omega) (by omega), bq, jeq_f (by omega) (by omega) (by omega), chk_in (by omega) (by omega), ix_nI (by omega), h, kn1, jm_f (by omega)]
theorem gls {m : Mem} {a j : Nat} {v : Int64} : gl (sl m a j v) a j = v := by rw [gl_sl, if_pos ⟨rfl, rfl⟩]
theorem gln {m : Mem} {a j b i : Nat} {v : Int64} (h : b ≠ a) : gl (sl m a j v) b i = gl m b i := by rw [gl_sl, if_neg (fun q => h q.1)]
theorem gli {m : Mem} {a j i : Nat} {v : Int64} (h : i ≠ j) : gl (sl m a j v) a i = gl m a i := by rw [gl_sl, if_neg (fun q => h q.2)]
