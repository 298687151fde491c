/-! copies, and what can be undone -/
def cq (m : Mem) (sc so dc d n : Nat) : Mem := ((fun c j => if c = dc ∧ d ≤ j ∧ j < d + n then m.1 sc (so + (j - d)) else m.1 c j), m.2)
theorem gi_cq (m : Mem) (sc so dc d n c j : Nat) : gi (cq m sc so dc d n) c j = if c = dc ∧ d ≤ j ∧ j < d + n then gi m sc (so + (j - d)) else gi m c j := rfl
theorem gl_cq (m : Mem) (sc so dc d n c j : Nat) : gl (cq m sc so dc d n) c j = gl m c j := rfl
theorem gix {m : Mem} {c a b : Nat} (h : a = b) : gi m c a = gi m c b := by rw [h]
theorem cq_z (m : Mem) (sc so dc d : Nat) : cq m sc so dc d 0 = m := by
  refine Prod.ext (funext fun c => funext fun j => ?_) rfl
  show (if c = dc ∧ d ≤ j ∧ j < d + 0 then _ else _) = _
  rw [if_neg (by omega)]
theorem cq_s (m : Mem) (sc so dc d k j : Nat) (hj : j = d + k) : si (cq m sc so dc d k) dc j (gi m sc (so + k)) = cq m sc so dc d (k + 1) := by
  subst hj
  refine Prod.ext (funext fun c => funext fun i => ?_) rfl
  show (if c = dc ∧ i = d + k then m.1 sc (so + k) else if c = dc ∧ d ≤ i ∧ i < d + k then m.1 sc (so + (i - d)) else m.1 c i) = (if c = dc ∧ d ≤ i ∧ i < d + (k + 1) then m.1 sc (so + (i - d)) else m.1 c i)
  by_cases h1 : c = dc ∧ i = d + k
  · rw [if_pos h1, if_pos (by omega), show i - d = k by omega]
  · rw [if_neg h1]
    by_cases h2 : c = dc ∧ d ≤ i ∧ i < d + k
    · rw [if_pos h2, if_pos (by omega)]
    · rw [if_neg h2, if_neg (by omega)]
theorem ML.tr {r : Ru} {x : Lf} {m m2 : Mem} {sc so dc d : Nat} (hT : rT r ≤ 14) (hP : rP r ≤ 8) (h : ML r x m sc so) (hf : ∀ j, j < 129 → gi m2 dc (d + j) = gi m sc (so + j)) : ML r x m2 dc d := by
  obtain ⟨h1, h2, h3, h4⟩ := h
  refine ⟨fun p hp => (hf p (by omega)).trans (h1 p hp), fun p t hp ht => ?_, fun p hp => ?_, (hf 128 (by omega)).trans h4⟩
  · have e := h2 p t hp ht
    rw [show so + 8 + 14 * p + t = so + (8 + 14 * p + t) by omega] at e
    rw [show d + 8 + 14 * p + t = d + (8 + 14 * p + t) by omega, hf _ (by omega), e]
  · have e := h3 p hp
    rw [show so + 120 + p = so + (120 + p) by omega] at e
    rw [show d + 120 + p = d + (120 + p) by omega, hf _ (by omega), e]
theorem CL.tr {r : Ru} {x : Lf} {m m2 : Mem} {a b : Nat} (hT : rT r ≤ 14) (hP : rP r ≤ 8) (h : CL r x m a) (h0 : gi m2 b 0 = gi m a 0) (hf : ∀ c j, (1 ≤ c ∧ c ≤ 3 ∧ j < 8) ∨ (c = 4 ∧ j < 14) ∨ (c = 5 ∧ j < 112) → gi m2 (b + c) j = gi m (a + c) j) : CL r x m2 b := by
  obtain ⟨h1, h2, h3, h4, h5, h6⟩ := h
  refine ⟨h0.trans h1, fun p hp => (hf 1 p (by omega)).trans (h2 p hp), fun p hp => (hf 2 p (by omega)).trans (h3 p hp), fun p hp => (hf 3 p (by omega)).trans (h4 p hp), fun t ht => (hf 4 t (by omega)).trans (h5 t ht), fun p t v hp ht hv => (hf 5 _ (by omega)).trans (h6 p t v hp ht hv)⟩
theorem gcn {m : Mem} {s d sp dp n c j : Nat} (h : c ≠ d) : gi (cpm m s d sp dp n) c j = gi m c j := by
  show (if c = d then _ else m.1 c j) = _
  rw [if_neg h]; rfl
theorem gcd' {m : Mem} {s d n j : Nat} (h : j < n) : gi (cpm m s d 0 0 n) d j = gi m s j := by
  show (if d = d then va_cpy (m.1 s) (m.1 d) 0 0 n j else _) = _
  rw [if_pos rfl, va_cpy, if_pos (by omega)]
  show m.1 s (0 + (j - 0)) = m.1 s j
  rw [show 0 + (j - 0) = j by omega]
theorem cpm_f {S : Nat → Prop} {m : Mem} {s d sp dp n : Nat} (h : S d) : Fr S m (cpm m s d sp dp n) := fun c hc j => ⟨gcn (fun q => hc (q ▸ h)), rfl⟩
theorem i0 : ix 0 = 0 := by decide
theorem i8 : ix 8 = 8 := by decide
theorem i14 : ix 14 = 14 := by decide
theorem i112 : ix 112 = 112 := by decide
def s05 (a c : Nat) : Prop := a ≤ c ∧ c ≤ a + 5
theorem c_become {r : Ru} {x : Lf} {m : Mem} {a b : Nat} (hT : rT r ≤ 14) (hP : rP r ≤ 8) (hab : a + 5 < b ∨ b + 5 < a) (h : CL r x m b) : ∃ m2, X5_become a b m = some ((), m2) ∧ CL r x m2 a ∧ Fr (s05 a) m m2 := by
  rw [X5_become]
  simp only [lq]
  rw [chk_tt (by decide), chk_tt (by decide), chk_tt (by decide), chk_tt (by decide), chk_tt (by decide), i0, i8, i14, i112]
  refine ⟨_, rfl, h.tr hT hP ?_ (fun c j hc => ?_), (((((Fr.si (by unfold s05; omega)).tr (cpm_f (by unfold s05; omega))).tr (cpm_f (by unfold s05; omega))).tr (cpm_f (by unfold s05; omega))).tr (cpm_f (by unfold s05; omega))).tr (cpm_f (by unfold s05; omega))⟩
  · rw [gcn (by omega), gcn (by omega), gcn (by omega), gcn (by omega), gcn (by omega), gss]
  · have hc2 : (c = 1 ∧ j < 8) ∨ (c = 2 ∧ j < 8) ∨ (c = 3 ∧ j < 8) ∨ (c = 4 ∧ j < 14) ∨ (c = 5 ∧ j < 112) := by omega
    rcases hc2 with ⟨rfl, hj⟩ | ⟨rfl, hj⟩ | ⟨rfl, hj⟩ | ⟨rfl, hj⟩ | ⟨rfl, hj⟩
    · rw [gcn (by omega), gcn (by omega), gcn (by omega), gcn (by omega), gcd' hj, gsn (by omega)]
    · rw [gcn (by omega), gcn (by omega), gcn (by omega), gcd' hj, gcn (by omega), gsn (by omega)]
    · rw [gcn (by omega), gcn (by omega), gcd' hj, gcn (by omega), gcn (by omega), gsn (by omega)]
    · rw [gcn (by omega), gcd' hj, gcn (by omega), gcn (by omega), gcn (by omega), gsn (by omega)]
    · rw [gcd' hj, gcn (by omega), gcn (by omega), gcn (by omega), gcn (by omega), gsn (by omega)]
/-- history -/
def Hs (r : Ru) (h : List Lf) (e : Nat) (m : Mem) : Prop := e < 8 ∧ gi m 40 1 = nI e ∧ gi m 40 2 = nI h.length ∧ ∀ i, i < h.length → CL r (hg h i) m (42 + 6 * ((e + i) % 8))
def Mh (r : Ru) (h : List Lf) (m : Mem) : Prop := gi m 1 162 = nI h.length ∧ ∀ i, i < h.length → ML r (hg h i) m 1 (163 + 129 * i)
def kpH (h : List Lf) (x : Lf) : List Lf := (if h.length = 8 then h.tail else h) ++ [x]
theorem hg_l {h : List Lf} {x : Lf} {i : Nat} (hi : i < h.length) : hg (h ++ [x]) i = hg h i := by
  rw [hg, hg, List.getD_eq_getElem?_getD, List.getD_eq_getElem?_getD, List.getElem?_append_left hi]
theorem hg_r {h : List Lf} {x : Lf} : hg (h ++ [x]) h.length = x := by
  rw [hg, List.getD_eq_getElem?_getD, List.getElem?_append_right (Nat.le_refl _)]
  simp
theorem hg_t {h : List Lf} {i : Nat} : hg h.tail i = hg h (i + 1) := by
  cases h with
  | nil => rfl
  | cons a h => rfl
theorem mod8 : ∀ a, a < 20 → nI a - nI a / 8 * 8 = nI (a % 8) := by decide +kernel
def s4089 (c : Nat) : Prop := 40 ≤ c ∧ c ≤ 89
theorem c_store {r : Ru} {x : Lf} {h : List Lf} {e : Nat} {m : Mem} (hT : rT r ≤ 14) (hP : rP r ≤ 8) (hl : h.length < 8) (hh : Hs r h e m) (hx : CL r x m 26) : ∃ m2, X2_keep_b32 26 m = some ((), m2) ∧ Hs r (h ++ [x]) e m2 ∧ Fr s4089 m m2 := by
  obtain ⟨h1, h2, h3, h4⟩ := hh
  rw [X2_keep_b32, h2, h3, nadd, mod8 _ (by omega)]
  have hm : (e + h.length) % 8 < 8 := by omega
  obtain ⟨m2, e1, e2, e3⟩ := c_become (a := 42 + 6 * ((e + h.length) % 8)) (b := 26) hT hP (by omega) hx
  have k40 : ∀ j, gi m2 40 j = gi m 40 j := fun j => (e3 40 (by unfold s05; omega) j).1
  rw [chk_in hm (by omega), ix_nI (by omega), lq, e1, bq, lq, k40, h3, K1, nadd]
  refine ⟨_, rfl, ⟨h1, ?_, ?_, fun i hi => ?_⟩, (e3.mono (fun c hc => by unfold s05 at hc; unfold s4089; omega)).tr (Fr.si (by unfold s4089; omega))⟩
  · rw [gsi (by omega), k40]; exact h2
  · rw [gss, List.length_append]; rfl
  · rw [List.length_append] at hi
    have hi : i < h.length + 1 := hi
    refine CL.fr (m := m2) ?_ (fun c q1 q2 j => gsn (by omega))
    by_cases hil : i = h.length
    · subst hil
      rw [hg_r]
      exact e2
    · rw [hg_l (by omega)]
      exact (h4 i (by omega)).fr (fun c q1 q2 j => (e3 c (by unfold s05; omega) j).1)
theorem c_keep {r : Ru} {x : Lf} {h : List Lf} {e : Nat} {m : Mem} (hT : rT r ≤ 14) (hP : rP r ≤ 8) (hl : h.length ≤ 8) (hh : Hs r h e m) (hx : CL r x m 26) : ∃ m2 e2, X2_keep 26 m = some ((), m2) ∧ Hs r (kpH h x) e2 m2 ∧ Fr s4089 m m2 := by
  have hh0 := hh
  obtain ⟨h1, h2, h3, h4⟩ := hh
  rw [X2_keep, h3, K8, kpH]
  by_cases h8 : h.length = 8
  · rw [jeq_t h8, h2, K1, nadd, pk_rem (by omega) (by omega) (by omega), lq, lq, gsi (by omega), h3, nsub (by omega), if_pos h8]
    have ht : h.tail.length = h.length - 1 := List.length_tail
    have hq : ∀ i, i < h.tail.length → CL r (hg h.tail i) (si (si m 40 1 (nI ((e + 1) % 8))) 40 2 (nI (h.length - 1))) (42 + 6 * (((e + 1) % 8 + i) % 8)) := fun i hi => by
      rw [hg_t]
      have q := h4 (i + 1) (by omega)
      rw [show (e + (i + 1)) % 8 = ((e + 1) % 8 + i) % 8 by omega] at q
      exact q.fr (fun c q1 q2 j => by rw [gsn (by omega), gsn (by omega)])
    obtain ⟨m2, e1, e2, e3⟩ := c_store (h := h.tail) (e := (e + 1) % 8) (m := si (si m 40 1 (nI ((e + 1) % 8))) 40 2 (nI (h.length - 1))) hT hP (by omega) ⟨by omega, by rw [gsi (by omega), gss], by rw [gss, ht], hq⟩ (hx.fr (fun c q1 q2 j => by rw [gsn (by omega), gsn (by omega)]))
    exact ⟨m2, _, e1, e2, ((Fr.si (by unfold s4089; omega)).tr (Fr.si (by unfold s4089; omega))).tr e3⟩
  · rw [jeq_f h8 (by omega) (by omega), if_neg h8]
    obtain ⟨m2, e1, e2, e3⟩ := c_store hT hP (by omega) hh0 hx
    exact ⟨m2, e, e1, e2, e3⟩
/-! the reference -/
theorem m_keeps_loop {m : Mem} : ∀ n k, k ≤ 129 → 129 - k < n → X12_keeps_b2 n (nI k) (cq m 1 33 7 0 k) = some ((), cq m 1 33 7 0 129) := by
  intro n
  induction n with
  | zero => intro k _ h; omega
  | succ n ih =>
    intro k hk hn
    rw [X12_keeps_b2]
    rcases Nat.eq_or_lt_of_le hk with he | hl
    · subst he
      simp (disch := omega) only [nadn, gsn, gss, gsi, if_true, if_false, chk_in, chk_tt, bq, lq, ix_nI, jle_t, jle_f, jlt_t, jlt_f, jeq_t, jeq_f, nadd, nmul, nsub, nshl, nshl2, nor, nand, nandn, ↓kn1, K0, K1, K2, K3, K4, K5, K6, K7, K8, K9, K10, K11, K12, K13, K14, K20, K24, K25, K32, K33, K40, K41, K60, K63, K64, K100, K112, K120, K128, K129, K153, K161, K162, K163, K255, K256, K900, K903, K999, K1000, K1195, K1196, K2000, K2096, K3000, K3001, K3002, K3003, K3004, K3005, K3006, K3007, K3008]
    · have ih2 := ih (k + 1) (by omega) (by omega)
      have e : gi (cq m 1 33 7 0 k) 1 (33 + k) = gi m 1 (33 + k) := by rw [gi_cq, if_neg (by omega)]
      simp (disch := omega) only [nadn, gsn, gss, gsi, if_true, if_false, chk_in, chk_tt, bq, lq, ix_nI, jle_t, jle_f, jlt_t, jlt_f, jeq_t, jeq_f, nadd, nmul, nsub, nshl, nshl2, nor, nand, nandn, ↓kn1, K0, K1, K2, K3, K4, K5, K6, K7, K8, K9, K10, K11, K12, K13, K14, K20, K24, K25, K32, K33, K40, K41, K60, K63, K64, K100, K112, K120, K128, K129, K153, K161, K162, K163, K255, K256, K900, K903, K999, K1000, K1195, K1196, K2000, K2096, K3000, K3001, K3002, K3003, K3004, K3005, K3006, K3007, K3008, e]
      rw [cq_s _ _ _ _ _ _ _ (by omega)]
      exact ih2
theorem m_keeps {r : Ru} {x : Lf} {m : Mem} (hT : rT r ≤ 14) (hP : rP r ≤ 8) (h : IM r x m) : ∃ m2, X12_keeps m = some ((), m2) ∧ ML r x m2 7 0 ∧ Fr (fun c => c = 7) m m2 := by
  have e := m_keeps_loop (m := m) FU 0 (by omega) (by unfold FU; omega)
  rw [cq_z] at e
  refine ⟨_, e, h.2.tr hT hP (fun j hj => ?_), fun c hc j => ⟨?_, rfl⟩⟩
  · rw [gi_cq, if_pos (by omega)]
    exact gix (by omega)
  · rw [gi_cq, if_neg (fun q => hc q.1)]
theorem m_isAgain_loop {m : Mem} : ∀ n k, k ≤ 129 → 129 - k < n → X12_isAgain_b2 n (nI k) (cq m 7 0 1 33 k) = some ((), cq m 7 0 1 33 129) := by
  intro n
  induction n with
  | zero => intro k _ h; omega
  | succ n ih =>
    intro k hk hn
    rw [X12_isAgain_b2]
    rcases Nat.eq_or_lt_of_le hk with he | hl
    · subst he
      simp (disch := omega) only [nadn, gsn, gss, gsi, if_true, if_false, chk_in, chk_tt, bq, lq, ix_nI, jle_t, jle_f, jlt_t, jlt_f, jeq_t, jeq_f, nadd, nmul, nsub, nshl, nshl2, nor, nand, nandn, ↓kn1, K0, K1, K2, K3, K4, K5, K6, K7, K8, K9, K10, K11, K12, K13, K14, K20, K24, K25, K32, K33, K40, K41, K60, K63, K64, K100, K112, K120, K128, K129, K153, K161, K162, K163, K255, K256, K900, K903, K999, K1000, K1195, K1196, K2000, K2096, K3000, K3001, K3002, K3003, K3004, K3005, K3006, K3007, K3008]
    · have ih2 := ih (k + 1) (by omega) (by omega)
      have e : gi (cq m 7 0 1 33 k) 7 k = gi m 7 (0 + k) := by rw [gi_cq, if_neg (by omega), Nat.zero_add]
      simp (disch := omega) only [nadn, gsn, gss, gsi, if_true, if_false, chk_in, chk_tt, bq, lq, ix_nI, jle_t, jle_f, jlt_t, jlt_f, jeq_t, jeq_f, nadd, nmul, nsub, nshl, nshl2, nor, nand, nandn, ↓kn1, K0, K1, K2, K3, K4, K5, K6, K7, K8, K9, K10, K11, K12, K13, K14, K20, K24, K25, K32, K33, K40, K41, K60, K63, K64, K100, K112, K120, K128, K129, K153, K161, K162, K163, K255, K256, K900, K903, K999, K1000, K1195, K1196, K2000, K2096, K3000, K3001, K3002, K3003, K3004, K3005, K3006, K3007, K3008, e]
      rw [cq_s _ _ _ _ _ _ _ (by omega)]
      exact ih2
theorem m_isAgain {r : Ru} {x y : Lf} {m : Mem} (hT : rT r ≤ 14) (hP : rP r ≤ 8) (h : IM r y m) (h7 : ML r x m 7 0) : ∃ m2, X12_isAgain m = some ((), m2) ∧ IM r x m2 ∧ FL (fun _ => False) m m2 := by
  have e := m_isAgain_loop (m := m) FU 0 (by omega) (by unfold FU; omega)
  rw [cq_z] at e
  refine ⟨_, e, ⟨h.1.fl hT hP (fun j hj => ?_), h7.tr hT hP (fun j hj => ?_)⟩, fun c _ hc j => ⟨?_, rfl⟩, fun j hj => ?_⟩
  · rw [gi_cq, if_neg (by omega)]
  · rw [gi_cq, if_pos (by omega)]
    exact gix (by omega)
  · rw [gi_cq, if_neg (fun q => hc q.1)]
  · rw [gi_cq, if_neg (by omega)]
theorem m_keepsAhead_loop {m : Mem} : ∀ n k, k ≤ 129 → 129 - k < n → X12_keepsAhead_b2 n (nI k) (cq m 1 33 13 0 k) = some ((), cq m 1 33 13 0 129) := by
  intro n
  induction n with
  | zero => intro k _ h; omega
  | succ n ih =>
    intro k hk hn
    rw [X12_keepsAhead_b2]
    rcases Nat.eq_or_lt_of_le hk with he | hl
    · subst he
      simp (disch := omega) only [nadn, gsn, gss, gsi, if_true, if_false, chk_in, chk_tt, bq, lq, ix_nI, jle_t, jle_f, jlt_t, jlt_f, jeq_t, jeq_f, nadd, nmul, nsub, nshl, nshl2, nor, nand, nandn, ↓kn1, K0, K1, K2, K3, K4, K5, K6, K7, K8, K9, K10, K11, K12, K13, K14, K20, K24, K25, K32, K33, K40, K41, K60, K63, K64, K100, K112, K120, K128, K129, K153, K161, K162, K163, K255, K256, K900, K903, K999, K1000, K1195, K1196, K2000, K2096, K3000, K3001, K3002, K3003, K3004, K3005, K3006, K3007, K3008]
    · have ih2 := ih (k + 1) (by omega) (by omega)
      have e : gi (cq m 1 33 13 0 k) 1 (33 + k) = gi m 1 (33 + k) := by rw [gi_cq, if_neg (by omega)]
      simp (disch := omega) only [nadn, gsn, gss, gsi, if_true, if_false, chk_in, chk_tt, bq, lq, ix_nI, jle_t, jle_f, jlt_t, jlt_f, jeq_t, jeq_f, nadd, nmul, nsub, nshl, nshl2, nor, nand, nandn, ↓kn1, K0, K1, K2, K3, K4, K5, K6, K7, K8, K9, K10, K11, K12, K13, K14, K20, K24, K25, K32, K33, K40, K41, K60, K63, K64, K100, K112, K120, K128, K129, K153, K161, K162, K163, K255, K256, K900, K903, K999, K1000, K1195, K1196, K2000, K2096, K3000, K3001, K3002, K3003, K3004, K3005, K3006, K3007, K3008, e]
      rw [cq_s _ _ _ _ _ _ _ (by omega)]
      exact ih2
theorem m_keepsAhead {r : Ru} {x : Lf} {m : Mem} (hT : rT r ≤ 14) (hP : rP r ≤ 8) (h : IM r x m) : ∃ m2, X12_keepsAhead m = some ((), m2) ∧ ML r x m2 13 0 ∧ Fr (fun c => c = 13) m m2 := by
  have e := m_keepsAhead_loop (m := m) FU 0 (by omega) (by unfold FU; omega)
  rw [cq_z] at e
  refine ⟨_, e, h.2.tr hT hP (fun j hj => ?_), fun c hc j => ⟨?_, rfl⟩⟩
  · rw [gi_cq, if_pos (by omega)]
    exact gix (by omega)
  · rw [gi_cq, if_neg (fun q => hc q.1)]
theorem m_isAhead_loop {m : Mem} : ∀ n k, k ≤ 129 → 129 - k < n → X12_isAhead_b2 n (nI k) (cq m 13 0 1 33 k) = some ((), cq m 13 0 1 33 129) := by
  intro n
  induction n with
  | zero => intro k _ h; omega
  | succ n ih =>
    intro k hk hn
    rw [X12_isAhead_b2]
    rcases Nat.eq_or_lt_of_le hk with he | hl
    · subst he
      simp (disch := omega) only [nadn, gsn, gss, gsi, if_true, if_false, chk_in, chk_tt, bq, lq, ix_nI, jle_t, jle_f, jlt_t, jlt_f, jeq_t, jeq_f, nadd, nmul, nsub, nshl, nshl2, nor, nand, nandn, ↓kn1, K0, K1, K2, K3, K4, K5, K6, K7, K8, K9, K10, K11, K12, K13, K14, K20, K24, K25, K32, K33, K40, K41, K60, K63, K64, K100, K112, K120, K128, K129, K153, K161, K162, K163, K255, K256, K900, K903, K999, K1000, K1195, K1196, K2000, K2096, K3000, K3001, K3002, K3003, K3004, K3005, K3006, K3007, K3008]
    · have ih2 := ih (k + 1) (by omega) (by omega)
      have e : gi (cq m 13 0 1 33 k) 13 k = gi m 13 (0 + k) := by rw [gi_cq, if_neg (by omega), Nat.zero_add]
      simp (disch := omega) only [nadn, gsn, gss, gsi, if_true, if_false, chk_in, chk_tt, bq, lq, ix_nI, jle_t, jle_f, jlt_t, jlt_f, jeq_t, jeq_f, nadd, nmul, nsub, nshl, nshl2, nor, nand, nandn, ↓kn1, K0, K1, K2, K3, K4, K5, K6, K7, K8, K9, K10, K11, K12, K13, K14, K20, K24, K25, K32, K33, K40, K41, K60, K63, K64, K100, K112, K120, K128, K129, K153, K161, K162, K163, K255, K256, K900, K903, K999, K1000, K1195, K1196, K2000, K2096, K3000, K3001, K3002, K3003, K3004, K3005, K3006, K3007, K3008, e]
      rw [cq_s _ _ _ _ _ _ _ (by omega)]
      exact ih2
theorem m_isAhead {r : Ru} {x y : Lf} {m : Mem} (hT : rT r ≤ 14) (hP : rP r ≤ 8) (h : IM r y m) (h7 : ML r x m 13 0) : ∃ m2, X12_isAhead m = some ((), m2) ∧ IM r x m2 ∧ FL (fun _ => False) m m2 := by
  have e := m_isAhead_loop (m := m) FU 0 (by omega) (by unfold FU; omega)
  rw [cq_z] at e
  refine ⟨_, e, ⟨h.1.fl hT hP (fun j hj => ?_), h7.tr hT hP (fun j hj => ?_)⟩, fun c _ hc j => ⟨?_, rfl⟩, fun j hj => ?_⟩
  · rw [gi_cq, if_neg (by omega)]
  · rw [gi_cq, if_pos (by omega)]
    exact gix (by omega)
  · rw [gi_cq, if_neg (fun q => hc q.1)]
  · rw [gi_cq, if_neg (by omega)]
