/-! who angers whom -/
def ors (f : Nat → Nat) : Nat → Nat
  | 0 => 0
  | n + 1 => ors f n ||| f n
theorem ors_lt {f : Nat → Nat} {b : Nat} : ∀ {n : Nat}, (∀ i, i < n → f i < 2 ^ b) → ors f n < 2 ^ b
  | 0, _ => Nat.two_pow_pos b
  | n + 1, h => Nat.or_lt_two_pow (ors_lt (fun i hi => h i (by omega))) (h n (by omega))
theorem ors_and (f : Nat → Nat) (v : Nat) : ∀ n, v &&& ors f n = ors (fun i => v &&& f i) n
  | 0 => by show v &&& 0 = 0; simp
  | n + 1 => by
    show v &&& (ors f n ||| f n) = ors (fun i => v &&& f i) n ||| (v &&& f n)
    rw [Nat.and_or_distrib_left, ors_and f v n]
theorem ors_cong {f g : Nat → Nat} : ∀ {n : Nat}, (∀ i, i < n → f i = g i) → ors f n = ors g n
  | 0, _ => rfl
  | n + 1, h => by
    show ors f n ||| f n = ors g n ||| g n
    rw [ors_cong (fun i hi => h i (by omega)), h n (by omega)]
def trb (r : Ru) (p q : Nat) : Nat := if q = p then 0 else rtr r q
theorem c_traitsBut_loop {r : Ru} {x : Lf} {m : Mem} {a : Nat} (g : GX r x) (h : IC r x m a) {p : Nat} (hp : p < rP r) : ∀ n k, k ≤ rP r → rP r - k < n → X8_traitsBut_b4 2 n (nI p) (nI (ors (trb r p) k)) (nI k) m = some (nI (ors (trb r p) (rP r)), m) := by
  have hT := g.T; have hP := g.P
  intro n
  induction n with
  | zero => intro k _ h; omega
  | succ n ih =>
    intro k hk hn
    rw [X8_traitsBut_b4]
    rcases Nat.eq_or_lt_of_le hk with he | hl
    · subst he
      simp (disch := omega) only [nadn, gsn, gss, gsi, if_true, if_false, chk_in, chk_tt, bq, lq, ix_nI, jle_t, jle_f, jlt_t, jlt_f, jeq_t, jeq_f, nadd, nmul, nsub, nshl, nshl2, nor, nand, nandn, ↓kn1, K0, K1, K2, K3, K4, K5, K6, K7, K8, K9, K10, K11, K12, K13, K14, K20, K24, K25, K32, K33, K40, K41, K60, K63, K64, K100, K112, K120, K128, K129, K153, K161, K162, K163, K255, K256, K900, K903, K999, K1000, K1195, K1196, K2000, K2096, K3000, K3001, K3002, K3003, K3004, K3005, K3006, K3007, K3008, h.P]
    · have ih2 := ih (k + 1) (by omega) (by omega)
      have e : gi m (2 + 2) k = nI (rtr r k) := h.tr hl
      by_cases hx : k = p
      · rw [ors, trb, if_pos hx] at ih2
        simp (disch := omega) only [nadn, gsn, gss, gsi, if_true, if_false, chk_in, chk_tt, bq, lq, ix_nI, jle_t, jle_f, jlt_t, jlt_f, jeq_t, jeq_f, nadd, nmul, nsub, nshl, nshl2, nor, nand, nandn, ↓kn1, K0, K1, K2, K3, K4, K5, K6, K7, K8, K9, K10, K11, K12, K13, K14, K20, K24, K25, K32, K33, K40, K41, K60, K63, K64, K100, K112, K120, K128, K129, K153, K161, K162, K163, K255, K256, K900, K903, K999, K1000, K1195, K1196, K2000, K2096, K3000, K3001, K3002, K3003, K3004, K3005, K3006, K3007, K3008, h.P]
        simpa using ih2
      · rw [ors, trb, if_neg hx] at ih2
        simp (disch := omega) only [nadn, gsn, gss, gsi, if_true, if_false, chk_in, chk_tt, bq, lq, ix_nI, jle_t, jle_f, jlt_t, jlt_f, jeq_t, jeq_f, nadd, nmul, nsub, nshl, nshl2, nor, nand, nandn, ↓kn1, K0, K1, K2, K3, K4, K5, K6, K7, K8, K9, K10, K11, K12, K13, K14, K20, K24, K25, K32, K33, K40, K41, K60, K63, K64, K100, K112, K120, K128, K129, K153, K161, K162, K163, K255, K256, K900, K903, K999, K1000, K1195, K1196, K2000, K2096, K3000, K3001, K3002, K3003, K3004, K3005, K3006, K3007, K3008, h.P, e]
        exact ih2
theorem c_traitsBut {r : Ru} {x : Lf} {m : Mem} {a : Nat} (g : GX r x) (h : IC r x m a) {p : Nat} (hp : p < rP r) : X8_traitsBut 2 (nI p) m = some (nI (ors (trb r p) (rP r)), m) :=
  c_traitsBut_loop g h hp FU 0 (by omega) (by have := g.P; unfold FU; omega)
def ang (r : Ru) (x : Lf) (p : Nat) : Nat := ls r x p &&& ors (trb r p) (rP r)
theorem m_angersOf_loop {r : Ru} {x : Lf} {m : Mem} (g : GX r x) (h : IM r x m) {p : Nat} (hp : p < rP r) : ∀ n k, k ≤ rP r → rP r - k < n → X12_angersOf_b4 n (nI p) (nI (ors (fun q => ls r x p &&& trb r p q) k)) (nI k) m = some (nI (ang r x p), m) := by
  have hT := g.T; have hP := g.P
  intro n
  induction n with
  | zero => intro k _ h; omega
  | succ n ih =>
    intro k hk hn
    rw [X12_angersOf_b4]
    rcases Nat.eq_or_lt_of_le hk with he | hl
    · subst he
      simp (disch := omega) only [nadn, gsn, gss, gsi, if_true, if_false, chk_in, chk_tt, bq, lq, ix_nI, jle_t, jle_f, jlt_t, jlt_f, jeq_t, jeq_f, nadd, nmul, nsub, nshl, nshl2, nor, nand, nandn, ↓kn1, K0, K1, K2, K3, K4, K5, K6, K7, K8, K9, K10, K11, K12, K13, K14, K20, K24, K25, K32, K33, K40, K41, K60, K63, K64, K100, K112, K120, K128, K129, K153, K161, K162, K163, K255, K256, K900, K903, K999, K1000, K1195, K1196, K2000, K2096, K3000, K3001, K3002, K3003, K3004, K3005, K3006, K3007, K3008, h.P]
      rw [ang, ors_and]
    · have ih2 := ih (k + 1) (by omega) (by omega)
      by_cases hx : k = p
      · rw [ors, trb, if_pos hx] at ih2
        simp (disch := omega) only [nadn, gsn, gss, gsi, if_true, if_false, chk_in, chk_tt, bq, lq, ix_nI, jle_t, jle_f, jlt_t, jlt_f, jeq_t, jeq_f, nadd, nmul, nsub, nshl, nshl2, nor, nand, nandn, ↓kn1, K0, K1, K2, K3, K4, K5, K6, K7, K8, K9, K10, K11, K12, K13, K14, K20, K24, K25, K32, K33, K40, K41, K60, K63, K64, K100, K112, K120, K128, K129, K153, K161, K162, K163, K255, K256, K900, K903, K999, K1000, K1195, K1196, K2000, K2096, K3000, K3001, K3002, K3003, K3004, K3005, K3006, K3007, K3008, h.P]
        simpa using ih2
      · rw [ors, trb, if_neg hx] at ih2
        simp (disch := omega) only [nadn, gsn, gss, gsi, if_true, if_false, chk_in, chk_tt, bq, lq, ix_nI, jle_t, jle_f, jlt_t, jlt_f, jeq_t, jeq_f, nadd, nmul, nsub, nshl, nshl2, nor, nand, nandn, ↓kn1, K0, K1, K2, K3, K4, K5, K6, K7, K8, K9, K10, K11, K12, K13, K14, K20, K24, K25, K32, K33, K40, K41, K60, K63, K64, K100, K112, K120, K128, K129, K153, K161, K162, K163, K255, K256, K900, K903, K999, K1000, K1195, K1196, K2000, K2096, K3000, K3001, K3002, K3003, K3004, K3005, K3006, K3007, K3008, h.P, h.tr hl, m_listOf g h hp]
        exact ih2
theorem m_angersOf {r : Ru} {x : Lf} {m : Mem} (g : GX r x) (h : IM r x m) {p : Nat} (hp : p < rP r) : X12_angersOf (nI p) m = some (nI (ang r x p), m) :=
  m_angersOf_loop g h hp FU 0 (by omega) (by have := g.P; unfold FU; omega)
theorem c_peace_loop {r : Ru} {x : Lf} {m : Mem} (g : GX r x) (h : IC r x m 25) : ∀ n k, k ≤ rP r → rP r - k < n → X11_peace_b4 n (nI (ors (ang r x) k)) (nI k) m = some (nI (ors (ang r x) (rP r)), m) := by
  have hT := g.T; have hP := g.P
  intro n
  induction n with
  | zero => intro k _ h; omega
  | succ n ih =>
    intro k hk hn
    rw [X11_peace_b4]
    rcases Nat.eq_or_lt_of_le hk with he | hl
    · subst he
      simp (disch := omega) only [nadn, gsn, gss, gsi, if_true, if_false, chk_in, chk_tt, bq, lq, ix_nI, jle_t, jle_f, jlt_t, jlt_f, jeq_t, jeq_f, nadd, nmul, nsub, nshl, nshl2, nor, nand, nandn, ↓kn1, K0, K1, K2, K3, K4, K5, K6, K7, K8, K9, K10, K11, K12, K13, K14, K20, K24, K25, K32, K33, K40, K41, K60, K63, K64, K100, K112, K120, K128, K129, K153, K161, K162, K163, K255, K256, K900, K903, K999, K1000, K1195, K1196, K2000, K2096, K3000, K3001, K3002, K3003, K3004, K3005, K3006, K3007, K3008, h.P]
    · have ih2 := ih (k + 1) (by omega) (by omega)
      have e : gi m 29 k = nI (ls r x k) := h.list hl
      simp (disch := omega) only [nadn, gsn, gss, gsi, if_true, if_false, chk_in, chk_tt, bq, lq, ix_nI, jle_t, jle_f, jlt_t, jlt_f, jeq_t, jeq_f, nadd, nmul, nsub, nshl, nshl2, nor, nand, nandn, ↓kn1, K0, K1, K2, K3, K4, K5, K6, K7, K8, K9, K10, K11, K12, K13, K14, K20, K24, K25, K32, K33, K40, K41, K60, K63, K64, K100, K112, K120, K128, K129, K153, K161, K162, K163, K255, K256, K900, K903, K999, K1000, K1195, K1196, K2000, K2096, K3000, K3001, K3002, K3003, K3004, K3005, K3006, K3007, K3008, h.P, e, c_traitsBut g h hl]
      exact ih2
theorem m_peace_loop {r : Ru} {x : Lf} {m : Mem} (g : GX r x) (h : IM r x m) : ∀ n k, k ≤ rP r → rP r - k < n → X12_peace_b9 n (nI (ors (ang r x) k)) (nI k) m = some (nI (ors (ang r x) (rP r)), m) := by
  have hT := g.T; have hP := g.P
  intro n
  induction n with
  | zero => intro k _ h; omega
  | succ n ih =>
    intro k hk hn
    rw [X12_peace_b9]
    rcases Nat.eq_or_lt_of_le hk with he | hl
    · subst he
      simp (disch := omega) only [nadn, gsn, gss, gsi, if_true, if_false, chk_in, chk_tt, bq, lq, ix_nI, jle_t, jle_f, jlt_t, jlt_f, jeq_t, jeq_f, nadd, nmul, nsub, nshl, nshl2, nor, nand, nandn, ↓kn1, K0, K1, K2, K3, K4, K5, K6, K7, K8, K9, K10, K11, K12, K13, K14, K20, K24, K25, K32, K33, K40, K41, K60, K63, K64, K100, K112, K120, K128, K129, K153, K161, K162, K163, K255, K256, K900, K903, K999, K1000, K1195, K1196, K2000, K2096, K3000, K3001, K3002, K3003, K3004, K3005, K3006, K3007, K3008, h.P]
    · have ih2 := ih (k + 1) (by omega) (by omega)
      simp (disch := omega) only [nadn, gsn, gss, gsi, if_true, if_false, chk_in, chk_tt, bq, lq, ix_nI, jle_t, jle_f, jlt_t, jlt_f, jeq_t, jeq_f, nadd, nmul, nsub, nshl, nshl2, nor, nand, nandn, ↓kn1, K0, K1, K2, K3, K4, K5, K6, K7, K8, K9, K10, K11, K12, K13, K14, K20, K24, K25, K32, K33, K40, K41, K60, K63, K64, K100, K112, K120, K128, K129, K153, K161, K162, K163, K255, K256, K900, K903, K999, K1000, K1195, K1196, K2000, K2096, K3000, K3001, K3002, K3003, K3004, K3005, K3006, K3007, K3008, h.P, m_angersOf g h hl]
      exact ih2
theorem St_peace_ok : St_peace Rel := by
  intro k N mx mm hk ⟨s, e, ib, hw, hc, hm⟩
  have g := hw.gx
  have hT := g.T; have hP := g.P
  have h := hc.2.1
  have hi := hm.2.1.si (c := 0) (by decide) 0 (nI 0)
  have e1 := c_peace_loop g h FU 0 (by omega) (by unfold FU; omega)
  have e2 := m_peace_loop g hi FU 0 (by omega) (by unfold FU; omega)
  rw [X11_peace, X12_peace, K0, lq]
  exact ⟨_, _, _, e1, e2, Rel.rd hk hw hc hm FX.rf FM.th⟩
theorem ang_lt {r : Ru} {x : Lf} (g : GX r x) (p : Nat) : ang r x p < 16384 := and_lt14 (ls_lt g.T x p)
theorem c_angry_loop {r : Ru} {x : Lf} {m : Mem} (g : GX r x) (h : IC r x m 25) : ∀ n k, k ≤ rP r → rP r - k < n → X11_angry_b4 n (nI (bs k (fun p => decide (ang r x p ≠ 0)))) (nI k) m = some (nI (bs (rP r) (fun p => decide (ang r x p ≠ 0))), m) := by
  have hT := g.T; have hP := g.P
  intro n
  induction n with
  | zero => intro k _ h; omega
  | succ n ih =>
    intro k hk hn
    rw [X11_angry_b4]
    rcases Nat.eq_or_lt_of_le hk with he | hl
    · subst he
      simp (disch := omega) only [nadn, gsn, gss, gsi, if_true, if_false, chk_in, chk_tt, bq, lq, ix_nI, jle_t, jle_f, jlt_t, jlt_f, jeq_t, jeq_f, nadd, nmul, nsub, nshl, nshl2, nor, nand, nandn, ↓kn1, K0, K1, K2, K3, K4, K5, K6, K7, K8, K9, K10, K11, K12, K13, K14, K20, K24, K25, K32, K33, K40, K41, K60, K63, K64, K100, K112, K120, K128, K129, K153, K161, K162, K163, K255, K256, K900, K903, K999, K1000, K1195, K1196, K2000, K2096, K3000, K3001, K3002, K3003, K3004, K3005, K3006, K3007, K3008, h.P]
    · have ih2 := ih (k + 1) (by omega) (by omega)
      have e : gi m 29 k = nI (ls r x k) := h.list hl
      have hb := ang_lt (x := x) g k
      have ea : ls r x k &&& ors (trb r k) (rP r) = ang r x k := rfl
      simp (disch := omega) only [nadn, gsn, gss, gsi, if_true, if_false, chk_in, chk_tt, bq, lq, ix_nI, jle_t, jle_f, jlt_t, jlt_f, jeq_t, jeq_f, nadd, nmul, nsub, nshl, nshl2, nor, nand, nandn, ↓kn1, K0, K1, K2, K3, K4, K5, K6, K7, K8, K9, K10, K11, K12, K13, K14, K20, K24, K25, K32, K33, K40, K41, K60, K63, K64, K100, K112, K120, K128, K129, K153, K161, K162, K163, K255, K256, K900, K903, K999, K1000, K1195, K1196, K2000, K2096, K3000, K3001, K3002, K3003, K3004, K3005, K3006, K3007, K3008, h.P, e, c_traitsBut g h hl, ea]
      rw [bs] at ih2
      by_cases hx : ang r x k = 0
      · rw [if_pos (by rw [hx])]
        simpa [hx] using ih2
      · rw [if_neg (fun q => hx (nI_inj (by omega) (by omega) q))]
        simpa [hx] using ih2
theorem m_angry_loop {r : Ru} {x : Lf} {m : Mem} (g : GX r x) (h : IM r x m) : ∀ n k, k ≤ rP r → rP r - k < n → X12_angry_b9 n (nI (bs k (fun p => decide (ang r x p ≠ 0)))) (nI k) m = some (nI (bs (rP r) (fun p => decide (ang r x p ≠ 0))), m) := by
  have hT := g.T; have hP := g.P
  intro n
  induction n with
  | zero => intro k _ h; omega
  | succ n ih =>
    intro k hk hn
    rw [X12_angry_b9]
    rcases Nat.eq_or_lt_of_le hk with he | hl
    · subst he
      simp (disch := omega) only [nadn, gsn, gss, gsi, if_true, if_false, chk_in, chk_tt, bq, lq, ix_nI, jle_t, jle_f, jlt_t, jlt_f, jeq_t, jeq_f, nadd, nmul, nsub, nshl, nshl2, nor, nand, nandn, ↓kn1, K0, K1, K2, K3, K4, K5, K6, K7, K8, K9, K10, K11, K12, K13, K14, K20, K24, K25, K32, K33, K40, K41, K60, K63, K64, K100, K112, K120, K128, K129, K153, K161, K162, K163, K255, K256, K900, K903, K999, K1000, K1195, K1196, K2000, K2096, K3000, K3001, K3002, K3003, K3004, K3005, K3006, K3007, K3008, h.P]
    · have ih2 := ih (k + 1) (by omega) (by omega)
      have hb := ang_lt (x := x) g k
      simp (disch := omega) only [nadn, gsn, gss, gsi, if_true, if_false, chk_in, chk_tt, bq, lq, ix_nI, jle_t, jle_f, jlt_t, jlt_f, jeq_t, jeq_f, nadd, nmul, nsub, nshl, nshl2, nor, nand, nandn, ↓kn1, K0, K1, K2, K3, K4, K5, K6, K7, K8, K9, K10, K11, K12, K13, K14, K20, K24, K25, K32, K33, K40, K41, K60, K63, K64, K100, K112, K120, K128, K129, K153, K161, K162, K163, K255, K256, K900, K903, K999, K1000, K1195, K1196, K2000, K2096, K3000, K3001, K3002, K3003, K3004, K3005, K3006, K3007, K3008, h.P, m_angersOf g h hl]
      rw [bs] at ih2
      by_cases hx : ang r x k = 0
      · rw [if_pos (by rw [hx])]
        simpa [hx] using ih2
      · rw [if_neg (fun q => hx (nI_inj (by omega) (by omega) q))]
        simpa [hx] using ih2
theorem St_angry_ok : St_angry Rel := by
  intro k N mx mm hk ⟨s, e, ib, hw, hc, hm⟩
  have g := hw.gx
  have hT := g.T; have hP := g.P
  have h := hc.2.1
  have hi := hm.2.1.si (c := 0) (by decide) 0 (nI 0)
  have e1 := c_angry_loop g h FU 0 (by omega) (by unfold FU; omega)
  have e2 := m_angry_loop g hi FU 0 (by omega) (by unfold FU; omega)
  rw [X11_angry, X12_angry, K0, lq]
  exact ⟨_, _, _, e1, e2, Rel.rd hk hw hc hm FX.rf FM.th⟩
