def Out {β : Type} (k N : Nat) (X Y : Option (β × Mem)) : Prop := ∃ r mx1 mm1, X = some (r, mx1) ∧ Y = some (r, mm1) ∧ Rel k N mx1 mm1
theorem Out.ite {β : Type} {k N : Nat} {X Y X2 Y2 : Option (β × Mem)} {p : Prop} {D D2 : Decidable p} (h1 : Out k N X Y) (h2 : Out k N X2 Y2) : Out k N (@_root_.ite _ p D X X2) (@_root_.ite _ p D2 Y Y2) := by
  by_cases h : p
  · rw [if_pos h, if_pos h]; exact h1
  · rw [if_neg h, if_neg h]; exact h2
/-- p is the first of a couple -/
def wd (x : Lf) (p : Nat) : Bool := match lmt x p with
  | some q => decide (p < q)
  | none => false
theorem jwd_t {β : Type} {r : Ru} {x : Lf} (g : GX r x) {p : Nat} {u v : β} {D : Decidable (oN (lmt x p) ≤ nI p)} (hp : p < rP r) (h : wd x p = true) : @ite β (oN (lmt x p) ≤ nI p) D u v = v := by
  have hP := g.P
  apply if_neg
  unfold wd at h
  cases hx : lmt x p with
  | none => rw [hx] at h; cases h
  | some q =>
    rw [hx] at h
    have h : p < q := by simpa using h
    have := (g.mt hp hx).1
    intro z
    rw [oN_some, nI_leI (by omega) (by omega)] at z
    omega
theorem jwd_f {β : Type} {r : Ru} {x : Lf} (g : GX r x) {p : Nat} {u v : β} {D : Decidable (oN (lmt x p) ≤ nI p)} (hp : p < rP r) (h : wd x p = false) : @ite β (oN (lmt x p) ≤ nI p) D u v = u := by
  have hP := g.P
  apply if_pos
  unfold wd at h
  cases hx : lmt x p with
  | none =>
    rw [oN_none]
    have := m1_lt p (by omega)
    rw [lt_iff] at this
    rw [le_iff]
    omega
  | some q =>
    rw [hx] at h
    have h : ¬ p < q := by simpa using h
    have := (g.mt hp hx).1
    rw [oN_some]
    exact nI_le (by omega) (by omega)
def cpl (r : Ru) (x : Lf) : Nat := ct (wd x) (rP r)
theorem c_couples_loop {r : Ru} {x : Lf} {m : Mem} {a : Nat} (g : GX r x) (h : IC r x m a) : ∀ n k, k ≤ rP r → rP r - k < n → X10_couples_b4 a n (nI (ct (wd x) k)) (nI k) m = some (nI (cpl r x), m) := by
  have hT := g.T; have hP := g.P
  intro n
  induction n with
  | zero => intro k _ h; omega
  | succ n ih =>
    intro k hk hn
    rw [X10_couples_b4]
    rcases Nat.eq_or_lt_of_le hk with he | hl
    · subst he
      simp (disch := omega) only [nadn, gsn, gss, gsi, if_true, if_false, chk_in, chk_tt, bq, lq, ix_nI, jle_t, jle_f, jlt_t, jlt_f, jeq_t, jeq_f, nadd, nmul, nsub, nshl, nshl2, nor, nand, nandn, ↓kn1, K0, K1, K2, K3, K4, K5, K6, K7, K8, K9, K10, K11, K12, K13, K14, K20, K24, K25, K32, K33, K40, K41, K60, K63, K64, K100, K112, K120, K128, K129, K153, K161, K162, K163, K255, K256, K900, K903, K999, K1000, K1195, K1196, K2000, K2096, K3000, K3001, K3002, K3003, K3004, K3005, K3006, K3007, K3008, h.P]
      rfl
    · have ih2 := ih (k + 1) (by omega) (by omega)
      rw [ct] at ih2
      cases hx : wd x k with
      | true =>
        rw [hx] at ih2
        simp (disch := omega) only [nadn, gsn, gss, gsi, if_true, if_false, chk_in, chk_tt, bq, lq, ix_nI, jle_t, jle_f, jlt_t, jlt_f, jeq_t, jeq_f, nadd, nmul, nsub, nshl, nshl2, nor, nand, nandn, ↓kn1, K0, K1, K2, K3, K4, K5, K6, K7, K8, K9, K10, K11, K12, K13, K14, K20, K24, K25, K32, K33, K40, K41, K60, K63, K64, K100, K112, K120, K128, K129, K153, K161, K162, K163, K255, K256, K900, K903, K999, K1000, K1195, K1196, K2000, K2096, K3000, K3001, K3002, K3003, K3004, K3005, K3006, K3007, K3008, h.P, h.mate hl, jwd_t g hl hx]
        simpa using ih2
      | false =>
        rw [hx] at ih2
        simp (disch := omega) only [nadn, gsn, gss, gsi, if_true, if_false, chk_in, chk_tt, bq, lq, ix_nI, jle_t, jle_f, jlt_t, jlt_f, jeq_t, jeq_f, nadd, nmul, nsub, nshl, nshl2, nor, nand, nandn, ↓kn1, K0, K1, K2, K3, K4, K5, K6, K7, K8, K9, K10, K11, K12, K13, K14, K20, K24, K25, K32, K33, K40, K41, K60, K63, K64, K100, K112, K120, K128, K129, K153, K161, K162, K163, K255, K256, K900, K903, K999, K1000, K1195, K1196, K2000, K2096, K3000, K3001, K3002, K3003, K3004, K3005, K3006, K3007, K3008, h.P, h.mate hl, jwd_f g hl hx]
        simpa using ih2
theorem c_couples {r : Ru} {x : Lf} {m : Mem} {a : Nat} (g : GX r x) (h : IC r x m a) : X10_couples a m = some (nI (cpl r x), m) :=
  c_couples_loop g h FU 0 (by omega) (by have := g.P; unfold FU; omega)
theorem m_wedMany_loop {r : Ru} {x : Lf} {m : Mem} (g : GX r x) (h : IM r x m) : ∀ n k, k ≤ rP r → rP r - k < n → X12_wedMany_b4 n (nI (ct (wd x) k)) (nI k) m = some (nI (cpl r x), m) := by
  have hT := g.T; have hP := g.P
  intro n
  induction n with
  | zero => intro k _ h; omega
  | succ n ih =>
    intro k hk hn
    rw [X12_wedMany_b4]
    rcases Nat.eq_or_lt_of_le hk with he | hl
    · subst he
      simp (disch := omega) only [nadn, gsn, gss, gsi, if_true, if_false, chk_in, chk_tt, bq, lq, ix_nI, jle_t, jle_f, jlt_t, jlt_f, jeq_t, jeq_f, nadd, nmul, nsub, nshl, nshl2, nor, nand, nandn, ↓kn1, K0, K1, K2, K3, K4, K5, K6, K7, K8, K9, K10, K11, K12, K13, K14, K20, K24, K25, K32, K33, K40, K41, K60, K63, K64, K100, K112, K120, K128, K129, K153, K161, K162, K163, K255, K256, K900, K903, K999, K1000, K1195, K1196, K2000, K2096, K3000, K3001, K3002, K3003, K3004, K3005, K3006, K3007, K3008, h.P]
      rfl
    · have ih2 := ih (k + 1) (by omega) (by omega)
      rw [ct] at ih2
      cases hx : wd x k with
      | true =>
        rw [hx] at ih2
        simp (disch := omega) only [nadn, gsn, gss, gsi, if_true, if_false, chk_in, chk_tt, bq, lq, ix_nI, jle_t, jle_f, jlt_t, jlt_f, jeq_t, jeq_f, nadd, nmul, nsub, nshl, nshl2, nor, nand, nandn, ↓kn1, K0, K1, K2, K3, K4, K5, K6, K7, K8, K9, K10, K11, K12, K13, K14, K20, K24, K25, K32, K33, K40, K41, K60, K63, K64, K100, K112, K120, K128, K129, K153, K161, K162, K163, K255, K256, K900, K903, K999, K1000, K1195, K1196, K2000, K2096, K3000, K3001, K3002, K3003, K3004, K3005, K3006, K3007, K3008, h.P, h.wed hl, jwd_t g hl hx]
        simpa using ih2
      | false =>
        rw [hx] at ih2
        simp (disch := omega) only [nadn, gsn, gss, gsi, if_true, if_false, chk_in, chk_tt, bq, lq, ix_nI, jle_t, jle_f, jlt_t, jlt_f, jeq_t, jeq_f, nadd, nmul, nsub, nshl, nshl2, nor, nand, nandn, ↓kn1, K0, K1, K2, K3, K4, K5, K6, K7, K8, K9, K10, K11, K12, K13, K14, K20, K24, K25, K32, K33, K40, K41, K60, K63, K64, K100, K112, K120, K128, K129, K153, K161, K162, K163, K255, K256, K900, K903, K999, K1000, K1195, K1196, K2000, K2096, K3000, K3001, K3002, K3003, K3004, K3005, K3006, K3007, K3008, h.P, h.wed hl, jwd_f g hl hx]
        simpa using ih2
theorem m_wedMany {r : Ru} {x : Lf} {m : Mem} (g : GX r x) (h : IM r x m) : X12_wedMany m = some (nI (cpl r x), m) :=
  m_wedMany_loop g h FU 0 (by omega) (by have := g.P; unfold FU; omega)
def onl (r : Ru) (x : Lf) (k : Nat) : Nat := su (fun p => pcn (ls r x p)) k
theorem c_onAll_loop {r : Ru} {x : Lf} {m : Mem} {a : Nat} (g : GX r x) (h : IC r x m a) : ∀ n k, k ≤ rP r → rP r - k < n → X10_onAllLists_b4 a n (nI (onl r x k)) (nI k) m = some (nI (onl r x (rP r)), m) := by
  have hT := g.T; have hP := g.P
  intro n
  induction n with
  | zero => intro k _ h; omega
  | succ n ih =>
    intro k hk hn
    rw [X10_onAllLists_b4]
    rcases Nat.eq_or_lt_of_le hk with he | hl
    · subst he
      simp (disch := omega) only [nadn, gsn, gss, gsi, if_true, if_false, chk_in, chk_tt, bq, lq, ix_nI, jle_t, jle_f, jlt_t, jlt_f, jeq_t, jeq_f, nadd, nmul, nsub, nshl, nshl2, nor, nand, nandn, ↓kn1, K0, K1, K2, K3, K4, K5, K6, K7, K8, K9, K10, K11, K12, K13, K14, K20, K24, K25, K32, K33, K40, K41, K60, K63, K64, K100, K112, K120, K128, K129, K153, K161, K162, K163, K255, K256, K900, K903, K999, K1000, K1195, K1196, K2000, K2096, K3000, K3001, K3002, K3003, K3004, K3005, K3006, K3007, K3008, h.P]
    · have ih2 := ih (k + 1) (by omega) (by omega)
      have hb := ls_lt g.T x k
      simp (disch := omega) only [nadn, gsn, gss, gsi, if_true, if_false, chk_in, chk_tt, bq, lq, ix_nI, jle_t, jle_f, jlt_t, jlt_f, jeq_t, jeq_f, nadd, nmul, nsub, nshl, nshl2, nor, nand, nandn, ↓kn1, K0, K1, K2, K3, K4, K5, K6, K7, K8, K9, K10, K11, K12, K13, K14, K20, K24, K25, K32, K33, K40, K41, K60, K63, K64, K100, K112, K120, K128, K129, K153, K161, K162, K163, K255, K256, K900, K903, K999, K1000, K1195, K1196, K2000, K2096, K3000, K3001, K3002, K3003, K3004, K3005, K3006, K3007, K3008, h.P, h.list hl, bitc]
      exact ih2
theorem c_onAll {r : Ru} {x : Lf} {m : Mem} {a : Nat} (g : GX r x) (h : IC r x m a) : X10_onAllLists a m = some (nI (onl r x (rP r)), m) :=
  c_onAll_loop g h FU 0 (by omega) (by have := g.P; unfold FU; omega)
theorem m_listed_loop {r : Ru} {x : Lf} {m : Mem} (g : GX r x) (h : IM r x m) : ∀ n k, k ≤ rP r → rP r - k < n → X12_listedMany_b4 n (nI (onl r x k)) (nI k) m = some (nI (onl r x (rP r)), m) := by
  have hT := g.T; have hP := g.P
  intro n
  induction n with
  | zero => intro k _ h; omega
  | succ n ih =>
    intro k hk hn
    rw [X12_listedMany_b4]
    rcases Nat.eq_or_lt_of_le hk with he | hl
    · subst he
      simp (disch := omega) only [nadn, gsn, gss, gsi, if_true, if_false, chk_in, chk_tt, bq, lq, ix_nI, jle_t, jle_f, jlt_t, jlt_f, jeq_t, jeq_f, nadd, nmul, nsub, nshl, nshl2, nor, nand, nandn, ↓kn1, K0, K1, K2, K3, K4, K5, K6, K7, K8, K9, K10, K11, K12, K13, K14, K20, K24, K25, K32, K33, K40, K41, K60, K63, K64, K100, K112, K120, K128, K129, K153, K161, K162, K163, K255, K256, K900, K903, K999, K1000, K1195, K1196, K2000, K2096, K3000, K3001, K3002, K3003, K3004, K3005, K3006, K3007, K3008, h.P]
    · have ih2 := ih (k + 1) (by omega) (by omega)
      have hb := ls_lt g.T x k
      simp (disch := omega) only [nadn, gsn, gss, gsi, if_true, if_false, chk_in, chk_tt, bq, lq, ix_nI, jle_t, jle_f, jlt_t, jlt_f, jeq_t, jeq_f, nadd, nmul, nsub, nshl, nshl2, nor, nand, nandn, ↓kn1, K0, K1, K2, K3, K4, K5, K6, K7, K8, K9, K10, K11, K12, K13, K14, K20, K24, K25, K32, K33, K40, K41, K60, K63, K64, K100, K112, K120, K128, K129, K153, K161, K162, K163, K255, K256, K900, K903, K999, K1000, K1195, K1196, K2000, K2096, K3000, K3001, K3002, K3003, K3004, K3005, K3006, K3007, K3008, h.P, m_listOf g h hl, m_bitsOf]
      exact ih2
theorem m_listed {r : Ru} {x : Lf} {m : Mem} (g : GX r x) (h : IM r x m) : X12_listedMany m = some (nI (onl r x (rP r)), m) :=
  m_listed_loop g h FU 0 (by omega) (by have := g.P; unfold FU; omega)
theorem chk0 {β : Type} {t : Option β} : chk (inb 0 6288) t = t := chk_tt (by decide)
theorem St_count_ok : St_count Rel := by
  intro k N mx mm hk ⟨s, e, ib, hw, hc, hm⟩ b
  have g := hw.gx
  have hT := g.T; have hP := g.P
  have h := hc.2.1
  have hi := hm.2.1.si (c := 0) (by decide) 0 (nI 0)
  have c1 : gi mx 0 1 = _ := hc.1.1
  have c2 : gi mx 40 2 = _ := hc.2.2.1.2.2.1
  have c3 : gi mx 26 0 = _ := h.yr
  have m1 : gi (si mm 0 0 (nI 0)) 0 5 = _ := (gsi (by omega)).trans hm.1.1
  have m2 : gi (si mm 0 0 (nI 0)) 1 162 = _ := (gsn (by omega)).trans hm.2.2.1.1
  have fin : Rel (k + 1) N mx (si mm 0 0 (nI 0)) := Rel.rd hk hw hc hm FX.rf FM.th
  have i0 : ix 0 = 0 := by decide
  have i1 : ix 1 = 1 := by decide
  have i2 : ix 2 = 2 := by decide
  have i3 : ix 3 = 3 := by decide
  have i4 : ix 4 = 4 := by decide
  have i161 : ix 161 = 161 := by decide
  have i162 : ix 162 = 162 := by decide
  have k1 : inb 1 6288 = true := by decide
  have k2 : inb 2 6288 = true := by decide
  have k3 : inb 3 6288 = true := by decide
  have k4 : inb 4 6288 = true := by decide
  have k5 : inb 161 6288 = true := by decide
  have k6 : inb 162 6288 = true := by decide
  rw [X11_count, X12_count, lq, K0]
  rw [K0] at i0
  have k0 : inb (nI 0) 6288 = true := by decide
  simp only [chk_tt k0, chk_tt k1, chk_tt k2, chk_tt k3, chk_tt k4, chk_tt k5, chk_tt k6, i0, i1, i2, i3, i4, i161, i162, c1, c2, c3, m1, m2, h.T, h.P, h.bar, h.room, h.lin, hi.T, hi.P, hi.bar, hi.room, hi.lin, hi.yr, c_couples g h, m_wedMany g hi, c_onAll g h, m_listed g hi, bq]
  show Out (k + 1) N _ _
  have o : ∀ v : Int32, Out (k + 1) N (some (v, mx)) (some (v, si mm 0 0 (nI 0))) := fun v => ⟨_, _, _, rfl, rfl, fin⟩
  exact Out.ite (o _) (Out.ite (o _) (Out.ite (o _) (Out.ite (o _) (Out.ite (o _) (Out.ite (o _) (Out.ite (o _) (Out.ite (o _) (Out.ite (o _) (Out.ite (o _) (o _))))))))))
