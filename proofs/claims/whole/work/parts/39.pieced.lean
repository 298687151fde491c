def anf (r : Ru) (x : Lf) (s q : Nat) : Nat := if s.testBit q then ls r x q else 0
def ano (r : Ru) (x : Lf) (s : Nat) : Nat := ors (anf r x s) (rP r)
theorem ano_lt {r : Ru} {x : Lf} (g : GX r x) (s : Nat) : ano r x s < 16384 := ors_lt (b := 14) (fun i _ => by
  have := ls_lt g.T x i
  unfold anf
  split <;> omega)
theorem c_anyOf_loop {r : Ru} {x : Lf} {m : Mem} {a : Nat} (g : GX r x) (h : IC r x m a) {s : Nat} (hs : s < 16384) : ∀ n k, k ≤ rP r → rP r - k < n → X10_anyOf_b4 a n (nI s) (nI (ors (anf r x s) k)) (nI k) m = some (nI (ano r x s), m) := by
  have hT := g.T; have hP := g.P
  intro n
  induction n with
  | zero => intro k _ h; omega
  | succ n ih =>
    intro k hk hn
    rw [X10_anyOf_b4]
    rcases Nat.eq_or_lt_of_le hk with he | hl
    · subst he
      simp (disch := omega) only [nadn, gsn, gss, gsi, if_true, if_false, chk_in, chk_tt, bq, lq, ix_nI, jle_t, jle_f, jlt_t, jlt_f, jeq_t, jeq_f, nadd, nmul, nsub, nshl, nshl2, nor, nand, nandn, ↓kn1, K0, K1, K2, K3, K4, K5, K6, K7, K8, K9, K10, K11, K12, K13, K14, K20, K24, K25, K32, K33, K40, K41, K60, K63, K64, K100, K112, K120, K128, K129, K153, K161, K162, K163, K255, K256, K900, K903, K999, K1000, K1195, K1196, K2000, K2096, K3000, K3001, K3002, K3003, K3004, K3005, K3006, K3007, K3008, h.P]
      rfl
    · have ih2 := ih (k + 1) (by omega) (by omega)
      rw [ors, anf] at ih2
      cases hx : s.testBit k with
      | true =>
        rw [hx] at ih2
        simp (disch := first | exact hx | omega) only [nadn, gsn, gss, gsi, if_true, if_false, chk_in, chk_tt, bq, lq, ix_nI, jle_t, jle_f, jlt_t, jlt_f, jeq_t, jeq_f, nadd, nmul, nsub, nshl, nshl2, nor, nand, nandn, ↓kn1, K0, K1, K2, K3, K4, K5, K6, K7, K8, K9, K10, K11, K12, K13, K14, K20, K24, K25, K32, K33, K40, K41, K60, K63, K64, K100, K112, K120, K128, K129, K153, K161, K162, K163, K255, K256, K900, K903, K999, K1000, K1195, K1196, K2000, K2096, K3000, K3001, K3002, K3003, K3004, K3005, K3006, K3007, K3008, h.P, h.list hl, jbit_t]
        exact ih2
      | false =>
        rw [hx] at ih2
        simp (disch := first | exact hx | omega) only [nadn, gsn, gss, gsi, if_true, if_false, chk_in, chk_tt, bq, lq, ix_nI, jle_t, jle_f, jlt_t, jlt_f, jeq_t, jeq_f, nadd, nmul, nsub, nshl, nshl2, nor, nand, nandn, ↓kn1, K0, K1, K2, K3, K4, K5, K6, K7, K8, K9, K10, K11, K12, K13, K14, K20, K24, K25, K32, K33, K40, K41, K60, K63, K64, K100, K112, K120, K128, K129, K153, K161, K162, K163, K255, K256, K900, K903, K999, K1000, K1195, K1196, K2000, K2096, K3000, K3001, K3002, K3003, K3004, K3005, K3006, K3007, K3008, h.P, jbit_f]
        simpa using ih2
theorem c_anyOf {r : Ru} {x : Lf} {m : Mem} {a : Nat} (g : GX r x) (h : IC r x m a) {s : Nat} (hs : s < 16384) : X10_anyOf a (nI s) m = some (nI (ano r x s), m) :=
  c_anyOf_loop g h hs FU 0 (by omega) (by have := g.P; unfold FU; omega)
theorem m_pieced_in {r : Ru} {x : Lf} {m : Mem} (g : GX r x) (h : IM r x m) {p s : Nat} (hp : p < rP r) (hs : s < 16384) (K : Int32 → Int32 → Int32 → Int32 → Mem → Option (Int32 × Mem)) (y2 y3 : Int32) : ∀ n k, k ≤ rP r → rP r - k < n → X12_pieced_b81 K n (nI p) y2 y3 (nI s) (nI (ors (anf r x s) k)) (nI k) m = if nI (ano r x s) = nI (ls r x p) then K (nI p) y2 (nI s) (nI (s + 1)) m else K (nI p) y2 y3 (nI (s + 1)) m := by
  have hT := g.T; have hP := g.P
  intro n
  induction n with
  | zero => intro k _ h; omega
  | succ n ih =>
    intro k hk hn
    rw [X12_pieced_b81]
    rcases Nat.eq_or_lt_of_le hk with he | hl
    · subst he
      simp (disch := omega) only [nadn, gsn, gss, gsi, if_true, if_false, chk_in, chk_tt, bq, lq, ix_nI, jle_t, jle_f, jlt_t, jlt_f, jeq_t, jeq_f, nadd, nmul, nsub, nshl, nshl2, nor, nand, nandn, ↓kn1, K0, K1, K2, K3, K4, K5, K6, K7, K8, K9, K10, K11, K12, K13, K14, K20, K24, K25, K32, K33, K40, K41, K60, K63, K64, K100, K112, K120, K128, K129, K153, K161, K162, K163, K255, K256, K900, K903, K999, K1000, K1195, K1196, K2000, K2096, K3000, K3001, K3002, K3003, K3004, K3005, K3006, K3007, K3008, h.P, m_listOf g h hp]
      rfl
    · have ih2 := ih (k + 1) (by omega) (by omega)
      rw [ors, anf] at ih2
      cases hx : s.testBit k with
      | true =>
        rw [hx] at ih2
        simp (disch := omega) only [nadn, gsn, gss, gsi, if_true, if_false, chk_in, chk_tt, bq, lq, ix_nI, jle_t, jle_f, jlt_t, jlt_f, jeq_t, jeq_f, nadd, nmul, nsub, nshl, nshl2, nor, nand, nandn, ↓kn1, K0, K1, K2, K3, K4, K5, K6, K7, K8, K9, K10, K11, K12, K13, K14, K20, K24, K25, K32, K33, K40, K41, K60, K63, K64, K100, K112, K120, K128, K129, K153, K161, K162, K163, K255, K256, K900, K903, K999, K1000, K1195, K1196, K2000, K2096, K3000, K3001, K3002, K3003, K3004, K3005, K3006, K3007, K3008, h.P, isIn_e, hx, m_listOf g h hl]
        exact ih2
      | false =>
        rw [hx] at ih2
        simp (disch := omega) only [nadn, gsn, gss, gsi, if_true, if_false, chk_in, chk_tt, bq, lq, ix_nI, jle_t, jle_f, jlt_t, jlt_f, jeq_t, jeq_f, nadd, nmul, nsub, nshl, nshl2, nor, nand, nandn, ↓kn1, K0, K1, K2, K3, K4, K5, K6, K7, K8, K9, K10, K11, K12, K13, K14, K20, K24, K25, K32, K33, K40, K41, K60, K63, K64, K100, K112, K120, K128, K129, K153, K161, K162, K163, K255, K256, K900, K903, K999, K1000, K1195, K1196, K2000, K2096, K3000, K3001, K3002, K3003, K3004, K3005, K3006, K3007, K3008, h.P, isIn_e, hx]
        simpa using ih2
def cpc (u : Option Nat) : Option Nat := u.map pcn
theorem pieced_loop {r : Ru} {x : Lf} {mm mx : Mem} (g : GX r x) (hi : IM r x mm) (h : IC r x mx 25) {p b : Nat} (hp : p < rP r) (hb : b < 2) : ∀ n k (u : Option Nat), k ≤ 2 ^ rP r → 2 ^ rP r - k < n → (∀ t, u = some t → t < 256) → ∃ v, X11_pieced_b38 n (nI p) (nI b) (nI (2 ^ rP r - 1)) (oN (cpc u)) (nI (u.getD 0)) (nI k) mx = some (v, mx) ∧ X12_pieced_b32 n (nI p) (nI b) (oN u) (nI k) mm = some (v, mm) := by
  have hT := g.T; have hP := g.P
  have h2 := p2T g.T; have h3 := p2P g.P
  have c29 : gi mx 29 p = _ := h.list hp
  intro n
  induction n with
  | zero => intro k u _ h; omega
  | succ n ih =>
    intro k u hk hn hu
    rw [X11_pieced_b38, X12_pieced_b32]
    rcases Nat.eq_or_lt_of_le hk with he | hl
    · cases u with
      | none =>
        simp (disch := omega) only [nadn, gsn, gss, gsi, if_true, if_false, chk_in, chk_tt, bq, lq, ix_nI, jle_t, jle_f, jlt_t, jlt_f, jeq_t, jeq_f, nadd, nmul, nsub, nshl, nshl2, nor, nand, nandn, ↓kn1, K0, K1, K2, K3, K4, K5, K6, K7, K8, K9, K10, K11, K12, K13, K14, K20, K24, K25, K32, K33, K40, K41, K60, K63, K64, K100, K112, K120, K128, K129, K153, K161, K162, K163, K255, K256, K900, K903, K999, K1000, K1195, K1196, K2000, K2096, K3000, K3001, K3002, K3003, K3004, K3005, K3006, K3007, K3008, hi.P, cpc, Option.map_none, oN_none, jm_t]
        exact ⟨_, rfl, rfl⟩
      | some t =>
        have ht := hu t rfl
        have hc2 := pcn_le t
        by_cases hz : b = 0
        · simp (disch := omega) only [nadn, gsn, gss, gsi, if_true, if_false, chk_in, chk_tt, bq, lq, ix_nI, jle_t, jle_f, jlt_t, jlt_f, jeq_t, jeq_f, nadd, nmul, nsub, nshl, nshl2, nor, nand, nandn, ↓kn1, K0, K1, K2, K3, K4, K5, K6, K7, K8, K9, K10, K11, K12, K13, K14, K20, K24, K25, K32, K33, K40, K41, K60, K63, K64, K100, K112, K120, K128, K129, K153, K161, K162, K163, K255, K256, K900, K903, K999, K1000, K1195, K1196, K2000, K2096, K3000, K3001, K3002, K3003, K3004, K3005, K3006, K3007, K3008, hi.P, cpc, Option.map_some, oN_some, jm_f, m_bitsOf]
          exact ⟨_, rfl, rfl⟩
        · simp (disch := omega) only [nadn, gsn, gss, gsi, if_true, if_false, chk_in, chk_tt, bq, lq, ix_nI, jle_t, jle_f, jlt_t, jlt_f, jeq_t, jeq_f, nadd, nmul, nsub, nshl, nshl2, nor, nand, nandn, ↓kn1, K0, K1, K2, K3, K4, K5, K6, K7, K8, K9, K10, K11, K12, K13, K14, K20, K24, K25, K32, K33, K40, K41, K60, K63, K64, K100, K112, K120, K128, K129, K153, K161, K162, K163, K255, K256, K900, K903, K999, K1000, K1195, K1196, K2000, K2096, K3000, K3001, K3002, K3003, K3004, K3005, K3006, K3007, K3008, hi.P, cpc, Option.map_some, oN_some, jm_f]
          exact ⟨_, rfl, rfl⟩
    · have hc := pcn_le k
      have b1 := ano_lt (x := x) g k
      have b2 := ls_lt g.T x p
      have e1 := fun K y2 y3 => m_pieced_in g hi hp (s := k) (by omega) K y2 y3 FU 0 (by omega) (by unfold FU; omega)
      have e1 : ∀ K y2 y3, X12_pieced_b81 K FU (nI p) y2 y3 (nI k) (nI 0) (nI 0) mm = _ := e1
      obtain ⟨v, q1, q2⟩ := ih (k + 1) u (by omega) (by omega) hu
      obtain ⟨v2, z1, z2⟩ := ih (k + 1) (some k) (by omega) (by omega) (fun t ht => by injection ht; omega)
      cases u with
      | none =>
        cases hx : k.testBit p with
        | true =>
          simp (disch := first | exact hx | omega) only [nadn, gsn, gss, gsi, if_true, if_false, chk_in, chk_tt, bq, lq, ix_nI, jle_t, jle_f, jlt_t, jlt_f, jeq_t, jeq_f, nadd, nmul, nsub, nshl, nshl2, nor, nand, nandn, ↓kn1, K0, K1, K2, K3, K4, K5, K6, K7, K8, K9, K10, K11, K12, K13, K14, K20, K24, K25, K32, K33, K40, K41, K60, K63, K64, K100, K112, K120, K128, K129, K153, K161, K162, K163, K255, K256, K900, K903, K999, K1000, K1195, K1196, K2000, K2096, K3000, K3001, K3002, K3003, K3004, K3005, K3006, K3007, K3008, hi.P, cpc, Option.map_none, oN_none, jm_t, X11_pieced_b65, jbit_t, isIn_e, hx]
          exact ⟨v, q1, q2⟩
        | false =>
          simp (disch := first | exact hx | omega) only [nadn, gsn, gss, gsi, if_true, if_false, chk_in, chk_tt, bq, lq, ix_nI, jle_t, jle_f, jlt_t, jlt_f, jeq_t, jeq_f, nadd, nmul, nsub, nshl, nshl2, nor, nand, nandn, ↓kn1, K0, K1, K2, K3, K4, K5, K6, K7, K8, K9, K10, K11, K12, K13, K14, K20, K24, K25, K32, K33, K40, K41, K60, K63, K64, K100, K112, K120, K128, K129, K153, K161, K162, K163, K255, K256, K900, K903, K999, K1000, K1195, K1196, K2000, K2096, K3000, K3001, K3002, K3003, K3004, K3005, K3006, K3007, K3008, hi.P, cpc, Option.map_none, oN_none, jm_t, X11_pieced_b65, jbit_f, isIn_e, hx, c_anyOf g h, c29, bitc, e1, Bool.false_eq_true]
          by_cases hz : ano r x k = ls r x p
          · simp (disch := omega) only [jeq_t]
            exact ⟨v2, z1, z2⟩
          · simp (disch := omega) only [jeq_f]
            exact ⟨v, q1, q2⟩
      | some t =>
        have ht := hu t rfl
        have hc2 := pcn_le t
        by_cases hw : pcn t ≤ pcn k
        · cases hx : k.testBit p with
          | true =>
            simp (disch := first | exact hx | omega) only [nadn, gsn, gss, gsi, if_true, if_false, chk_in, chk_tt, bq, lq, ix_nI, jle_t, jle_f, jlt_t, jlt_f, jeq_t, jeq_f, nadd, nmul, nsub, nshl, nshl2, nor, nand, nandn, ↓kn1, K0, K1, K2, K3, K4, K5, K6, K7, K8, K9, K10, K11, K12, K13, K14, K20, K24, K25, K32, K33, K40, K41, K60, K63, K64, K100, K112, K120, K128, K129, K153, K161, K162, K163, K255, K256, K900, K903, K999, K1000, K1195, K1196, K2000, K2096, K3000, K3001, K3002, K3003, K3004, K3005, K3006, K3007, K3008, hi.P, cpc, Option.map_some, oN_some, jm_f, X11_pieced_b65, isIn_e, hx, bitc]
            exact ⟨v, q1, q2⟩
          | false =>
            simp (disch := first | exact hx | omega) only [nadn, gsn, gss, gsi, if_true, if_false, chk_in, chk_tt, bq, lq, ix_nI, jle_t, jle_f, jlt_t, jlt_f, jeq_t, jeq_f, nadd, nmul, nsub, nshl, nshl2, nor, nand, nandn, ↓kn1, K0, K1, K2, K3, K4, K5, K6, K7, K8, K9, K10, K11, K12, K13, K14, K20, K24, K25, K32, K33, K40, K41, K60, K63, K64, K100, K112, K120, K128, K129, K153, K161, K162, K163, K255, K256, K900, K903, K999, K1000, K1195, K1196, K2000, K2096, K3000, K3001, K3002, K3003, K3004, K3005, K3006, K3007, K3008, hi.P, cpc, Option.map_some, oN_some, jm_f, X11_pieced_b65, isIn_e, hx, bitc, m_bitsOf, Bool.false_eq_true]
            exact ⟨v, q1, q2⟩
        · cases hx : k.testBit p with
          | true =>
            simp (disch := first | exact hx | omega) only [nadn, gsn, gss, gsi, if_true, if_false, chk_in, chk_tt, bq, lq, ix_nI, jle_t, jle_f, jlt_t, jlt_f, jeq_t, jeq_f, nadd, nmul, nsub, nshl, nshl2, nor, nand, nandn, ↓kn1, K0, K1, K2, K3, K4, K5, K6, K7, K8, K9, K10, K11, K12, K13, K14, K20, K24, K25, K32, K33, K40, K41, K60, K63, K64, K100, K112, K120, K128, K129, K153, K161, K162, K163, K255, K256, K900, K903, K999, K1000, K1195, K1196, K2000, K2096, K3000, K3001, K3002, K3003, K3004, K3005, K3006, K3007, K3008, hi.P, cpc, Option.map_some, oN_some, jm_f, X11_pieced_b65, jbit_t, isIn_e, hx, bitc]
            exact ⟨v, q1, q2⟩
          | false =>
            simp (disch := first | exact hx | omega) only [nadn, gsn, gss, gsi, if_true, if_false, chk_in, chk_tt, bq, lq, ix_nI, jle_t, jle_f, jlt_t, jlt_f, jeq_t, jeq_f, nadd, nmul, nsub, nshl, nshl2, nor, nand, nandn, ↓kn1, K0, K1, K2, K3, K4, K5, K6, K7, K8, K9, K10, K11, K12, K13, K14, K20, K24, K25, K32, K33, K40, K41, K60, K63, K64, K100, K112, K120, K128, K129, K153, K161, K162, K163, K255, K256, K900, K903, K999, K1000, K1195, K1196, K2000, K2096, K3000, K3001, K3002, K3003, K3004, K3005, K3006, K3007, K3008, hi.P, cpc, Option.map_some, oN_some, jm_f, X11_pieced_b65, jbit_f, isIn_e, hx, bitc, m_bitsOf, c_anyOf g h, c29, e1, Bool.false_eq_true]
            by_cases hz : ano r x k = ls r x p
            · simp (disch := omega) only [jeq_t]
              exact ⟨v2, z1, z2⟩
            · simp (disch := omega) only [jeq_f]
              exact ⟨v, q1, q2⟩
theorem St_pieced_ok : St_pieced Rel := by
  intro k N mx mm hk ⟨s, e, ib, hw, hc, hm⟩ a b
  have g := hw.gx
  have hT := g.T; have hP := g.P
  have h3 := p2P g.P
  have h := hc.2.1
  have hi := hm.2.1.si (c := 0) (by decide) 0 (nI 0)
  have fin : Rel (k + 1) N mx (si mm 0 0 (nI 0)) := Rel.rd hk hw hc hm FX.rf FM.th
  rw [X11_pieced, X12_pieced, K0, lq]
  by_cases ha : prs (rP (sR s)) a
  · obtain ⟨p, hp, rfl⟩ := ha
    rw [c_isPerson_t g h hp, m_isPerson_t g hi hp, bq, bq, jeq_f (by omega) (by omega) (by omega), jeq_f (by omega) (by omega) (by omega)]
    by_cases hb : prs 2 b
    · obtain ⟨j, hj, rfl⟩ := hb
      obtain ⟨v, q1, q2⟩ := pieced_loop g hi h hp hj FU 0 none (by omega) (by unfold FU; omega) (fun t q => by cases q)
      rw [c_isEither_t hj, bq, wl_t l64_0 l64_1 (l := 0) (k := 1) (by omega) (by omega) (by omega), bq, jeq_f (by omega) (by omega) (by omega), jeq_f (by omega) (by omega) (by omega), c_everybody g h, bq]
      exact ⟨v, _, _, q1, q2, fin⟩
    · rw [c_isEither_f hb, bq, wl_n l64_0 l64_1 (l := 0) hb (by omega) (by omega), bq, jeq_t rfl, jeq_t rfl]
      exact ⟨_, _, _, rfl, rfl, fin⟩
  · rw [c_isPerson_f g h ha, m_isPerson_f g hi ha, bq, bq, jeq_t rfl, jeq_t rfl]
    exact ⟨_, _, _, rfl, rfl, fin⟩
