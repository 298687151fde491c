/-! sharer, child: both loops side by side -/
theorem IC.w23 {r : Ru} {x : Lf} {m : Mem} {a : Nat} (h : IC r x m a) (ha : 25 ≤ a) (w : Nat → Nat) : IC r x (wrw 23 m w) a := h.f24 ha (wrw_f.mono (fun c hc => Or.inl hc))
theorem sharer_loop {r : Ru} {x : Lf} {mm : Mem} (g : GX r x) (hi : IM r x mm) {p : Nat} (hp : p < rP r) : ∀ n k (y : Int32) (c : Nat) (mx : Mem), IC r x mx 25 → k ≤ rP r → rP r - k < n → c ≤ 126 → ∃ v m2, X11_sharer_b21 n (nI p) y (nI c) (nI k) mx = some (v, m2) ∧ X12_sharer_b24 n (nI p) y (nI c) (nI k) mm = some (v, mm) ∧ Fr s24 mx m2 := by
  have hT := g.T; have hP := g.P
  intro n
  induction n with
  | zero => intro k y c mx _ _ h; omega
  | succ n ih =>
    intro k y c mx h hk hn hc
    rw [X11_sharer_b21, X12_sharer_b24]
    rcases Nat.eq_or_lt_of_le hk with he | hl
    · subst he
      simp (disch := omega) only [nadn, gsn, gss, gsi, if_true, if_false, chk_in, chk_tt, bq, lq, ix_nI, jle_t, jle_f, jlt_t, jlt_f, jeq_t, jeq_f, nadd, nmul, nsub, nshl, nshl2, nor, nand, nandn, ↓kn1, K0, K1, K2, K3, K4, K5, K6, K7, K8, K9, K10, K11, K12, K13, K14, K20, K24, K25, K32, K33, K40, K41, K60, K63, K64, K100, K112, K120, K128, K129, K153, K161, K162, K163, K255, K256, K900, K903, K999, K1000, K1195, K1196, K2000, K2096, K3000, K3001, K3002, K3003, K3004, K3005, K3006, K3007, K3008, h.P, hi.P]
      exact ⟨_, _, rfl, rfl, Fr.rf⟩
    · by_cases hx : k = p
      · simp (disch := omega) only [nadn, gsn, gss, gsi, if_true, if_false, chk_in, chk_tt, bq, lq, ix_nI, jle_t, jle_f, jlt_t, jlt_f, jeq_t, jeq_f, nadd, nmul, nsub, nshl, nshl2, nor, nand, nandn, ↓kn1, K0, K1, K2, K3, K4, K5, K6, K7, K8, K9, K10, K11, K12, K13, K14, K20, K24, K25, K32, K33, K40, K41, K60, K63, K64, K100, K112, K120, K128, K129, K153, K161, K162, K163, K255, K256, K900, K903, K999, K1000, K1195, K1196, K2000, K2096, K3000, K3001, K3002, K3003, K3004, K3005, K3006, K3007, K3008, h.P, hi.P]
        exact ih (k + 1) y c mx h (by omega) (by omega) hc
      · have c1 : gi mx 29 p = _ := h.list hp
        have c2 : gi mx 29 k = _ := h.list hl
        have e1 := c_measure (by decide) g h hp hl (LY.rf hp hl)
        have e2 := m_rareOfAll g hi (s := ls r x p &&& ls r x k) (by have := and_lt14 (b := ls r x k) (ls_lt g.T x p); omega)
        have e3 : gi (wrw 23 mx (ww r x p k)) 23 1 = nI (ras r x (ls r x p &&& ls r x k) (rT r)) := wrw_w (by omega)
        have b := ras_le g.P x (ls r x p &&& ls r x k) g.T
        have h2 := h.w23 (by decide) (ww r x p k)
        have f2 : Fr s24 mx (wrw 23 mx (ww r x p k)) := wrw_f.mono (fun c hc => Or.inl hc)
        simp (disch := omega) only [nadn, gsn, gss, gsi, if_true, if_false, chk_in, chk_tt, bq, lq, ix_nI, jle_t, jle_f, jlt_t, jlt_f, jeq_t, jeq_f, nadd, nmul, nsub, nshl, nshl2, nor, nand, nandn, ↓kn1, K0, K1, K2, K3, K4, K5, K6, K7, K8, K9, K10, K11, K12, K13, K14, K20, K24, K25, K32, K33, K40, K41, K60, K63, K64, K100, K112, K120, K128, K129, K153, K161, K162, K163, K255, K256, K900, K903, K999, K1000, K1195, K1196, K2000, K2096, K3000, K3001, K3002, K3003, K3004, K3005, K3006, K3007, K3008, h.P, hi.P, c1, c2, e1, m_listOf g hi hp, m_listOf g hi hl, e2, e3]
        by_cases hz : ras r x (ls r x p &&& ls r x k) (rT r) ≤ c
        · simp (disch := omega) only [jle_t, jlt_f]
          obtain ⟨v, m2, q1, q2, q3⟩ := ih (k + 1) y c _ h2 (by omega) (by omega) hc
          exact ⟨v, m2, q1, q2, f2.tr q3⟩
        · simp (disch := omega) only [jle_f, jlt_t]
          obtain ⟨v, m2, q1, q2, q3⟩ := ih (k + 1) (nI k) _ _ h2 (by omega) (by omega) b
          exact ⟨v, m2, q1, q2, f2.tr q3⟩
theorem St_sharer_ok : St_sharer Rel := by
  intro k N mx mm hk ⟨s, e, ib, hw, hc, hm⟩ a
  have g := hw.gx
  have hT := g.T; have hP := g.P
  have h := hc.2.1
  have hi := hm.2.1.si (c := 0) (by decide) 0 (nI 0)
  rw [X11_sharer, X12_sharer, K0, lq]
  by_cases ha : prs (rP (sR s)) a
  · obtain ⟨p, hp, rfl⟩ := ha
    obtain ⟨v, m2, q1, q2, q3⟩ := sharer_loop g hi hp FU 0 (-1) 0 mx h (by omega) (by unfold FU; omega) (by omega)
    simp (disch := omega) only [c_isPerson_t g h hp, m_isPerson_t g hi hp, bq, jeq_f]
    exact ⟨_, _, _, q1, q2, Rel.rd hk hw hc hm (fx24 q3) FM.th⟩
  · simp (disch := omega) only [c_isPerson_f g h ha, m_isPerson_f g hi ha, bq, jeq_t]
    exact ⟨_, _, _, rfl, rfl, Rel.rd hk hw hc hm FX.rf FM.th⟩
/-- child: the class keeps the bit of the rarest and its rarity, the reference the thing -/
theorem ra_pos (r : Ru) (x : Lf) (t : Nat) : 1 ≤ ra r x t := by unfold ra; omega
def cbt (u : Option Nat) : Nat := match u with
  | none => 0
  | some t => 2 ^ t
def cra (r : Ru) (x : Lf) (u : Option Nat) : Nat := match u with
  | none => 9
  | some t => ra r x t
theorem child_loop {r : Ru} {x : Lf} {mm mx : Mem} (g : GX r x) (hi : IM r x mm) (h : IC r x mx 25) {s : Nat} (hs : s < 16384) (hs2 : s < 2 ^ rT r) : ∀ n k (u : Option Nat), k ≤ rT r → rT r - k < n → (∀ t, u = some t → t < rT r) → (u = none → ∀ t, t < k → s.testBit t = false) → ∃ v, X11_child_b51 n (nI s) (nI (cbt u)) (nI (cra r x u)) (nI k) mx = some (v, mx) ∧ X12_child_b37 n (nI s) (oN u) (nI k) mm = some (v, mm) := by
  have hT := g.T; have hP := g.P
  intro n
  induction n with
  | zero => intro k u _ h; omega
  | succ n ih =>
    intro k u hk hn hu hu2
    rw [X11_child_b51, X12_child_b37]
    rcases Nat.eq_or_lt_of_le hk with he | hl
    · subst he
      simp (disch := omega) only [nadn, gsn, gss, gsi, if_true, if_false, chk_in, chk_tt, bq, lq, ix_nI, jle_t, jle_f, jlt_t, jlt_f, jeq_t, jeq_f, nadd, nmul, nsub, nshl, nshl2, nor, nand, nandn, ↓kn1, K0, K1, K2, K3, K4, K5, K6, K7, K8, K9, K10, K11, K12, K13, K14, K20, K24, K25, K32, K33, K40, K41, K60, K63, K64, K100, K112, K120, K128, K129, K153, K161, K162, K163, K255, K256, K900, K903, K999, K1000, K1195, K1196, K2000, K2096, K3000, K3001, K3002, K3003, K3004, K3005, K3006, K3007, K3008, h.T, hi.T]
      cases u with
      | none =>
        have e : s = 0 := nat_ext hs2 (Nat.two_pow_pos _) (fun i hi => by rw [hu2 rfl i hi]; simp)
        subst e
        rw [oN_none, jm_t]
        exact ⟨_, rfl, rfl⟩
      | some t =>
        have := hu t rfl
        rw [oN_some, jm_f (by omega)]
        simp (disch := omega) only [nadn, gsn, gss, gsi, if_true, if_false, chk_in, chk_tt, bq, lq, ix_nI, jle_t, jle_f, jlt_t, jlt_f, jeq_t, jeq_f, nadd, nmul, nsub, nshl, nshl2, nor, nand, nandn, ↓kn1, K0, K1, K2, K3, K4, K5, K6, K7, K8, K9, K10, K11, K12, K13, K14, K20, K24, K25, K32, K33, K40, K41, K60, K63, K64, K100, K112, K120, K128, K129, K153, K161, K162, K163, K255, K256, K900, K903, K999, K1000, K1195, K1196, K2000, K2096, K3000, K3001, K3002, K3003, K3004, K3005, K3006, K3007, K3008]
        exact ⟨_, rfl, rfl⟩
    · cases hx : s.testBit k with
      | false =>
        obtain ⟨v, q1, q2⟩ := ih (k + 1) u (by omega) (by omega) hu (fun q t ht => by
          by_cases e : t = k
          · rw [e]; exact hx
          · exact hu2 q t (by omega))
        simp (disch := first | exact hx | omega) only [nadn, gsn, gss, gsi, if_true, if_false, chk_in, chk_tt, bq, lq, ix_nI, jle_t, jle_f, jlt_t, jlt_f, jeq_t, jeq_f, nadd, nmul, nsub, nshl, nshl2, nor, nand, nandn, ↓kn1, K0, K1, K2, K3, K4, K5, K6, K7, K8, K9, K10, K11, K12, K13, K14, K20, K24, K25, K32, K33, K40, K41, K60, K63, K64, K100, K112, K120, K128, K129, K153, K161, K162, K163, K255, K256, K900, K903, K999, K1000, K1195, K1196, K2000, K2096, K3000, K3001, K3002, K3003, K3004, K3005, K3006, K3007, K3008, h.T, hi.T, jbit_f, isIn_e, hx]
        exact ⟨v, q1, by simpa using q2⟩
      | true =>
        have b1 := ra_le g.P x k
        have b0 := ra_pos r x k
        obtain ⟨v, q1, q2⟩ := ih (k + 1) (some k) (by omega) (by omega) (fun t ht => by injection ht; omega) (fun q => by cases q)
        cases u with
        | none =>
          have e9 : cra r x none = 9 := rfl
          simp (disch := first | exact hx | omega) only [nadn, gsn, gss, gsi, if_true, if_false, chk_in, chk_tt, bq, lq, ix_nI, jle_t, jle_f, jlt_t, jlt_f, jeq_t, jeq_f, nadd, nmul, nsub, nshl, nshl2, nor, nand, nandn, ↓kn1, K0, K1, K2, K3, K4, K5, K6, K7, K8, K9, K10, K11, K12, K13, K14, K20, K24, K25, K32, K33, K40, K41, K60, K63, K64, K100, K112, K120, K128, K129, K153, K161, K162, K163, K255, K256, K900, K903, K999, K1000, K1195, K1196, K2000, K2096, K3000, K3001, K3002, K3003, K3004, K3005, K3006, K3007, K3008, h.T, hi.T, jbit_t, isIn_e, hx, c_rarity g h hl, e9, oN_none, jm_t]
          exact ⟨v, q1, q2⟩
        | some t =>
          have ht := hu t rfl
          have b2 := ra_le g.P x t
          have e9 : cra r x (some t) = ra r x t := rfl
          simp (disch := first | exact hx | omega) only [nadn, gsn, gss, gsi, if_true, if_false, chk_in, chk_tt, bq, lq, ix_nI, jle_t, jle_f, jlt_t, jlt_f, jeq_t, jeq_f, nadd, nmul, nsub, nshl, nshl2, nor, nand, nandn, ↓kn1, K0, K1, K2, K3, K4, K5, K6, K7, K8, K9, K10, K11, K12, K13, K14, K20, K24, K25, K32, K33, K40, K41, K60, K63, K64, K100, K112, K120, K128, K129, K153, K161, K162, K163, K255, K256, K900, K903, K999, K1000, K1195, K1196, K2000, K2096, K3000, K3001, K3002, K3003, K3004, K3005, K3006, K3007, K3008, h.T, hi.T, jbit_t, isIn_e, hx, c_rarity g h hl, e9, oN_some, jm_f, m_rareOf g hi hl, m_rareOf g hi ht]
          by_cases hz : ra r x t < ra r x k
          · obtain ⟨v, q1, q2⟩ := ih (k + 1) (some t) (by omega) (by omega) hu (fun q => by cases q)
            simp (disch := omega) only [jlt_t]
            exact ⟨v, q1, q2⟩
          · simp (disch := omega) only [jlt_f]
            exact ⟨v, q1, q2⟩
theorem St_child_ok : St_child Rel := by
  intro k N mx mm hk ⟨s, e, ib, hw, hc, hm⟩ a b
  have g := hw.gx
  have hT := g.T; have hP := g.P
  have h := hc.2.1
  have hi := hm.2.1.si (c := 0) (by decide) 0 (nI 0)
  rw [X11_child, X12_child, K0, lq]
  by_cases ha : tw (rP (sR s)) a b
  · obtain ⟨p, q, hp, hq, hn, rfl, rfl⟩ := ha
    have c1 : gi mx 29 p = _ := h.list hp
    have c2 : gi mx 29 q = _ := h.list hq
    have b1 : ls (sR s) (sX s) p ||| ls (sR s) (sX s) q < 2 ^ rT (sR s) := Nat.or_lt_two_pow (bs_lt _ _) (bs_lt _ _)
    have b2 : ls (sR s) (sX s) p ||| ls (sR s) (sX s) q < 16384 := Nat.or_lt_two_pow (n := 14) (ls_lt g.T _ _) (ls_lt g.T _ _)
    obtain ⟨v, q1, q2⟩ := child_loop g hi h b2 b1 FU 0 none (by omega) (by unfold FU; omega) (fun t q => by cases q) (fun _ t ht => by omega)
    simp (disch := omega) only [c_areTwo_t g h hp hq hn, m_areTwo_t g hi hp hq hn, bq, jeq_f, chk_in, ix_nI, c1, c2, lq, nor, m_listOf g hi hp, m_listOf g hi hq]
    exact ⟨_, _, _, q1, q2, Rel.rd hk hw hc hm FX.rf FM.th⟩
  · simp (disch := omega) only [c_areTwo_f g h ha, m_areTwo_f g hi ha, bq, jeq_t]
    exact ⟨_, _, _, rfl, rfl, Rel.rd hk hw hc hm FX.rf FM.th⟩
