/-! how good, and whether they may -/
theorem ww_le {r : Ru} {x : Lf} (g : GX r x) {p q : Nat} (hp : p < rP r) (hq : q < rP r) (k : Nat) : ww r x p q k ≤ 1000000 := by
  have h1 := g.age hp; have h2 := g.age hq; have h3 := g.yr
  have h4 := pcn_le (ls r x p &&& ls r x q)
  have h5 := ras_le g.P x (ls r x p &&& ls r x q) g.T
  have h6 := pcn_le (ls r x p &&& rtr r q)
  have h7 := pcn_le (ls r x q &&& rtr r p)
  have h8 := pcn_le (ls r x p)
  have h9 := pcn_le (ls r x q)
  unfold ww
  repeat' split
  all_goals omega
theorem ww_sym (r : Ru) (x : Lf) (p q : Nat) : ww r x p q = ww r x q p := by
  funext k
  unfold ww
  rw [Nat.and_comm (ls r x p) (ls r x q), Nat.add_comm (pcn (ls r x p &&& rtr r q)), Nat.add_comm (pcn (ls r x p))]
  have e : (if lag x p ≤ lag x q then lag x q - lag x p else lag x p - lag x q) = (if lag x q ≤ lag x p then lag x p - lag x q else lag x q - lag x p) := by
    repeat' split
    all_goals omega
  have e2 : (if lag x p ≤ lag x q then lag x q else lag x p) = (if lag x q ≤ lag x p then lag x p else lag x q) := by
    repeat' split
    all_goals omega
  rw [e, e2]
def gd (r : Ru) (x : Lf) (p q : Nat) : Int32 := (evs (ww r x p q) (egood r) []).headD 0
def my (r : Ru) (x : Lf) (p q : Nat) : Bool := decide ((evs (ww r x p q) (emay r) []).headD 0 = 1)
theorem gd_sym (r : Ru) (x : Lf) (p q : Nat) : gd r x p q = gd r x q p := by rw [gd, gd, ww_sym]
theorem my_sym (r : Ru) (x : Lf) (p q : Nat) : my r x p q = my r x q p := by rw [my, my, ww_sym]
/-- life y as good in shape as x where p and q are asked for -/
theorem okv1 {b : Bool} {st : List Int32} (h : okv [b] st) : ∃ v, st = [v] ∧ okn b v := by
  match st, h with
  | [v], h => exact ⟨v, rfl, h.1⟩
theorem gd_ok {r : Ru} {x : Lf} (g : GX r x) {p q : Nat} (hp : p < rP r) (hq : q < rP r) : -1000000 ≤ (gd r x p q).toInt ∧ (gd r x p q).toInt ≤ 1000000 := by
  obtain ⟨v, e, h⟩ := okv1 (evs_ok (w := ww r x p q) (fun k _ => ww_le g hp hq k) g.tg (st := []) True.intro)
  rw [gd, e]
  exact h
theorem may_01 {r : Ru} {x : Lf} (g : GX r x) {p q : Nat} (hp : p < rP r) (hq : q < rP r) : (evs (ww r x p q) (emay r) []) = [0] ∨ (evs (ww r x p q) (emay r) []) = [1] := by
  rcases g.tm with hn | ht
  · right
    rw [emay, hn]
    rfl
  · obtain ⟨v, e, h⟩ := okv1 (evs_ok (w := ww r x p q) (fun k _ => ww_le g hp hq k) ht (st := []) True.intro)
    rw [e]
    rcases h with h | h
    · rw [h]; exact Or.inl rfl
    · rw [h]; exact Or.inr rfl
theorem GX.tm2 {r : Ru} {x : Lf} (g : GX r x) : ∃ u, tyc (emay r) [] = some [u] := by
  rcases g.tm with hn | ht
  · exact ⟨false, by rw [emay, hn]; rfl⟩
  · exact ⟨true, ht⟩
/-- the cells that a reckoning of the class writes -/
def s24 (c : Nat) : Prop := c = 23 ∨ c = 24
def s56 (c : Nat) : Prop := c = 5 ∨ c = 6
theorem IC.f24 {r : Ru} {x : Lf} {m m2 : Mem} {a : Nat} (h : IC r x m a) (ha : 25 ≤ a) (hf : Fr s24 m m2) : IC r x m2 a := h.fr (fun c hc j => (hf c (by unfold s24; omega) j).1)
theorem IM.f56 {r : Ru} {x : Lf} {m m2 : Mem} (h : IM r x m) (hf : Fr s56 m m2) : IM r x m2 := h.fr (fun j => (hf 1 (by unfold s56; omega) j).1)
theorem c_goodWith {r : Ru} {x y : Lf} {m : Mem} {a : Nat} (ha : 25 ≤ a) (g : GX r x) (gy : GX r y) (h : IC r x m a) {p q : Nat} (hp : p < rP r) (hq : q < rP r) (hy : LY r x y p q) : ∃ m2, X10_goodnessWith a (nI p) (nI q) (nI (ls r y p)) (nI (ls r y q)) m = some (gd r y p q, m2) ∧ Fr s24 m m2 := by
  rw [X10_goodnessWith, c_measure ha g h hp hq hy, bq]
  obtain ⟨v, m2, e1, e2, e3⟩ := c_reckon (m := wrw 23 m (ww r y p q)) (b := 5) (cd := egood r) (by decide) (fun k _ => ww_le gy hp hq k) (fun k hk => wrw_w hk) (h.1.2.2.2.2.2.2.2.1.fr (fun c _ h2 j => wrw_o (by omega) j)) g.tg
  rw [e1, bq]
  refine ⟨m2, ?_, (wrw_f.mono (fun c hc => Or.inl hc)).tr (e3.mono (fun c hc => Or.inr hc))⟩
  rw [gd, e2]
  rfl
theorem c_goodness {r : Ru} {x : Lf} {m : Mem} {a : Nat} (ha : 25 ≤ a) (g : GX r x) (h : IC r x m a) {p q : Nat} (hp : p < rP r) (hq : q < rP r) : ∃ m2, X10_goodness a (nI p) (nI q) m = some (gd r x p q, m2) ∧ Fr s24 m m2 := by
  have hP := g.P
  obtain ⟨m2, e, hf⟩ := c_goodWith ha g g h hp hq (LY.rf hp hq)
  refine ⟨m2, ?_, hf⟩
  rw [X10_goodness]
  simp (disch := omega) only [nadn, gsn, gss, gsi, if_true, if_false, chk_in, chk_tt, bq, lq, ix_nI, jle_t, jle_f, jlt_t, jlt_f, jeq_t, jeq_f, nadd, nmul, nsub, nshl, nshl2, nor, nand, nandn, ↓kn1, K0, K1, K2, K3, K4, K5, K6, K7, K8, K9, K10, K11, K12, K13, K14, K20, K24, K25, K32, K33, K40, K41, K60, K63, K64, K100, K112, K120, K128, K129, K153, K161, K162, K163, K255, K256, K900, K903, K999, K1000, K1195, K1196, K2000, K2096, K3000, K3001, K3002, K3003, K3004, K3005, K3006, K3007, K3008, h.list hp, h.list hq, e]
theorem c_isAllowed {r : Ru} {x : Lf} {m : Mem} {a : Nat} (ha : 25 ≤ a) (g : GX r x) (h : IC r x m a) {p q : Nat} (hp : p < rP r) (hq : q < rP r) : ∃ m2, X10_isAllowed a (nI p) (nI q) m = some (nI (if my r x p q then 1 else 0), m2) ∧ Fr s24 m m2 := by
  have hP := g.P
  have k := c_measure ha g h hp hq (LY.rf hp hq)
  obtain ⟨u, hu⟩ := g.tm2
  obtain ⟨v, m2, e1, e2, e3⟩ := c_reckon (m := wrw 23 m (ww r x p q)) (b := 7) (cd := emay r) (by decide) (fun k _ => ww_le g hp hq k) (fun k hk => wrw_w hk) (h.1.2.2.2.2.2.2.2.2.fr (fun c _ h2 j => wrw_o (by omega) j)) hu
  refine ⟨m2, ?_, (wrw_f.mono (fun c hc => Or.inl hc)).tr (e3.mono (fun c hc => Or.inr hc))⟩
  rw [X10_isAllowed]
  simp (disch := omega) only [chk_in, ix_nI, h.list hp, h.list hq, k, bq, e1]
  rcases may_01 g hp hq with z | z
  · rw [e2] at z
    injection z with z _
    rw [z, if_pos rfl, my, e2, z]
    rfl
  · rw [e2] at z
    injection z with z _
    rw [z, if_neg (by decide), my, e2, z]
    rfl
theorem good0 : ∀ a, a < 127 → ∀ b, b < 29 → kw (Int32.toInt64 (nI a) - Int32.toInt64 (kw (Int32.toInt64 (nI b) * Int32.toInt64 (nI 2)))) = nI a - nI 2 * nI b := by decide +kernel
theorem gd_0 {r : Ru} {x : Lf} (g : GX r x) {p q : Nat} (hr : rgood r = none) : gd r x p q = nI (ww r x p q 1) - nI 2 * nI (ww r x p q 2) := by
  have h1 : ww r x p q 1 < 127 := by
    have := ras_le g.P x (ls r x p &&& ls r x q) g.T
    show ras r x (ls r x p &&& ls r x q) (rT r) < 127
    omega
  have h2 : ww r x p q 2 < 29 := by
    have h6 := pcn_le (ls r x p &&& rtr r q)
    have h7 := pcn_le (ls r x q &&& rtr r p)
    show pcn (ls r x p &&& rtr r q) + pcn (ls r x q &&& rtr r p) < 29
    omega
  have e : egood r = [1001, 1002, 2, 3002, 3001] := by rw [egood, hr]; rfl
  rw [gd, e]
  exact good0 _ h1 _ h2
theorem my_0 {r : Ru} {x : Lf} {p q : Nat} (hr : rmay r = none) : my r x p q = true := by
  have e : emay r = [1] := by rw [emay, hr]; rfl
  rw [my, e]
  rfl
theorem m_goodOf {r : Ru} {x : Lf} {m : Mem} (g : GX r x) (h : IM r x m) {p q : Nat} (hp : p < rP r) (hq : q < rP r) : ∃ m2, X12_goodOf (nI p) (nI q) m = some (gd r x p q, m2) ∧ Fr s56 m m2 := by
  have hP := g.P
  have k := m_laysTwo g h hp hq
  have hl := h.1.2.2.2.2.2.2.2.1
  rw [X12_goodOf, k, bq]
  have hw := fun {j : Nat} (hj : j < 7) => wrw_w (c := 5) (m := m) (w := ww r x p q) hj
  have ho := fun (b : Nat) (hb : b ≠ 5) (j : Nat) => wrw_o (c := 5) (m := m) (w := ww r x p q) hb j
  cases hr : rgood r with
  | none =>
    rw [hr] at hl
    have hl : gi m 1 5 = nI 0 := hl
    refine ⟨wrw 5 m (ww r x p q), ?_, wrw_f.mono (fun c hc => Or.inl hc)⟩
    simp (disch := omega) only [nadn, gsn, gss, gsi, if_true, if_false, chk_in, chk_tt, bq, lq, ix_nI, jle_t, jle_f, jlt_t, jlt_f, jeq_t, jeq_f, nadd, nmul, nsub, nshl, nshl2, nor, nand, nandn, ↓kn1, K0, K1, K2, K3, K4, K5, K6, K7, K8, K9, K10, K11, K12, K13, K14, K20, K24, K25, K32, K33, K40, K41, K60, K63, K64, K100, K112, K120, K128, K129, K153, K161, K162, K163, K255, K256, K900, K903, K999, K1000, K1195, K1196, K2000, K2096, K3000, K3001, K3002, K3003, K3004, K3005, K3006, K3007, K3008, ho 1 (by decide), hl, hw (j := 1) (by decide), hw (j := 2) (by decide)]
    rw [gd_0 g hr]
    simp (disch := omega) only [nmul]
  | some cd =>
    rw [hr] at hl
    have ht := g.tg
    rw [egood, hr] at ht
    have hl5 : gi m 1 5 = nI 1 := hl.1
    obtain ⟨v, m2, e1, e2, e3⟩ := m_reckon (m := wrw 5 m (ww r x p q)) (l := 0) (cd := cd) (by decide) (fun k _ => ww_le g hp hq k) (fun k hk => wrw_w hk) (hl.fr (fun j => ho 1 (by decide) j)) ht
    refine ⟨m2, ?_, (wrw_f.mono (fun c hc => Or.inl hc)).tr (e3.mono (fun c hc => Or.inr hc))⟩
    simp (disch := omega) only [nadn, gsn, gss, gsi, if_true, if_false, chk_in, chk_tt, bq, lq, ix_nI, jle_t, jle_f, jlt_t, jlt_f, jeq_t, jeq_f, nadd, nmul, nsub, nshl, nshl2, nor, nand, nandn, ↓kn1, K0, K1, K2, K3, K4, K5, K6, K7, K8, K9, K10, K11, K12, K13, K14, K20, K24, K25, K32, K33, K40, K41, K60, K63, K64, K100, K112, K120, K128, K129, K153, K161, K162, K163, K255, K256, K900, K903, K999, K1000, K1195, K1196, K2000, K2096, K3000, K3001, K3002, K3003, K3004, K3005, K3006, K3007, K3008, ho 1 (by decide), hl5, e1]
    rw [gd, egood, hr]
    show some (v, m2) = some ((evs (ww r x p q) cd []).headD 0, m2)
    rw [e2]
    rfl
theorem m_mayWed {r : Ru} {x : Lf} {m : Mem} (g : GX r x) (h : IM r x m) {p q : Nat} (hp : p < rP r) (hq : q < rP r) : ∃ m2, X12_mayWed (nI p) (nI q) m = some (nI (if my r x p q then 1 else 0), m2) ∧ Fr s56 m m2 := by
  have hP := g.P
  have k := m_laysTwo g h hp hq
  have hl := h.1.2.2.2.2.2.2.2.2
  rw [X12_mayWed, k, bq]
  have ho := fun (b : Nat) (hb : b ≠ 5) (j : Nat) => wrw_o (c := 5) (m := m) (w := ww r x p q) hb j
  cases hr : rmay r with
  | none =>
    rw [hr] at hl
    have hl : gi m 1 6 = nI 0 := hl
    refine ⟨wrw 5 m (ww r x p q), ?_, wrw_f.mono (fun c hc => Or.inl hc)⟩
    simp (disch := omega) only [nadn, gsn, gss, gsi, if_true, if_false, chk_in, chk_tt, bq, lq, ix_nI, jle_t, jle_f, jlt_t, jlt_f, jeq_t, jeq_f, nadd, nmul, nsub, nshl, nshl2, nor, nand, nandn, ↓kn1, K0, K1, K2, K3, K4, K5, K6, K7, K8, K9, K10, K11, K12, K13, K14, K20, K24, K25, K32, K33, K40, K41, K60, K63, K64, K100, K112, K120, K128, K129, K153, K161, K162, K163, K255, K256, K900, K903, K999, K1000, K1195, K1196, K2000, K2096, K3000, K3001, K3002, K3003, K3004, K3005, K3006, K3007, K3008, ho 1 (by decide), hl]
    rw [my_0 hr]
    rfl
  | some cd =>
    rw [hr] at hl
    have ht : tyc (emay r) [] = some [true] := by
      rcases g.tm with hn | ht
      · rw [hr] at hn; cases hn
      · exact ht
    rw [emay, hr] at ht
    have hl5 : gi m 1 6 = nI 1 := hl.1
    obtain ⟨v, m2, e1, e2, e3⟩ := m_reckon (m := wrw 5 m (ww r x p q)) (l := 1) (cd := cd) (by decide) (fun k _ => ww_le g hp hq k) (fun k hk => wrw_w hk) (hl.fr (fun j => ho 1 (by decide) j)) ht
    refine ⟨m2, ?_, (wrw_f.mono (fun c hc => Or.inl hc)).tr (e3.mono (fun c hc => Or.inr hc))⟩
    simp (disch := omega) only [nadn, gsn, gss, gsi, if_true, if_false, chk_in, chk_tt, bq, lq, ix_nI, jle_t, jle_f, jlt_t, jlt_f, jeq_t, jeq_f, nadd, nmul, nsub, nshl, nshl2, nor, nand, nandn, ↓kn1, K0, K1, K2, K3, K4, K5, K6, K7, K8, K9, K10, K11, K12, K13, K14, K20, K24, K25, K32, K33, K40, K41, K60, K63, K64, K100, K112, K120, K128, K129, K153, K161, K162, K163, K255, K256, K900, K903, K999, K1000, K1195, K1196, K2000, K2096, K3000, K3001, K3002, K3003, K3004, K3005, K3006, K3007, K3008, ho 1 (by decide), hl5, e1]
    have e4 : (evs (ww r x p q) (emay r) []) = [v] := by rw [emay, hr]; exact e2
    rcases may_01 g hp hq with z | z
    · rw [e4] at z
      injection z with z _
      rw [z, if_neg (by decide), my, e4, z]
      rfl
    · rw [e4] at z
      injection z with z _
      rw [z, if_pos (by decide), my, e4, z]
      rfl
