/-! wishes -/
def low (v : Nat) : Option Nat := (List.range 14).find? (fun t => v.testBit t)
theorem low_some {v t : Nat} (ht : t < 14) (h1 : v.testBit t = true) (h2 : ∀ u, u < t → v.testBit u = false) : low v = some t := by
  rw [low, List.find?_range_eq_some]
  exact ⟨h1, List.mem_range.mpr ht, fun j hj => by rw [h2 j hj]; rfl⟩
theorem low_zero : low 0 = none := by decide
/-- what p takes up from q, by the lists -/
def wis (r : Ru) (x : Lf) (p q : Nat) : Option Nat := if rroom r ≤ pcn (ls r x p) then none else low (nd (ls r x q) (ls r x p))
theorem wis_cong {r : Ru} {x y : Lf} {p q : Nat} (h1 : ls r x p = ls r y p) (h2 : ls r x q = ls r y q) : wis r x p q = wis r y p q := by rw [wis, wis, h1, h2]
theorem low_ex {v : Nat} (h0 : v ≠ 0) (h : v < 16384) : ∃ t, t < 14 ∧ v.testBit t = true ∧ (∀ u, u < t → v.testBit u = false) ∧ low v = some t ∧ ∀ m : Mem, J6_numberOfTrailingZeros_0f7a4 (nI v) m = some (nI t, m) := by
  obtain ⟨t, h1, h2, h3, h4⟩ := ntz h0 h
  exact ⟨t, h1, h2, h3, low_some h1 h2 h3, h4⟩
theorem nd_ls_bit {r : Ru} {x : Lf} (hT : rT r ≤ 14) {p q t : Nat} (h : (nd (ls r x q) (ls r x p)).testBit t = true) : t < rT r := by
  have hl := ls_lt hT x q
  rw [nd_bit (by omega), ls, bs_bit] at h
  simp at h
  exact h.1.1
theorem wis_lt {r : Ru} {x : Lf} (hT : rT r ≤ 14) {p q t : Nat} (h : wis r x p q = some t) : t < rT r := by
  have hl := ls_lt hT x q
  have hn := nd_le (ls r x q) (ls r x p)
  rw [wis] at h
  split at h
  · cases h
  · by_cases h0 : nd (ls r x q) (ls r x p) = 0
    · rw [h0, low_zero] at h; cases h
    · obtain ⟨u, u1, u2, u3, u4, _⟩ := low_ex h0 (by omega)
      rw [u4] at h
      injection h with h
      subst h
      exact nd_ls_bit hT u2
/-- taken up, if anything -/
def adn (x : Lf) (p : Nat) (o : Option Nat) : Lf := match o with
  | none => x
  | some t => st x p t (some 0)
theorem c_hasRoom {r : Ru} {x : Lf} {m : Mem} {a : Nat} (g : GX r x) (h : IC r x m a) {p : Nat} (hp : p < rP r) : X10_hasRoom a (nI p) m = some (nI (if pcn (ls r x p) < rroom r then 1 else 0), m) := by
  have hP := g.P; have hl := ls_lt g.T x p; have hc := pcn_le (ls r x p); have hr := g.rm2
  rw [X10_hasRoom]
  by_cases hx : pcn (ls r x p) < rroom r
  · simp (disch := omega) only [nadn, gsn, gss, gsi, if_true, if_false, chk_in, chk_tt, bq, lq, ix_nI, jle_t, jle_f, jlt_t, jlt_f, jeq_t, jeq_f, nadd, nmul, nsub, nshl, nshl2, nor, nand, nandn, ↓kn1, K0, K1, K2, K3, K4, K5, K6, K7, K8, K9, K10, K11, K12, K13, K14, K20, K24, K25, K32, K33, K40, K41, K60, K63, K64, K100, K112, K120, K128, K129, K153, K161, K162, K163, K255, K256, K900, K903, K999, K1000, K1195, K1196, K2000, K2096, K3000, K3001, K3002, K3003, K3004, K3005, K3006, K3007, K3008, h.list hp, bitc, h.room]
    rw [if_pos hx]
  · simp (disch := omega) only [nadn, gsn, gss, gsi, if_true, if_false, chk_in, chk_tt, bq, lq, ix_nI, jle_t, jle_f, jlt_t, jlt_f, jeq_t, jeq_f, nadd, nmul, nsub, nshl, nshl2, nor, nand, nandn, ↓kn1, K0, K1, K2, K3, K4, K5, K6, K7, K8, K9, K10, K11, K12, K13, K14, K20, K24, K25, K32, K33, K40, K41, K60, K63, K64, K100, K112, K120, K128, K129, K153, K161, K162, K163, K255, K256, K900, K903, K999, K1000, K1195, K1196, K2000, K2096, K3000, K3001, K3002, K3003, K3004, K3005, K3006, K3007, K3008, h.list hp, bitc, h.room]
    rw [if_neg hx]
theorem c_wish {r : Ru} {x : Lf} {m : Mem} {a : Nat} (g : GX r x) (h : IC r x m a) {p q : Nat} (hp : p < rP r) (hq : q < rP r) : X10_wish a (nI p) (nI q) m = some (oN (wis r x p q), m) := by
  have hP := g.P; have hl := ls_lt g.T x p; have hl2 := ls_lt g.T x q
  have hn := nd_le (ls r x q) (ls r x p)
  rw [X10_wish, wis]
  by_cases h0 : nd (ls r x q) (ls r x p) = 0
  · simp (disch := omega) only [nadn, gsn, gss, gsi, if_true, if_false, chk_in, chk_tt, bq, lq, ix_nI, jle_t, jle_f, jlt_t, jlt_f, jeq_t, jeq_f, nadd, nmul, nsub, nshl, nshl2, nor, nand, nandn, ↓kn1, K0, K1, K2, K3, K4, K5, K6, K7, K8, K9, K10, K11, K12, K13, K14, K20, K24, K25, K32, K33, K40, K41, K60, K63, K64, K100, K112, K120, K128, K129, K153, K161, K162, K163, K255, K256, K900, K903, K999, K1000, K1195, K1196, K2000, K2096, K3000, K3001, K3002, K3003, K3004, K3005, K3006, K3007, K3008, h.list hp, h.list hq, h0]
    rw [low_zero]
    split <;> rfl
  · obtain ⟨u, u1, u2, u3, u4, u5⟩ := low_ex h0 (by omega)
    simp (disch := omega) only [nadn, gsn, gss, gsi, if_true, if_false, chk_in, chk_tt, bq, lq, ix_nI, jle_t, jle_f, jlt_t, jlt_f, jeq_t, jeq_f, nadd, nmul, nsub, nshl, nshl2, nor, nand, nandn, ↓kn1, K0, K1, K2, K3, K4, K5, K6, K7, K8, K9, K10, K11, K12, K13, K14, K20, K24, K25, K32, K33, K40, K41, K60, K63, K64, K100, K112, K120, K128, K129, K153, K161, K162, K163, K255, K256, K900, K903, K999, K1000, K1195, K1196, K2000, K2096, K3000, K3001, K3002, K3003, K3004, K3005, K3006, K3007, K3008, h.list hp, h.list hq, c_hasRoom g h hp]
    by_cases hr : pcn (ls r x p) < rroom r
    · simp (disch := omega) only [if_pos hr, jeq_f, u5, bq]
      rw [if_neg (by omega), u4]; rfl
    · simp (disch := omega) only [if_neg hr, jeq_t]
      rw [if_pos (show rroom r ≤ pcn (ls r x p) by omega)]; rfl
theorem c_exchange_b {r : Ru} {x : Lf} {m : Mem} {a : Nat} (ha : 25 ≤ a) (g : GX r x) (h : IC r x m a) {q : Nat} (hq : q < rP r) {o : Option Nat} (ho : ∀ t, o = some t → t < rT r) : ∃ m2, X10_exchange_b33 a (nI q) (oN o) m = some ((), m2) ∧ IC r (adn x q o) m2 a ∧ Fr (s46 a) m m2 := by
  have hT := g.T
  rw [X10_exchange_b33]
  cases o with
  | none =>
    rw [oN_none, c_isThing_f g h (fun ⟨n, hn, e⟩ => nI_ne_m1 (show n < 2147483648 by omega) e.symm), bq, K0, jeq_t rfl]
    exact ⟨m, rfl, h, Fr.rf⟩
  | some t =>
    have ht := ho t rfl
    obtain ⟨m2, e1, e2, e3⟩ := c_adopt ha g.T g.P h hq ht 0
    rw [oN_some, c_isThing_t g h ht, bq, K0, jeq_f (by omega) (by omega) (by omega), e1, bq]
    exact ⟨m2, rfl, e2, e3⟩
theorem c_exchange {r : Ru} {x : Lf} {m : Mem} {a : Nat} (ha : 25 ≤ a) (g : GX r x) (h : IC r x m a) {p q : Nat} (hp : p < rP r) (hq : q < rP r) (gp : GX r (adn x p (wis r x p q))) : ∃ m2, X10_exchange a (nI p) (nI q) m = some ((), m2) ∧ IC r (adn (adn x p (wis r x p q)) q (wis r x q p)) m2 a ∧ Fr (s46 a) m m2 := by
  have hT := g.T
  rw [X10_exchange, c_wish g h hp hq, bq, c_wish g h hq hp, bq]
  cases hw : wis r x p q with
  | none =>
    rw [oN_none, c_isThing_f g h (fun ⟨n, hn, e⟩ => nI_ne_m1 (show n < 2147483648 by omega) e.symm), bq, K0, jeq_t rfl]
    exact c_exchange_b ha g h hq (fun t e => wis_lt hT e)
  | some t =>
    have ht := wis_lt hT hw
    obtain ⟨m2, e1, e2, e3⟩ := c_adopt ha g.T g.P h hp ht 0
    rw [hw] at gp
    obtain ⟨m3, f1, f2, f3⟩ := c_exchange_b ha gp e2 hq (fun t e => wis_lt hT e)
    rw [oN_some, c_isThing_t g h ht, bq, K0, jeq_f (by omega) (by omega) (by omega), e1, bq, f1]
    exact ⟨m3, rfl, f2, e3.tr f3⟩
theorem WL.xa {r : Ru} {x : Lf} {B : Nat} (h : WL r x B) (p : Nat) (o : Option Nat) : WL r (adn x p o) B := by
  cases o with
  | none => exact h
  | some t =>
    obtain ⟨h1, h2, h3, h4⟩ := h
    refine ⟨h1, h2, fun i u v hv => ?_, h4⟩
    have hv : (if i = p ∧ u = t then some 0 else lsn x i u) = some v := hv
    split at hv
    · injection hv with hv; omega
    · exact h3 i u v hv
/-- all who are of D and have an other one by mf take up what they wish, by the lists of y -/
def exf (r : Ru) (mf : Nat → Option Nat) (y : Lf) (i : Nat) : Option Nat := match mf i with
  | none => none
  | some q => wis r y i q
def exD (r : Ru) (D : Nat → Bool) (mf : Nat → Option Nat) (y : Lf) : Lf := (lag y, lmt y, fun i t => if D i ∧ exf r mf y i = some t then some 0 else lsn y i t, lyr y)
theorem lsn_exD (r : Ru) (D : Nat → Bool) (mf : Nat → Option Nat) (y : Lf) (i t : Nat) : lsn (exD r D mf y) i t = if D i ∧ exf r mf y i = some t then some 0 else lsn y i t := rfl
theorem WL.xe {r : Ru} {x : Lf} {B : Nat} (h : WL r x B) (D : Nat → Bool) (mf : Nat → Option Nat) : WL r (exD r D mf x) B := by
  obtain ⟨h1, h2, h3, h4⟩ := h
  refine ⟨h1, h2, fun i u v hv => ?_, h4⟩
  rw [lsn_exD] at hv
  split at hv
  · injection hv with hv; omega
  · exact h3 i u v hv
theorem WL.xw {r : Ru} {x : Lf} {B : Nat} (h : WL r x B) (A S : Nat → Bool) : WL r (grw r A S x) (B + 1) := by
  obtain ⟨h1, h2, h3, h4⟩ := h
  refine ⟨fun p hp => ?_, Nat.le_succ_of_le h2, fun i u v hv => ?_, h4⟩
  · have := h1 p hp
    rw [lag_grw]
    split <;> omega
  · rw [lsn_grw] at hv
    split at hv
    · cases hx : lsn x i u with
      | none => rw [hx] at hv; cases hv
      | some w =>
        rw [hx, gwo] at hv
        have := h3 i u w hx
        split at hv
        · cases hv
        · injection hv with hv; omega
    · have := h3 i u v hv; omega
theorem WL.xy {r : Ru} {x : Lf} {B v : Nat} (h : WL r x B) (hv : v ≤ B) : WL r (syr x v) B := ⟨h.1, hv, h.2.2.1, h.2.2.2⟩
theorem exD_ls {r : Ru} {D : Nat → Bool} {mf : Nat → Option Nat} {y : Lf} {i : Nat} (h : D i = false) : ls r (exD r D mf y) i = ls r y i := ls_eq (fun t _ => by rw [has, has, lsn_exD, h, if_neg (fun q => Bool.noConfusion q.1)])
