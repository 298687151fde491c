/-! the words of two people -/
def ww (r : Ru) (x : Lf) (p q : Nat) (k : Nat) : Nat := if k = 0 then pcn (ls r x p &&& ls r x q) else if k = 1 then ras r x (ls r x p &&& ls r x q) (rT r) else if k = 2 then pcn (ls r x p &&& rtr r q) + pcn (ls r x q &&& rtr r p) else if k = 3 then pcn (ls r x p) + pcn (ls r x q) else if k = 4 then (if lag x p ≤ lag x q then lag x q - lag x p else lag x p - lag x q) else if k = 5 then (if lag x p ≤ lag x q then lag x q else lag x p) else lyr x
def wrw (c : Nat) (m : Mem) (w : Nat → Nat) : Mem := si (si (si (si (si (si (si m c 0 (nI (w 0))) c 1 (nI (w 1))) c 2 (nI (w 2))) c 3 (nI (w 3))) c 4 (nI (w 4))) c 5 (nI (w 5))) c 6 (nI (w 6))
theorem wrw_o {c : Nat} {m : Mem} {w : Nat → Nat} {b : Nat} (h : b ≠ c) (j : Nat) : gi (wrw c m w) b j = gi m b j := by
  unfold wrw
  simp only [gsn h]
theorem wrw_l {c : Nat} {m : Mem} {w : Nat → Nat} (b j : Nat) : gl (wrw c m w) b j = gl m b j := rfl
theorem wrw_w {c : Nat} {m : Mem} {w : Nat → Nat} {k : Nat} (h : k < 7) : gi (wrw c m w) c k = nI (w k) := by
  unfold wrw
  have : k = 0 ∨ k = 1 ∨ k = 2 ∨ k = 3 ∨ k = 4 ∨ k = 5 ∨ k = 6 := by omega
  rcases this with h | h | h | h | h | h | h <;> subst h <;> simp [gi_si]
theorem wrw_f {c : Nat} {m : Mem} {w : Nat → Nat} : Fr (fun b => b = c) m (wrw c m w) := fun b hb j => ⟨wrw_o hb j, rfl⟩
theorem IM.si {r : Ru} {x : Lf} {m : Mem} (h : IM r x m) {c : Nat} (hc : 1 ≠ c) (j : Nat) (v : Int32) : IM r x (si m c j v) := h.fr (fun _ => gsn hc)
theorem and_lt14 {a b : Nat} (h : a < 16384) : a &&& b < 16384 := Nat.lt_of_le_of_lt Nat.and_le_left h
theorem m_laysTwo {r : Ru} {x : Lf} {m : Mem} (g : GX r x) (h : IM r x m) {p q : Nat} (hp : p < rP r) (hq : q < rP r) : X12_laysTwo (nI p) (nI q) m = some ((), wrw 5 m (ww r x p q)) := by
  have hT := g.T; have hP := g.P
  have h1 := ls_lt g.T x p; have h2 := ls_lt g.T x q
  have h3 := g.tr14 hp; have h4 := g.tr14 hq
  have h5 := g.age hp; have h6 := g.age hq
  have b1 := @and_lt14 (ls r x p) (ls r x q) h1
  have b2 := @and_lt14 (ls r x p) (rtr r q) h1
  have b3 := @and_lt14 (ls r x q) (rtr r p) h2
  have k1 := fun v => m_rareOfAll g (h.si (c := 5) (by decide) 0 v) (s := ls r x p &&& ls r x q) (by omega)
  rw [X12_laysTwo]
  simp (disch := omega) only [nadn, gsn, gss, gsi, if_true, if_false, chk_in, chk_tt, bq, lq, ix_nI, jle_t, jle_f, jlt_t, jlt_f, jeq_t, jeq_f, nadd, nmul, nsub, nshl, nshl2, nor, nand, nandn, ↓kn1, K0, K1, K2, K3, K4, K5, K6, K7, K8, K9, K10, K11, K12, K13, K14, K20, K24, K25, K32, K33, K40, K41, K60, K63, K64, K100, K112, K120, K128, K129, K153, K161, K162, K163, K255, K256, K900, K903, K999, K1000, K1195, K1196, K2000, K2096, K3000, K3001, K3002, K3003, K3004, K3005, K3006, K3007, K3008, m_listOf g h hp, m_listOf g h hq, h.age hp, h.age hq, m_bitsOf, k1, h.tr hp, h.tr hq, h.yr, X12_laysTwo_b139, X12_laysTwo_b159]
  have e0 : ww r x p q 0 = pcn (ls r x p &&& ls r x q) := rfl
  have e1 : ww r x p q 1 = ras r x (ls r x p &&& ls r x q) (rT r) := rfl
  have e2 : ww r x p q 2 = pcn (ls r x p &&& rtr r q) + pcn (ls r x q &&& rtr r p) := rfl
  have e3 : ww r x p q 3 = pcn (ls r x p) + pcn (ls r x q) := rfl
  have e4 : ww r x p q 4 = (if lag x p ≤ lag x q then lag x q - lag x p else lag x p - lag x q) := rfl
  have e5 : ww r x p q 5 = (if lag x p ≤ lag x q then lag x q else lag x p) := rfl
  have e6 : ww r x p q 6 = lyr x := rfl
  unfold wrw
  rw [e0, e1, e2, e3, e4, e5, e6]
  by_cases hl : lag x p ≤ lag x q
  · simp (disch := omega) only [jle_t, nsub, if_pos hl]
  · simp (disch := omega) only [jle_f, nsub, if_neg hl]
/-! what the class holds -/
def IC (r : Ru) (x : Lf) (m : Mem) (a : Nat) : Prop := CR r m 2 ∧ CL r x m (a + 1)
theorem IC.T {r : Ru} {x : Lf} {m : Mem} {a : Nat} (h : IC r x m a) : gi m 2 0 = nI (rT r) := h.1.1
theorem IC.P {r : Ru} {x : Lf} {m : Mem} {a : Nat} (h : IC r x m a) : gi m 2 1 = nI (rP r) := h.1.2.1
theorem IC.bar {r : Ru} {x : Lf} {m : Mem} {a : Nat} (h : IC r x m a) : gi m 2 2 = nI (rbar r) := h.1.2.2.1
theorem IC.room {r : Ru} {x : Lf} {m : Mem} {a : Nat} (h : IC r x m a) : gi m 2 3 = nI (rroom r) := h.1.2.2.2.1
theorem IC.lin {r : Ru} {x : Lf} {m : Mem} {a : Nat} (h : IC r x m a) : gi m 2 4 = nI (rlin r) := h.1.2.2.2.2.1
theorem IC.wan {r : Ru} {x : Lf} {m : Mem} {a : Nat} (h : IC r x m a) {t : Nat} (ht : t < rT r) : gi m 3 t = nI (rwan r t) := h.1.2.2.2.2.2.1 t ht
theorem IC.tr {r : Ru} {x : Lf} {m : Mem} {a : Nat} (h : IC r x m a) {p : Nat} (hp : p < rP r) : gi m 4 p = nI (rtr r p) := h.1.2.2.2.2.2.2.1 p hp
theorem IC.yr {r : Ru} {x : Lf} {m : Mem} {a : Nat} (h : IC r x m a) : gi m (a + 1) 0 = nI (lyr x) := h.2.1
theorem IC.age {r : Ru} {x : Lf} {m : Mem} {a : Nat} (h : IC r x m a) {p : Nat} (hp : p < rP r) : gi m (a + 1 + 1) p = nI (lag x p) := h.2.2.1 p hp
theorem IC.mate {r : Ru} {x : Lf} {m : Mem} {a : Nat} (h : IC r x m a) {p : Nat} (hp : p < rP r) : gi m (a + 1 + 2) p = oN (lmt x p) := h.2.2.2.1 p hp
theorem IC.list {r : Ru} {x : Lf} {m : Mem} {a : Nat} (h : IC r x m a) {p : Nat} (hp : p < rP r) : gi m (a + 1 + 3) p = nI (ls r x p) := h.2.2.2.2.1 p hp
theorem IC.who {r : Ru} {x : Lf} {m : Mem} {a : Nat} (h : IC r x m a) {t : Nat} (ht : t < rT r) : gi m (a + 1 + 4) t = nI (wh r x t) := h.2.2.2.2.2.1 t ht
theorem IC.held {r : Ru} {x : Lf} {m : Mem} {a : Nat} (h : IC r x m a) {p t v : Nat} (hp : p < rP r) (ht : t < rT r) (hv : lsn x p t = some v) : gi m (a + 1 + 5) (p * 14 + t) = nI v := h.2.2.2.2.2.2 p t v hp ht hv
theorem IC.fr {r : Ru} {x : Lf} {m m2 : Mem} {a : Nat} (h : IC r x m a) (hf : ∀ c, (2 ≤ c ∧ c ≤ 8) ∨ (a + 1 ≤ c ∧ c ≤ a + 6) → ∀ j, gi m2 c j = gi m c j) : IC r x m2 a :=
  ⟨h.1.fr (fun c h1 h2 => hf c (Or.inl ⟨h1, by omega⟩)), h.2.fr (fun c h1 h2 => hf c (Or.inr ⟨h1, by omega⟩))⟩
theorem IC.si {r : Ru} {x : Lf} {m : Mem} {a : Nat} (h : IC r x m a) {c : Nat} (hc : 9 ≤ c) (hc2 : c ≤ a ∨ a + 6 < c) (j : Nat) (v : Int32) : IC r x (si m c j v) a := h.fr (fun b hb i => gsn (by omega))
theorem absd {a b : Nat} (ha : a < 1000000) (hb : b < 1000000) : (if nI 0 ≤ nI a - nI b then nI a - nI b else nI 0 - (nI a - nI b)) = nI (if a ≤ b then b - a else a - b) := by
  by_cases h : b ≤ a
  · rw [nsub h, if_pos (nI_le (by omega) (by omega))]
    split
    · congr 1; omega
    · rfl
  · rw [if_pos (show a ≤ b by omega)]
    have e : nI a - nI b = - nI (b - a) := by
      rw [← nsub (show a ≤ b by omega)]
      simp
    rw [e]
    rw [if_neg]
    · rw [← K0]; simp
    · rw [le_iff, ← K0, zI]
      have h1 : (nI (b - a)).toInt = (b - a : Nat) := tI (by omega)
      have h2 : (- nI (b - a)).toInt = - ((b - a : Nat) : Int) := by
        rw [Int32.toInt_neg, h1, Int.bmod_def]
        omega
      omega
theorem jbit_t {β : Type} {a t : Nat} {x y : β} {D : Decidable (nI (a &&& 2 ^ t) = nI 0)} (h : a.testBit t = true) (ha : a < 2147483648) : @ite β (nI (a &&& 2 ^ t) = nI 0) D x y = y := if_neg (fun q => by
  rw [← nand] at q
  rw [(bit0 ha).mp q] at h
  exact Bool.noConfusion h)
theorem jbit_f {β : Type} {a t : Nat} {x y : β} {D : Decidable (nI (a &&& 2 ^ t) = nI 0)} (h : a.testBit t = false) (ha : a < 2147483648) : @ite β (nI (a &&& 2 ^ t) = nI 0) D x y = x := if_pos (by
  rw [← nand]
  exact (bit0 ha).mpr h)
/-- two lists as they are in a life y, over the life x -/
def LY (r : Ru) (x y : Lf) (p q : Nat) : Prop := lag y p = lag x p ∧ lag y q = lag x q ∧ lyr y = lyr x ∧ ∀ t, t < rT r → (ls r y p &&& ls r y q).testBit t = true → wh r x t ||| (2 ^ p ||| 2 ^ q) = wh r y t
theorem c_measure_loop {r : Ru} {x y : Lf} {m : Mem} {a : Nat} (ha : 25 ≤ a) (g : GX r x) (h : IC r x m a) {p q : Nat} (hp : p < rP r) (hq : q < rP r) (hy : LY r x y p q) : ∀ n k, k ≤ rT r → rT r - k < n → X10_measure_b21 a n (nI p) (nI q) (nI (ls r y p)) (nI (ls r y q)) (nI (ls r y p &&& ls r y q)) (nI (2 ^ p ||| 2 ^ q)) (nI (ras r y (ls r y p &&& ls r y q) k)) (nI k) m = some ((), wrw 23 m (ww r y p q)) := by
  have hT := g.T; have hP := g.P
  have h1 := ls_lt g.T y p; have h2 := ls_lt g.T y q
  have h3 := g.tr14 hp; have h4 := g.tr14 hq
  have h5 := g.age hp; have h6 := g.age hq
  have b1 := @and_lt14 (ls r y p) (ls r y q) h1
  have b2 := @and_lt14 (ls r y p) (rtr r q) h1
  have b3 := @and_lt14 (ls r y q) (rtr r p) h2
  obtain ⟨y1, y2, y3, y4⟩ := hy
  intro n
  induction n with
  | zero => intro k _ h; omega
  | succ n ih =>
    intro k hk hn
    rw [X10_measure_b21]
    rcases Nat.eq_or_lt_of_le hk with he | hl
    · subst he
      simp (disch := omega) only [nadn, gsn, gss, gsi, if_true, if_false, chk_in, chk_tt, bq, lq, ix_nI, jle_t, jle_f, jlt_t, jlt_f, jeq_t, jeq_f, nadd, nmul, nsub, nshl, nshl2, nor, nand, nandn, ↓kn1, K0, K1, K2, K3, K4, K5, K6, K7, K8, K9, K10, K11, K12, K13, K14, K20, K24, K25, K32, K33, K40, K41, K60, K63, K64, K100, K112, K120, K128, K129, K153, K161, K162, K163, K255, K256, K900, K903, K999, K1000, K1195, K1196, K2000, K2096, K3000, K3001, K3002, K3003, K3004, K3005, K3006, K3007, K3008, h.T, bitc, h.tr hp, h.tr hq, h.age hp, h.age hq, h.yr]
      unfold wrw
      have e0 : ww r y p q 0 = pcn (ls r y p &&& ls r y q) := rfl
      have e1 : ww r y p q 1 = ras r y (ls r y p &&& ls r y q) (rT r) := rfl
      have e2 : ww r y p q 2 = pcn (ls r y p &&& rtr r q) + pcn (ls r y q &&& rtr r p) := rfl
      have e3 : ww r y p q 3 = pcn (ls r y p) + pcn (ls r y q) := rfl
      have e4 : ww r y p q 4 = (if lag y p ≤ lag y q then lag y q - lag y p else lag y p - lag y q) := rfl
      have e5 : ww r y p q 5 = (if lag y p ≤ lag y q then lag y q else lag y p) := rfl
      have e6 : ww r y p q 6 = lyr y := rfl
      rw [e0, e1, e2, e3, e4, e5, e6, y1, y2, y3, absd (by omega) (by omega)]
      by_cases hl : lag x p < lag x q
      · simp (disch := omega) only [jlt_t, if_pos (show lag x p ≤ lag x q by omega)]
      · simp (disch := omega) only [jlt_f]
        by_cases hl2 : lag x p = lag x q
        · rw [hl2]; simp
        · rw [if_neg (show ¬ lag x p ≤ lag x q by omega)]
          rw [if_neg (show ¬ lag x p ≤ lag x q by omega)]
    · have ih2 := ih (k + 1) (by omega) (by omega)
      have hw := wh_lt g.P y k
      have hc := wh_pc y k g.P
      by_cases hx : (ls r y p &&& ls r y q).testBit k = true
      · rw [ras, su, if_pos hx] at ih2
        simp (disch := first | exact hx | omega) only [nadn, gsn, gss, gsi, if_true, if_false, chk_in, chk_tt, bq, lq, ix_nI, jle_t, jle_f, jlt_t, jlt_f, jeq_t, jeq_f, nadd, nmul, nsub, nshl, nshl2, nor, nand, nandn, ↓kn1, K0, K1, K2, K3, K4, K5, K6, K7, K8, K9, K10, K11, K12, K13, K14, K20, K24, K25, K32, K33, K40, K41, K60, K63, K64, K100, K112, K120, K128, K129, K153, K161, K162, K163, K255, K256, K900, K903, K999, K1000, K1195, K1196, K2000, K2096, K3000, K3001, K3002, K3003, K3004, K3005, K3006, K3007, K3008, h.T, h.P, jbit_t, h.who hl, y4 k hl hx, bitc]
        exact ih2
      · have hx : (ls r y p &&& ls r y q).testBit k = false := by simpa using hx
        rw [ras, su, hx] at ih2
        simp (disch := first | exact hx | omega) only [nadn, gsn, gss, gsi, if_true, if_false, chk_in, chk_tt, bq, lq, ix_nI, jle_t, jle_f, jlt_t, jlt_f, jeq_t, jeq_f, nadd, nmul, nsub, nshl, nshl2, nor, nand, nandn, ↓kn1, K0, K1, K2, K3, K4, K5, K6, K7, K8, K9, K10, K11, K12, K13, K14, K20, K24, K25, K32, K33, K40, K41, K60, K63, K64, K100, K112, K120, K128, K129, K153, K161, K162, K163, K255, K256, K900, K903, K999, K1000, K1195, K1196, K2000, K2096, K3000, K3001, K3002, K3003, K3004, K3005, K3006, K3007, K3008, h.T, jbit_f]
        simpa [ras] using ih2
theorem c_measure {r : Ru} {x y : Lf} {m : Mem} {a : Nat} (ha : 25 ≤ a) (g : GX r x) (h : IC r x m a) {p q : Nat} (hp : p < rP r) (hq : q < rP r) (hy : LY r x y p q) : X10_measure a (nI p) (nI q) (nI (ls r y p)) (nI (ls r y q)) m = some ((), wrw 23 m (ww r y p q)) := by
  have hP := g.P
  rw [X10_measure]
  simp (disch := omega) only [nadn, gsn, gss, gsi, if_true, if_false, chk_in, chk_tt, bq, lq, ix_nI, jle_t, jle_f, jlt_t, jlt_f, jeq_t, jeq_f, nadd, nmul, nsub, nshl, nshl2, nor, nand, nandn, ↓kn1, K0, K1, K2, K3, K4, K5, K6, K7, K8, K9, K10, K11, K12, K13, K14, K20, K24, K25, K32, K33, K40, K41, K60, K63, K64, K100, K112, K120, K128, K129, K153, K161, K162, K163, K255, K256, K900, K903, K999, K1000, K1195, K1196, K2000, K2096, K3000, K3001, K3002, K3003, K3004, K3005, K3006, K3007, K3008]
  exact c_measure_loop ha g h hp hq hy FU 0 (by omega) (by have := g.T; unfold FU; omega)
theorem or_self {r : Ru} {x : Lf} {p q t : Nat} (hp : p < rP r) (hq : q < rP r) (h1 : has x p t = true) (h2 : has x q t = true) : wh r x t ||| (2 ^ p ||| 2 ^ q) = wh r x t := by
  apply Nat.eq_of_testBit_eq
  intro i
  rw [Nat.testBit_or, Nat.testBit_or, Nat.testBit_two_pow, Nat.testBit_two_pow, wh, bs_bit]
  by_cases e1 : p = i
  · subst e1; simp [hp, h1]
  · by_cases e2 : q = i
    · subst e2; simp [hq, h2]
    · simp [e1, e2]
theorem LY.rf {r : Ru} {x : Lf} {p q : Nat} (hp : p < rP r) (hq : q < rP r) : LY r x x p q := ⟨rfl, rfl, rfl, fun t ht hb => by
  rw [Nat.testBit_and, ls, ls, bs_bit, bs_bit] at hb
  simp only [ht, decide_true, Bool.true_and, Bool.and_eq_true] at hb
  exact or_self hp hq hb.1 hb.2⟩
