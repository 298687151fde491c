def okA (r : Ru) (x : Lf) (p q A : Nat) : Bool := decide (¬ gd r (fbx x p A) p q < nI (rbar r))
def s96 (c : Nat) : Prop := c = 23 ∨ c = 24 ∨ c = 96
/-- what the search reads -/
def SKM (r : Ru) (x : Lf) (p q F : Nat) (m : Mem) : Prop := IC r x m 25 ∧ gi m 96 1 = nI p ∧ gi m 96 2 = nI q ∧ gi m 96 3 = nI F ∧ ∀ t, t < 14 → gi m 98 t = nI (alk F (efl r x p q) t)
theorem SKM.fr {r : Ru} {x : Lf} {p q F : Nat} {m m2 : Mem} (h : SKM r x p q F m) (hf : Fr s24 m m2) : SKM r x p q F m2 := ⟨h.1.f24 (by decide) hf, by rw [(hf 96 (by unfold s24; omega) 1).1, h.2.1], by rw [(hf 96 (by unfold s24; omega) 2).1, h.2.2.1], by rw [(hf 96 (by unfold s24; omega) 3).1, h.2.2.2.1], fun t ht => by rw [(hf 98 (by unfold s24; omega) t).1, h.2.2.2.2 t ht]⟩
theorem SKM.s6 {r : Ru} {x : Lf} {p q F : Nat} {m : Mem} (h : SKM r x p q F m) (v : Int32) : SKM r x p q F (si m 96 6 v) := ⟨h.1.si (by decide) (by decide) 6 v, by rw [gsi (by omega)]; exact h.2.1, by rw [gsi (by omega)]; exact h.2.2.1, by rw [gsi (by omega)]; exact h.2.2.2.1, fun t ht => by rw [gsn (by omega)]; exact h.2.2.2.2 t ht⟩
theorem c_reaches {r : Ru} {x : Lf} {p q F A : Nat} {m : Mem} (g : GX r x) (hp : p < rP r) (hq : q < rP r) (hn : p ≠ q) (h : SKM r x p q F m) (hA : A < 2 ^ rT r) : ∃ m2, X1_reachesBar (nI A) m = some (nI (if okA r x p q A then 1 else 0), m2) ∧ SKM r x p q F m2 ∧ Fr s96 m m2 ∧ gi m2 96 6 = nI A := by
  have hP := g.P; have hT := g.T
  have h1 := h.s6 (nI A)
  have c1 : gi (si m 96 6 (nI A)) 29 p = _ := h1.1.list hp
  have c2 : gi (si m 96 6 (nI A)) 29 q = _ := h1.1.list hq
  have gy : GX r (fbx x p A) := g.mk (g.2.xb) (Nat.le_refl _)
  obtain ⟨m2, e, hf⟩ := c_goodWith (by decide) g gy h1.1 hp hq (fbx_ly (x := x) (A := A) hp hq hn)
  rw [ls_fbx_p hA, ls_fbx_o (Ne.symm hn)] at e
  have h2 := h1.fr hf
  rw [X1_reachesBar, lq, h1.2.1, h1.2.2.1]
  simp (disch := omega) only [chk_in, ix_nI, c1, c2, nor, e, bq, h2.1.bar]
  have k : Fr s96 m m2 := (Fr.si (by unfold s96; omega)).tr (hf.mono (fun c q => by unfold s24 at q; unfold s96; omega))
  have k6 : gi m2 96 6 = nI A := by rw [(hf 96 (by unfold s24; omega) 6).1, gss]
  by_cases hl : gd r (fbx x p A) p q < nI (rbar r)
  · rw [if_pos hl, okA, decide_eq_false (fun z => z hl)]
    exact ⟨m2, rfl, h2, k, k6⟩
  · rw [if_neg hl, okA, decide_eq_true hl]
    exact ⟨m2, rfl, h2, k, k6⟩
def tm : Nat → Int32
  | 0 => NO
  | t + 1 => nI t
theorem tm_pred : ∀ t, tm (t + 1) - nI 1 = tm t
  | 0 => by decide
  | t + 1 => nsub (by omega)
theorem NO_neg : NO < nI 0 := by decide
theorem nI_nneg {t : Nat} (h : t < 2147483648) : ¬ nI t < nI 0 := fun q => by
  rw [lt_iff, tI (by omega), tI (by omega)] at q
  omega
theorem sub_ltT {r : Ru} {F A : Nat} (hF : F < 2 ^ rT r) (h : ∀ i, A.testBit i = true → F.testBit i = true) : A < 2 ^ rT r := by
  have e : A = A &&& F := Nat.eq_of_testBit_eq (fun i => by
    rw [Nat.testBit_and]
    cases x : A.testBit i
    · rfl
    · rw [h i x]; rfl)
  rw [e]
  exact Nat.lt_of_le_of_lt Nat.and_le_right hF
theorem c_skb {r : Ru} {x : Lf} {p q F tk ms : Nat} {m : Mem} (g : GX r x) (hp : p < rP r) (hq : q < rP r) (hn : p ≠ q) (h : SKM r x p q F m) (hA : tk < 2 ^ rT r) : ∃ m2, (if nI (pcn (nd ms tk)) = nI 0 then (bnd (X1_reachesBar (nI tk) m) fun r_10 m_11 => if r_10 = nI 0 then some (nI 0, m_11) else some (nI 1, m_11)) else some (nI 0, m)) = some (nI (if (skb (okA r x p q) tk ms).isSome then 1 else 0), m2) ∧ SKM r x p q F m2 ∧ Fr s96 m m2 ∧ ∀ A, skb (okA r x p q) tk ms = some A → gi m2 96 6 = nI A := by
  have hc := pcn_le (nd ms tk)
  by_cases hz : pcn (nd ms tk) = 0
  · rw [if_pos (by rw [hz])]
    obtain ⟨m2, e, a1, a2, a3⟩ := c_reaches g hp hq hn h hA
    rw [e, bq]
    by_cases ho : okA r x p q tk = true
    · have es : skb (okA r x p q) tk ms = some tk := if_pos ⟨hz, ho⟩
      rw [es, ho, if_neg (by decide)]
      exact ⟨m2, rfl, a1, a2, fun A hA => by injection hA with hA; rw [← hA]; exact a3⟩
    · have es : skb (okA r x p q) tk ms = none := if_neg (fun z => ho z.2)
      rw [es, if_neg ho, if_pos rfl]
      exact ⟨m2, rfl, a1, a2, fun A hA => by cases hA⟩
  · have es : skb (okA r x p q) tk ms = none := if_neg (fun z => hz z.1)
    rw [jeq_f hz (by omega) (by omega), es]
    exact ⟨m, rfl, h, Fr.rf, fun A hA => by cases hA⟩
theorem c_seek {r : Ru} {x : Lf} {p q F : Nat} (g : GX r x) (hp : p < rP r) (hq : q < rP r) (hn : p ≠ q) (hF : F < 2 ^ rT r) : ∀ t n tk ms d m, t ≤ 14 → t < d → n ≤ 14 → ms < 16384 → (∀ i, tk.testBit i = true → F.testBit i = true) → SKM r x p q F m → ∃ m2, g_X1_seek d (tm t) (nI n) (nI tk) (nI ms) m = some (nI (if (sk F (efl r x p q) (okA r x p q) t n tk ms).isSome then 1 else 0), m2) ∧ SKM r x p q F m2 ∧ Fr s96 m m2 ∧ ∀ A, sk F (efl r x p q) (okA r x p q) t n tk ms = some A → gi m2 96 6 = nI A := by
  have hP := g.P; have hT := g.T
  have h14 : (2 : Nat) ^ rT r ≤ 2 ^ 14 := Nat.pow_le_pow_right (by decide) hT
  have hF14 : F < 16384 := by omega
  intro t
  induction t with
  | zero =>
    intro n tk ms d m _ hd hn2 hms hsb h
    have htk := sub_ltT hF hsb
    have hc := pcn_le (nd ms tk)
    have hb : nd ms tk < 16384 := Nat.lt_of_le_of_lt (nd_le _ _) hms
    match d, hd with
    | d + 1, _ =>
      show ∃ m2, X1_seek (g_X1_seek d) NO (nI n) (nI tk) (nI ms) m = _ ∧ _
      rw [X1_seek, kn1, nandn, bitc hb, bq, sk, K0, K1]
      by_cases hz : n = 0
      · rw [if_pos (by rw [hz]), if_pos hz]
        exact c_skb g hp hq hn h htk
      · rw [jeq_f hz (by omega) (by omega), if_neg hz, if_pos NO_neg]
        exact ⟨m, rfl, h, Fr.rf, fun A hA => by cases hA⟩
  | succ t ih =>
    intro n tk ms d m ht hd hn2 hms hsb h
    have htk := sub_ltT hF hsb
    have hc := pcn_le (nd ms tk)
    have hb : nd ms tk < 16384 := Nat.lt_of_le_of_lt (nd_le _ _) hms
    match d, hd with
    | d + 1, hd =>
      show ∃ m2, X1_seek (g_X1_seek d) (nI t) (nI n) (nI tk) (nI ms) m = _ ∧ _
      have tp : nI t - nI 1 = tm t := tm_pred t
      rw [X1_seek, kn1, nandn, bitc hb, bq, sk, K0, K1]
      by_cases hz : n = 0
      · rw [if_pos (by rw [hz]), if_pos hz]
        exact c_skb g hp hq hn h htk
      · rw [jeq_f hz (by omega) (by omega), if_neg hz, if_neg (nI_nneg (by omega))]
        by_cases h1 : n < pcn (nd ms tk)
        · rw [jlt_t h1 (by omega), if_pos h1]
          exact ⟨m, rfl, h, Fr.rf, fun A hA => by cases hA⟩
        · have hw : F &&& (2 ^ (t + 1) - 1) < 16384 := Nat.lt_of_le_of_lt Nat.and_le_left hF14
          have hc2 := pcn_le (F &&& (2 ^ (t + 1) - 1))
          have hp2 : 1 ≤ 2 ^ (t + 1) := Nat.one_le_two_pow
          rw [jlt_f (by omega) (by omega), if_neg h1, h.2.2.2.1, K2, nshl2 (by omega), nsub hp2, nand, bitc hw, bq]
          by_cases h2 : n ≤ pcn (F &&& (2 ^ (t + 1) - 1))
          · rw [jle_t (by omega) (by omega), if_pos h2, lq, nshl (by omega), nand, tp]
            have second : ∀ m', SKM r x p q F m' → Fr s96 m m' → ∃ m2, X1_seek_b92 (g_X1_seek d) (nI t) (nI n) (nI tk) (nI ms) (nI (2 ^ t)) m' = some (nI (if (if F.testBit t then sk F (efl r x p q) (okA r x p q) t (n - 1) (tk ||| 2 ^ t) (ms ||| alk F (efl r x p q) t) else none).isSome then 1 else 0), m2) ∧ SKM r x p q F m2 ∧ Fr s96 m m2 ∧ ∀ A, (if F.testBit t then sk F (efl r x p q) (okA r x p q) t (n - 1) (tk ||| 2 ^ t) (ms ||| alk F (efl r x p q) t) else none) = some A → gi m2 96 6 = nI A := by
              intro m' h' f'
              rw [X1_seek_b92, h'.2.2.2.1, nand, K0, K1]
              cases hb1 : F.testBit t with
              | false =>
                rw [jbit_f hb1 (by omega), if_neg (show ¬ false = true by decide)]
                exact ⟨m', rfl, h', f', fun A hA => by cases hA⟩
              | true =>
                have b2 : alk F (efl r x p q) t < 2 ^ 14 := Nat.lt_of_lt_of_le (bs_lt _ _) (Nat.pow_le_pow_right (by decide) (by omega))
                obtain ⟨m2, e, a1, a2, a3⟩ := ih (n - 1) (tk ||| 2 ^ t) (ms ||| alk F (efl r x p q) t) d m' (by omega) (by omega) (by omega) (Nat.or_lt_two_pow (n := 14) hms b2) (fun i hi => by
                  rw [or_bit] at hi
                  by_cases e : t = i
                  · rw [← e]; exact hb1
                  · simp [e] at hi; exact hsb i hi) h'
                rw [jbit_t hb1 (by omega), if_pos rfl, chk_in (by omega) (by omega), ix_nI (by omega), h'.2.2.2.2 t (by omega), nor, nor, tp, nsub (by omega), e, bq]
                refine ⟨m2, ?_, a1, f'.tr a2, a3⟩
                cases (sk F (efl r x p q) (okA r x p q) t (n - 1) (tk ||| 2 ^ t) (ms ||| alk F (efl r x p q) t)).isSome
                · rw [if_pos (by decide)]; rfl
                · rw [if_neg (by decide)]; rfl
            cases hm : ms.testBit t with
            | true =>
              rw [jbit_t hm (by omega), if_pos rfl]
              exact second m h Fr.rf
            | false =>
              rw [jbit_f hm (by omega), if_neg (show ¬ false = true by decide)]
              obtain ⟨m2, e, a1, a2, a3⟩ := ih n tk ms d m (by omega) (by omega) hn2 hms hsb h
              rw [e, bq]
              cases hs : sk F (efl r x p q) (okA r x p q) t n tk ms with
              | none =>
                rw [if_pos (by decide)]
                exact second m2 a1 a2
              | some A =>
                rw [if_neg (show ¬ nI (if (some A).isSome = true then 1 else 0) = nI 0 from (by decide : ¬ nI 1 = nI 0))]
                exact ⟨m2, rfl, a1, a2, fun A' hA => by injection hA with hA; rw [← hA]; exact a3 A hs⟩
          · rw [jle_f (by omega) (by omega), if_neg h2]
            exact ⟨m, rfl, h, Fr.rf, fun A hA => by cases hA⟩
def fre (r : Ru) (x : Lf) (p : Nat) : Nat := nd (2 ^ rT r - 1) (ls r x p)
theorem fre_lt {r : Ru} {x : Lf} {p : Nat} : fre r x p < 2 ^ rT r := by
  have h : 1 ≤ 2 ^ rT r := Nat.one_le_two_pow
  have := nd_le (2 ^ rT r - 1) (ls r x p)
  show nd (2 ^ rT r - 1) (ls r x p) < 2 ^ rT r
  omega
theorem fre_bit {r : Ru} {x : Lf} {p i : Nat} (hT : rT r ≤ 14) : (fre r x p).testBit i = (decide (i < rT r) && !(ls r x p).testBit i) := by
  have h14 : (2 : Nat) ^ rT r ≤ 2 ^ 14 := Nat.pow_le_pow_right (by decide) hT
  rw [fre, nd_bit (by omega), Nat.testBit_two_pow_sub_one]
theorem fib_sw {r : Ru} {x : Lf} {p q : Nat} (g : GX r x) (hp : p < rP r) (hq : q < rP r) (hn : p ≠ q) : ∀ A i j, Oks (fre r x p) (okA r x p q) A → A.testBit i = true → A.testBit j = false → (fre r x p).testBit j = true → efl r x p q j = efl r x p q i → okA r x p q (swp A i j) = true := by
  intro A i j hA hi hj hF he
  have hT := g.T
  have a := hA.1 i hi
  rw [fre_bit hT] at a hF
  simp at a hF
  have hl := ef_alike g hp hq hn a.1 hF.1 a.2 hF.2 he.symm
  have := hA.2
  rw [okA] at this ⊢
  rw [gd_swap g hp hq hn (sub_ltT fre_lt hA.1) (Nat.eq_of_testBit_eq (fun k => by
    rw [Nat.testBit_and]
    cases hb : A.testBit k with
    | false => simp
    | true =>
      have := hA.1 k hb
      rw [fre_bit hT] at this
      simp at this
      simp [this.2])) hi hj hF.1 hF.2 hl.1 hl.2]
  exact this
theorem c_fewest_loop {r : Ru} {x : Lf} {p q : Nat} (g : GX r x) (hp : p < rP r) (hq : q < rP r) (hn : p ≠ q) : ∀ fu n m, pcn (fre r x p) + 1 - n < fu → n ≤ pcn (fre r x p) + 1 → SKM r x p q (fre r x p) m → (∀ B, Oks (fre r x p) (okA r x p q) B → n ≤ pcn B) → ∃ m2, Fr s96 m m2 ∧ ((X1_fewest_b93 fu (nI (pcn (fre r x p))) (nI n) m = some (NO, m2) ∧ ∀ B, ¬ Oks (fre r x p) (okA r x p q) B) ∨ ∃ A, Bst (fre r x p) (okA r x p q) A ∧ X1_fewest_b93 fu (nI (pcn (fre r x p))) (nI n) m = some (nI (pcn A), m2) ∧ gi m2 96 6 = nI A) := by
  have hT := g.T
  have h14 : (2 : Nat) ^ rT r ≤ 2 ^ 14 := Nat.pow_le_pow_right (by decide) hT
  have hFl := @fre_lt r x p
  have hc := pcn_le (fre r x p)
  intro fu
  induction fu with
  | zero => intro n m h; omega
  | succ fu ih =>
    intro n m hf hle h hB
    rw [X1_fewest_b93, kn1]
    by_cases hl : pcn (fre r x p) < n
    · rw [jlt_t hl (by omega)]
      exact ⟨m, Fr.rf, Or.inl ⟨rfl, fun B b => by
        have := hB B b
        have := pcn_mono b.1
        omega⟩⟩
    · rw [jlt_f (by omega) (by omega)]
      obtain ⟨m2, e, a1, a2, a3⟩ := c_seek g hp hq hn hFl 14 n 0 0 64 m (by omega) (by omega) (by omega) (by omega) (fun i hi => by simp at hi) h
      have st := sk_top (F := fre r x p) (ef := efl r x p q) (ok := okA r x p q) (by omega) (fib_sw g hp hq hn) n
      rw [show X1_seek_top 13 (nI n) 0 0 m = g_X1_seek 64 (tm 14) (nI n) (nI 0) (nI 0) m from rfl, e, bq]
      cases hs : sk (fre r x p) (efl r x p q) (okA r x p q) 14 n 0 0 with
      | none =>
        rw [K0, if_pos (by decide), K1, nadd]
        have hno := st.2 hs
        obtain ⟨m3, f3, r3⟩ := ih (n + 1) m2 (by omega) (by omega) a1 (fun B b => by
          have := hB B b
          have := hno B b
          omega)
        exact ⟨m3, a2.tr f3, r3⟩
      | some A =>
        rw [K0, if_neg (show ¬ nI (if (some A).isSome = true then 1 else 0) = nI 0 from (by decide : ¬ nI 1 = nI 0))]
        obtain ⟨b1, b2, b3⟩ := st.1 A hs
        refine ⟨m2, a2, Or.inr ⟨A, ⟨b1, fun B b => ?_⟩, by rw [b2], a3 A hs⟩⟩
        have := hB B b
        by_cases e : pcn B = n
        · exact Or.inr ⟨by omega, b3 B b e⟩
        · exact Or.inl (by omega)
