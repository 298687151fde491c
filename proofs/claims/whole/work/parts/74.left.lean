/-! left for -/
theorem bst_away {P away : Nat} {O O2 : Nat → Nat → Bool} {G : Nat → Nat → Int32} (haw : away < 256) (hO : ∀ p q, p < q → q < P → O2 p q = (!away.testBit p && !away.testBit q && O p q)) : ∀ n p F S, n + p = P → F < 256 → S < 256 → (∀ i, p ≤ i → i < P → S.testBit i = (F.testBit i && !away.testBit i)) → bst P O2 G n p F = bst P O G n p S := by
  intro n
  induction n with
  | zero => intro p F S _ _ _ _; rfl
  | succ n ih =>
    intro p F S hp hF hS h
    have hp1 := h p (Nat.le_refl _) (by omega)
    have hF1 : nd F (2 ^ p) < 256 := Nat.lt_of_le_of_lt (nd_le _ _) hF
    have hS1 : nd S (2 ^ p) < 256 := Nat.lt_of_le_of_lt (nd_le _ _) hS
    cases hf : F.testBit p with
    | false =>
      rw [hf] at hp1
      rw [bst_0 hf, bst_0 hp1]
      exact ih (p + 1) F S (by omega) hF hS (fun i h1 h2 => h i (by omega) h2)
    | true =>
      cases ha : away.testBit p with
      | true =>
        rw [hf, ha] at hp1
        have e1 := bst_1 (P := P) (O := O2) (G := G) (n := n) hf
        have eq : ∀ c q acc, p < q → c + q ≤ P → bq' G (bF P O2 G n p F) c q acc = acc := by
          intro c
          induction c with
          | zero => intro q acc _ _; rfl
          | succ c ihc =>
            intro q acc h1 h2
            have : bF P O2 G n p F q = none := by
              rw [bF, hO p q h1 (by omega), ha]
              simp
            rw [bq', this, cmb_n]
            exact ihc (q + 1) acc (by omega) (by omega)
        rw [eq _ _ _ (by omega) (by omega)] at e1
        have e1 : bst P O2 G n (p + 1) (nd F (2 ^ p)) = bst P O2 G (n + 1) p F := Option.some.inj e1
        rw [← e1, bst_0 hp1]
        refine ih (p + 1) _ S (by omega) hF1 hS (fun i h1 h2 => ?_)
        rw [h i (by omega) h2, nd2_bit hF]
        have c2 : p ≠ i := by omega
        simp [c2]
      | false =>
        rw [hf, ha] at hp1
        have hp1 : S.testBit p = true := hp1
        have e1 := bst_1 (P := P) (O := O2) (G := G) (n := n) hf
        have e2 := bst_1 (P := P) (O := O) (G := G) (n := n) hp1
        have al : bst P O2 G n (p + 1) (nd F (2 ^ p)) = bst P O G n (p + 1) (nd S (2 ^ p)) := ih (p + 1) _ _ (by omega) hF1 hS1 (fun i h1 h2 => by
          rw [nd2_bit hF, nd2_bit hS, h i (by omega) h2]
          have c2 : p ≠ i := by omega
          simp [c2])
        have eF : ∀ q, p < q → q < P → bF P O2 G n p F q = bF P O G n p S q := fun q h1 h2 => by
          rw [bF, bF, hO p q h1 h2, ha, h q (by omega) h2]
          cases hfq : F.testBit q with
          | false => rfl
          | true =>
            cases haq : away.testBit q with
            | true => simp
            | false =>
              cases hoq : O p q with
              | false => rfl
              | true =>
                simp only [Bool.not_false, Bool.and_self, if_true]
                rw [ih (p + 1) (nd (nd F (2 ^ p)) (2 ^ q)) (nd (nd S (2 ^ p)) (2 ^ q)) (by omega) (Nat.lt_of_le_of_lt (nd_le _ _) hF1) (Nat.lt_of_le_of_lt (nd_le _ _) hS1) (fun i h1 h2 => by
                  rw [nd2_bit hF1, nd2_bit hF, nd2_bit hS1, nd2_bit hS, h i (by omega) h2]
                  have c2 : p ≠ i := by omega
                  cases F.testBit i <;> cases away.testBit i <;> simp [c2])]
        have eq : ∀ c q acc, p < q → c + q ≤ P → bq' G (bF P O2 G n p F) c q acc = bq' G (bF P O G n p S) c q acc := by
          intro c
          induction c with
          | zero => intro q acc _ _; rfl
          | succ c ihc =>
            intro q acc h1 h2
            rw [bq', bq', eF q h1 (by omega)]
            exact ihc (q + 1) _ (by omega) (by omega)
        rw [eq _ _ _ (by omega) (by omega), al, e2] at e1
        exact (Option.some.inj e1).symm
theorem two_bits {S p q : Nat} (hS : S < 256) (hp : p < 8) (hq : q < 8) : (S &&& (2 ^ p ||| 2 ^ q) = 0) ↔ (S.testBit p = false ∧ S.testBit q = false) := by
  constructor
  · intro h
    have h1 : (S &&& (2 ^ p ||| 2 ^ q)).testBit p = false := by rw [h]; simp
    have h2 : (S &&& (2 ^ p ||| 2 ^ q)).testBit q = false := by rw [h]; simp
    rw [Nat.testBit_and, Nat.testBit_or, Nat.testBit_two_pow, Nat.testBit_two_pow] at h1 h2
    simp at h1 h2
    exact ⟨h1, h2⟩
  · intro ⟨h1, h2⟩
    apply Nat.eq_of_testBit_eq
    intro i
    rw [Nat.testBit_and, Nat.testBit_or, Nat.testBit_two_pow, Nat.testBit_two_pow, Nat.zero_testBit]
    by_cases c1 : p = i
    · subst c1; simp [h1]
    · by_cases c2 : q = i
      · subst c2; simp [h2]
      · simp [c1, c2]
theorem and_lt256 {a b : Nat} (h : a < 256) : a &&& b < 256 := Nat.lt_of_le_of_lt Nat.and_le_left h
/-- what has been found: its, by both -/
def LR (its : Option Nat) (y6 y7 y4 : Int32) : Prop := match its with
  | none => y6 = NO ∧ y4 = NO
  | some T => T < 256 ∧ y6 = nI (pcn T) ∧ y7 = nI T ∧ y4 = nI T
theorem left_loop {s : Sg} {e : Nat} {ib : Nat → Nat} {N k p q o : Nat} (hk : k ≤ 512) (hw : WS s k) (hp : p < rP (sR s)) (hq : q < rP (sR s)) (hn : p ≠ q) (ho : o < 2) : ∀ fu S its y6 y7 y4 mx mm, S ≤ 2 ^ rP (sR s) → 2 ^ rP (sR s) - S < fu → LR its y6 y7 y4 → CI s e ib N mx → CT (rP (sR s)) (my (sR s) (sX s)) (gd (sR s) (sX s)) mx → DT (rP (sR s)) (my (sR s) (sX s)) (gd (sR s) (sX s)) (2 ^ rP (sR s)) mx → MI s mm → ∃ v mx2 mm2, X11_leftFor_b67 fu (nI p) (nI q) (nI o) (nI (2 ^ p ||| 2 ^ q)) (nI (evy (rP (sR s)))) y6 y7 (nI S) mx = some (v, mx2) ∧ X12_leftFor_b35 fu (nI p) (nI q) (nI o) y4 (nI S) mm = some (v, mm2) ∧ CI s e ib N mx2 ∧ MI s mm2 := by
  have g := hw.gx
  have hP := g.P
  have h8 : 2 ^ rP (sR s) ≤ 2 ^ 8 := Nat.pow_le_pow_right (by decide) hP
  have he := evy_lt hP
  have hge : 0 < 2 ^ rP (sR s) := Nat.two_pow_pos _
  have hev : evy (rP (sR s)) = 2 ^ rP (sR s) - 1 := rfl
  intro fu
  induction fu with
  | zero => intro S its y6 y7 y4 mx mm _ h; omega
  | succ fu ih =>
    intro S its y6 y7 y4 mx mm hS hf hlr hc hT hD hm
    rw [X11_leftFor_b67, X12_leftFor_b35, K2, chk_in (by omega) (by omega), ix_nI (by omega), hm.2.1.P, kn1, K1, K0, nshl (by omega)]
    rcases Nat.eq_or_lt_of_le hS with hE | hl
    · rw [jlt_t (by omega) (by omega), jle_t (by omega) (by omega)]
      cases its with
      | none =>
        obtain ⟨h1, h2⟩ := hlr
        rw [h1, h2, jm_t, jm_t]
        exact ⟨_, _, _, rfl, rfl, hc, hm⟩
      | some T =>
        obtain ⟨h0, h1, h2, h3⟩ := hlr
        have hpc := pcn_le T
        rw [h1, h2, h3, jm_f (by omega), jm_f (by omega)]
        by_cases ho0 : o = 0
        · rw [jeq_t ho0, jeq_f (by omega) (by omega) (by omega), m_bitsOf (by omega), bq]
          exact ⟨_, _, _, rfl, rfl, hc, hm⟩
        · rw [jeq_f ho0 (by omega) (by omega), jeq_t (by omega)]
          exact ⟨_, _, _, rfl, rfl, hc, hm⟩
    · rw [jlt_f (by omega) (by omega), jle_f (by omega) (by omega)]
      have hS8 : S < 256 := by omega
      have hpS := pcn_le S
      -- nothing is done for this set
      have skip : ∃ v mx2 mm2, X11_leftFor_b67 fu (nI p) (nI q) (nI o) (nI (2 ^ p ||| 2 ^ q)) (nI (evy (rP (sR s)))) y6 y7 (nI (S + 1)) mx = some (v, mx2) ∧ X12_leftFor_b35 fu (nI p) (nI q) (nI o) y4 (nI (S + 1)) mm = some (v, mm2) ∧ CI s e ib N mx2 ∧ MI s mm2 := ih (S + 1) its y6 y7 y4 mx mm (by omega) (by omega) hlr hc hT hD hm
      -- it is looked at
      have look : S.testBit p = false → S.testBit q = false → ∃ v mx2 mm2, X11_leftFor_b95 (X11_leftFor_b67 fu) (nI p) (nI q) (nI o) (nI (2 ^ p ||| 2 ^ q)) (nI (evy (rP (sR s)))) y6 y7 (nI S) (nI 1) mx = some (v, mx2) ∧ X12_leftFor_b90 (X12_leftFor_b35 fu) (nI p) (nI q) (nI o) y4 (nI S) mm = some (v, mm2) ∧ CI s e ib N mx2 ∧ MI s mm2 := fun hb1 hb2 => by
        have hz : S &&& (2 ^ p ||| 2 ^ q) = 0 := (two_bits hS8 (by omega) (by omega)).mpr ⟨hb1, hb2⟩
        have hL : nd (evy (rP (sR s))) S < 2 ^ rP (sR s) := Nat.lt_of_le_of_lt (nd_le _ _) two_pow_evy
        obtain ⟨mx1, a1, a2, a3⟩ := c_follow hP hL hT hD
        obtain ⟨mm1, b1', b2, b3⟩ := m_laysPairs (away := S) (years := 0) hk hw hS8 (by omega) hm
        obtain ⟨mm2, d1, d2, d3, d4⟩ := m_begins (just := 0) false hP (by omega) (gd_gb g) b3 b2.2.1.P
        have d1 : X12_begins (nI 0) (nI 0) mm1 = some ((), mm2) := d1
        have br := fold_best (O := Om s S 0) (just := 0) (st := bgn mm1) hP (gd_gb g) rfl
        have eaw : bst (rP (sR s)) (Om s S 0) (gd (sR s) (sX s)) (rP (sR s)) 0 (evy (rP (sR s))) = bst (rP (sR s)) (my (sR s) (sX s)) (gd (sR s) (sX s)) (rP (sR s)) 0 (nd (evy (rP (sR s))) S) := bst_away hS8 (fun a b _ _ => by simp [Om]) _ 0 _ _ (by omega) he (Nat.lt_of_le_of_lt (nd_le _ _) he) (fun i _ _ => nd_bit (by omega))
        rw [eaw] at br
        have hc1 := hc.fx (fx95 a3)
        have hT1 := f95CT hT a3
        have hD1 : DT (rP (sR s)) (my (sR s) (sX s)) (gd (sR s) (sX s)) (2 ^ rP (sR s)) mx1 := fun S hS => by
          obtain ⟨x1, x2⟩ := hD S hS
          exact ⟨by rw [(a3 93 (by omega) _).1]; exact x1, fun p' y1 y2 => by rw [(a3 94 (by omega) _).1]; exact x2 p' y1 y2⟩
        have hm2 := b2.fm d4
        have e95 := a2 p (by omega)
        have e11 : gi mm2 11 p = oN (apw (fun _ => none) (bst (rP (sR s)) (my (sR s) (sX s)) (gd (sR s) (sX s)) (rP (sR s)) 0 (nd (evy (rP (sR s))) S)) p) := by rw [d2.2.2.2 p (by omega), br.2.2]
        rw [X11_leftFor_b95, X12_leftFor_b90, K0, jeq_f (by omega) (by omega) (by omega), nand, hz, jeq_t rfl, kn1, nandn, X6_joins, a1, bq, chk_in (by omega) (by omega), ix_nI (by omega), e95, b1', bq, d1, bq, chk_in (by omega) (by omega), e11, K1, K0, nadd]
        by_cases hj : oN (apw (fun _ => none) (bst (rP (sR s)) (my (sR s) (sX s)) (gd (sR s) (sX s)) (rP (sR s)) 0 (nd (evy (rP (sR s))) S)) p) = nI q
        · rw [if_pos hj, if_pos hj, bq, jeq_f (by omega) (by omega) (by omega), bitc (by omega), bq]
          exact ih (S + 1) (some S) _ _ _ mx1 mm2 (by omega) (by omega) ⟨hS8, rfl, rfl, rfl⟩ hc1 hT1 hD1 hm2
        · rw [if_neg hj, if_neg hj, bq, jeq_t rfl]
          exact ih (S + 1) its y6 y7 y4 mx1 mm2 (by omega) (by omega) hlr hc1 hT1 hD1 hm2
      -- the class passes over it
      have pass : (S.testBit p = true ∨ S.testBit q = true) → ∀ z, X11_leftFor_b95 (X11_leftFor_b67 fu) (nI p) (nI q) (nI o) (nI (2 ^ p ||| 2 ^ q)) (nI (evy (rP (sR s)))) y6 y7 (nI S) z mx = X11_leftFor_b67 fu (nI p) (nI q) (nI o) (nI (2 ^ p ||| 2 ^ q)) (nI (evy (rP (sR s)))) y6 y7 (nI (S + 1)) mx := fun hb z => by
        have hz : ¬ S &&& (2 ^ p ||| 2 ^ q) = 0 := fun h => by
          have := (two_bits hS8 (by omega) (by omega)).mp h
          rcases hb with hb | hb
          · rw [this.1] at hb; cases hb
          · rw [this.2] at hb; cases hb
        have hlt : S &&& (2 ^ p ||| 2 ^ q) < 256 := and_lt256 hS8
        rw [X11_leftFor_b95, K0, K1, nadd, nand, jeq_f hz (by omega) (by omega)]
        split <;> rfl
      have pass0 : X11_leftFor_b95 (X11_leftFor_b67 fu) (nI p) (nI q) (nI o) (nI (2 ^ p ||| 2 ^ q)) (nI (evy (rP (sR s)))) y6 y7 (nI S) (nI 0) mx = X11_leftFor_b67 fu (nI p) (nI q) (nI o) (nI (2 ^ p ||| 2 ^ q)) (nI (evy (rP (sR s)))) y6 y7 (nI (S + 1)) mx := by
        rw [X11_leftFor_b95, K0, K1, nadd, jeq_t rfl]
      rw [isIn_e (by omega) (by omega), bq, nadd]
      have hcls : ∀ w : Option (Int32 × Mem), (∀ z : Nat, X11_leftFor_b95 (X11_leftFor_b67 fu) (nI p) (nI q) (nI o) (nI (2 ^ p ||| 2 ^ q)) (nI (evy (rP (sR s)))) y6 y7 (nI S) (nI z) mx = w) → (if y6 = NO then X11_leftFor_b95 (X11_leftFor_b67 fu) (nI p) (nI q) (nI o) (nI (2 ^ p ||| 2 ^ q)) (nI (evy (rP (sR s)))) y6 y7 (nI S) (nI 1) mx else bnd (J6_bitCount_0f7a4 (nI S) mx) fun r_16 m_17 => if y6 ≤ r_16 then X11_leftFor_b95 (X11_leftFor_b67 fu) (nI p) (nI q) (nI o) (nI (2 ^ p ||| 2 ^ q)) (nI (evy (rP (sR s)))) y6 y7 (nI S) (nI 0) m_17 else X11_leftFor_b95 (X11_leftFor_b67 fu) (nI p) (nI q) (nI o) (nI (2 ^ p ||| 2 ^ q)) (nI (evy (rP (sR s)))) y6 y7 (nI S) (nI 1) m_17) = w := fun w h => by
        split
        · exact h 1
        · rw [bitc (by omega), bq]
          split
          · exact h 0
          · exact h 1
      cases hb1 : S.testBit p with
      | true =>
        rw [if_neg (show ¬ nI (if true = true then 1 else 0) = nI 0 by decide), hcls _ (fun z => pass (Or.inl hb1) (nI z))]
        exact skip
      | false =>
        rw [if_pos (show nI (if false = true then 1 else 0) = nI 0 by decide), isIn_e (by omega) (by omega), bq]
        cases hb2 : S.testBit q with
        | true =>
          rw [if_neg (show ¬ nI (if true = true then 1 else 0) = nI 0 by decide), hcls _ (fun z => pass (Or.inr hb2) (nI z))]
          exact skip
        | false =>
          rw [if_pos (show nI (if false = true then 1 else 0) = nI 0 by decide)]
          cases its with
          | none =>
            obtain ⟨h1, h2⟩ := hlr
            have lk := look hb1 hb2
            rw [h1, h2] at lk
            rw [h1, h2, jm_t, jm_t]
            exact lk
          | some T =>
            obtain ⟨h0, h1, h2, h3⟩ := hlr
            have hpc := pcn_le T
            have lk := look hb1 hb2
            rw [h1, h2, h3] at lk skip
            rw [h1, h2] at pass0
            rw [h1, h2, h3, jm_f (by omega), jm_f (by omega), bitc (by omega), bq, m_bitsOf (by omega), bq, m_bitsOf (by omega), bq]
            by_cases hlt : pcn S < pcn T
            · rw [jle_f hlt (by omega), jlt_t hlt (by omega)]
              exact lk
            · rw [jle_t (by omega) (by omega), jlt_f (by omega) (by omega), pass0]
              exact skip
theorem St_leftFor_ok : St_leftFor Rel := by
  intro k N mx mm hk ⟨s, e, ib, hw, hc, hm⟩ a b c
  have g := hw.gx
  have hP := g.P
  have h := hc.2.1
  have hm0 := hm.th
  have hi := hm0.2.1
  have fin : Rel (k + 1) N mx (si mm 0 0 (nI 0)) := Rel.rd hk hw hc hm FX.rf FM.th
  rw [X11_leftFor, X12_leftFor, kn1, K0, lq]
  by_cases ha : tw (rP (sR s)) a b
  · obtain ⟨p, q, hp, hq, hn, rfl, rfl⟩ := ha
    rw [c_areTwo_t g h hp hq hn, bq, m_areTwo_t g hi hp hq hn, bq, jeq_f (by omega) (by omega) (by omega), jeq_f (by omega) (by omega) (by omega)]
    by_cases hz : prs 2 c
    · obtain ⟨o, ho, rfl⟩ := hz
      obtain ⟨mx1, a1, a2, a3⟩ := c_survey g h
      obtain ⟨mx2, a4, a5, a6, a7⟩ := c_solve hP (gd_gb g) a2
      have hc2 := hc.fx ((fx90 a3).tr (fx934 a7))
      have hP1 : gi mx2 2 1 = nI (rP (sR s)) := hc2.2.1.P
      obtain ⟨v, mx3, mm3, i1, i2, i3, i4⟩ := left_loop (o := o) (show k ≤ 512 by omega) hw hp hq hn ho FU 0 none NO (nI 0) NO mx2 (si mm 0 0 (nI 0)) (Nat.zero_le _) (by
        have h8 : 2 ^ rP (sR s) ≤ 2 ^ 8 := Nat.pow_le_pow_right (by decide) hP
        unfold FU
        omega) ⟨rfl, rfl⟩ hc2 a6 a5 hm0
      rw [c_isEither_t ho, bq, wk_t l64_1 (by omega) (by omega), bq, jeq_f (by omega) (by omega) (by omega), jeq_f (by omega) (by omega) (by omega), a1, bq, a4, bq, K1, nshl (by omega), nshl (by omega), nor, lq, c_every g hP1, bq, i1, i2]
      exact ⟨_, _, _, rfl, rfl, s, e, ib, hw.mono (by omega) (by omega), i3, i4⟩
    · rw [c_isEither_f hz, bq, wk_f l64_1 hz (by omega), bq, jeq_t rfl, jeq_t rfl]
      exact ⟨_, _, _, rfl, rfl, fin⟩
  · rw [c_areTwo_f g h ha, bq, m_areTwo_f g hi ha, bq, jeq_t rfl, jeq_t rfl]
    exact ⟨_, _, _, rfl, rfl, fin⟩
