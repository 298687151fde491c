/-! lasting -/
/-- open as the class closes -/
def Ol (s : Sg) (n p q : Nat) : Bool := my (sR s) (sX s) p q && decide (n ≤ lf (ga (sR s) (sX s) (if p < q then p else q) (if p < q then q else p)) n 0)
theorem Ol_m {s : Sg} {n p q : Nat} (hn : n ≤ 40) (h : p < q) : Om s 0 n p q = Ol s n p q := by
  rw [Om, Ol, if_pos h, if_pos h]
  have e : (decide (n = 0) || decide (n ≤ lf (ga (sR s) (sX s) p q) 40 0)) = decide (n ≤ lf (ga (sR s) (sX s) p q) n 0) := by
    have h1 := lf_ge (ga (sR s) (sX s) p q) 40 0 n (by omega) (by omega)
    have h2 := lf_ge (ga (sR s) (sX s) p q) n 0 n (by omega) (by omega)
    by_cases h0 : n = 0
    · subst h0
      simp
    · rw [decide_eq_false h0, Bool.false_or]
      exact decide_eq_decide.mpr (h1.trans h2.symm)
  rw [e]
  simp
theorem c_close {P : Nat} {O : Nat → Nat → Bool} {G : Nat → Nat → Int32} {m : Mem} (hP : P ≤ 8) {p q : Nat} (hp : p < P) (hq : q < P) (hn : p ≠ q) (hT : CT P O G m) : ∃ m2, X6_close (nI p) (nI q) m = some ((), m2) ∧ CT P (fun i j => O i j && !((decide (i = p) && decide (j = q)) || (decide (i = q) && decide (j = p)))) G m2 ∧ Fr (fun c => c = 91) m m2 := by
  have n0 : vp_nar .boolean (nI 0) = nI 0 := by decide
  rw [X6_close, K8, K0, n0]
  simp (disch := omega) only [nmul, nadd, chk_in, ix_nI, lq]
  refine ⟨_, rfl, ⟨by rw [gsn (by omega), gsn (by omega)]; exact hT.1, fun i j hi hj hij => ⟨?_, by rw [gsn (by omega), gsn (by omega)]; exact (hT.2 i j hi hj hij).2⟩⟩, Fr.tr (Fr.si rfl) (Fr.si rfl)⟩
  by_cases c1 : i = p ∧ j = q
  · rw [c1.1, c1.2, gsi (by omega), gss]
    simp [b1]
  · by_cases c2 : i = q ∧ j = p
    · rw [c2.1, c2.2, gss]
      simp [b1]
    · rw [gsi (by omega), gsi (by omega), (hT.2 i j hi hj hij).1]
      have h1 : (decide (i = p) && decide (j = q)) = false := by
        cases hd : (decide (i = p) && decide (j = q)) with
        | false => rfl
        | true => simp at hd; exact absurd hd c1
      have h2 : (decide (i = q) && decide (j = p)) = false := by
        cases hd : (decide (i = q) && decide (j = p)) with
        | false => rfl
        | true => simp at hd; exact absurd hd c2
      show nI (b1 (O i j)) = nI (b1 (O i j && !((decide (i = p) && decide (j = q)) || (decide (i = q) && decide (j = p)))))
      rw [h1, h2]
      simp
theorem CT.og {P : Nat} {O O2 : Nat → Nat → Bool} {G : Nat → Nat → Int32} {m : Mem} (h : CT P O G m) (hO : ∀ p q, p < P → q < P → p ≠ q → O p q = O2 p q) : CT P O2 G m := ⟨h.1, fun p q hp hq hn => ⟨by rw [← hO p q hp hq hn]; exact (h.2 p q hp hq hn).1, (h.2 p q hp hq hn).2⟩⟩
/-- open, as far as it has been closed -/
def Od (s : Sg) (n p q i j : Nat) : Bool := my (sR s) (sX s) i j && (!(decide (i < p ∨ j < p ∨ (i = p ∧ j < q) ∨ (j = p ∧ i < q))) || decide (n ≤ lf (ga (sR s) (sX s) (if i < j then i else j) (if i < j then j else i)) n 0))
def s91 (c : Nat) : Prop := c = 23 ∨ c = 24 ∨ (32 ≤ c ∧ c ≤ 38) ∨ c = 91
theorem fx91 {m m2 : Mem} (h : Fr s91 m m2) : FX m m2 := h.fx (fun c q => by unfold s91 at q; unfold scx; omega)
theorem c_last_in {s : Sg} {e : Nat} {ib : Nat → Nat} {N k n p : Nat} {what : Int32} {k37 : Int32 → Int32 → Int32 → Mem → Option (Int32 × Mem)} (hk : k ≤ 512) (hw : WS s k) (hn : n ≤ 40) (hp : p < rP (sR s)) : ∀ fu q m, p < q → q ≤ rP (sR s) → rP (sR s) - q < fu → CI s e ib N m → CT (rP (sR s)) (Od s n p q) (gd (sR s) (sX s)) m → ∃ m2, X11_lasting_b53 k37 fu (nI n) what (nI p) (nI q) m = k37 (nI n) what (nI (p + 1)) m2 ∧ CI s e ib N m2 ∧ CT (rP (sR s)) (Od s n (p + 1) (p + 2)) (gd (sR s) (sX s)) m2 ∧ Fr s91 m m2 := by
  have g := hw.gx
  have hP := g.P
  intro fu
  induction fu with
  | zero => intro q m _ _ h; omega
  | succ fu ih =>
    intro q m hpq hq hf hc hT
    have hPx : gi m 2 1 = nI (rP (sR s)) := hc.2.1.P
    rw [X11_lasting_b53, hPx, K1, K0]
    rcases Nat.eq_or_lt_of_le hq with he | hl
    · subst he
      rw [jle_t (by omega) (by omega), nadd]
      refine ⟨m, rfl, hc, hT.og (fun i j hi hj hij => ?_), Fr.rf⟩
      rw [Od, Od]
      congr 3
      apply decide_eq_decide.mpr
      omega
    · rw [jle_f hl (by omega), c_isOpen hP hT hp hl (by omega), bq, nadd]
      have hOd : Od s n p q p q = my (sR s) (sX s) p q := by
        rw [Od, decide_eq_false (by omega)]
        simp
      have step : ∀ i j, i < rP (sR s) → j < rP (sR s) → i ≠ j → ¬ (i = p ∧ j = q) → ¬ (i = q ∧ j = p) → Od s n p q i j = Od s n p (q + 1) i j := fun i j hi hj hij c1 c2 => by
        rw [Od, Od]
        congr 3
        apply decide_eq_decide.mpr
        omega
      rw [hOd]
      cases hmy : my (sR s) (sX s) p q with
      | false =>
        obtain ⟨m2, i1, i2, i3, i4⟩ := ih (q + 1) m (by omega) (by omega) (by omega) hc (hT.og (fun i j hi hj hij => by
          by_cases c1 : i = p ∧ j = q
          · rw [Od, Od, c1.1, c1.2, hmy]; rfl
          · by_cases c2 : i = q ∧ j = p
            · rw [Od, Od, c2.1, c2.2, my_sym, hmy]; rfl
            · exact step i j hi hj hij c1 c2))
        rw [if_pos (show nI (b1 false) = nI 0 by decide)]
        exact ⟨m2, i1, i2, i3, i4⟩
      | true =>
        obtain ⟨m1, a1, a2⟩ := c_endurance hk hw hc hn hp hl (show p ≠ q by omega)
        have hc1 := hc.fx (fxE a2)
        have hT1 : CT (rP (sR s)) (Od s n p q) (gd (sR s) (sX s)) m1 := hT.fr (a2 90 (by unfold sE; omega) _).1 (fun j => (a2 91 (by unfold sE; omega) j).1) (fun j => (a2 92 (by unfold sE; omega) j).1)
        have f1 : Fr s91 m m1 := a2.mono (fun c q => by unfold sE at q; unfold s91; omega)
        have hlf := (lf_le (ga (sR s) (sX s) p q) n 0).2
        rw [if_neg (show ¬ nI (b1 true) = nI 0 by decide), a1, bq]
        by_cases hh : n ≤ lf (ga (sR s) (sX s) p q) n 0
        · obtain ⟨m2, i1, i2, i3, i4⟩ := ih (q + 1) m1 (by omega) (by omega) (by omega) hc1 (hT1.og (fun i j hi hj hij => by
            by_cases c1 : i = p ∧ j = q
            · rw [Od, Od, c1.1, c1.2, if_pos hpq, if_pos hpq, decide_eq_true hh]; simp
            · by_cases c2 : i = q ∧ j = p
              · rw [Od, Od, c2.1, c2.2, if_neg (by omega), if_neg (by omega), decide_eq_true hh]; simp
              · exact step i j hi hj hij c1 c2))
          rw [jle_t hh (by omega)]
          exact ⟨m2, i1, i2, i3, f1.tr i4⟩
        · obtain ⟨m2, d1, d2, d3⟩ := c_close hP hp hl (show p ≠ q by omega) hT1
          have hc2 : CI s e ib N m2 := hc1.fx (d3.fx (fun c q => by unfold scx; omega))
          obtain ⟨m3, i1, i2, i3, i4⟩ := ih (q + 1) m2 (by omega) (by omega) (by omega) hc2 (d2.og (fun i j hi hj hij => by
            by_cases c1 : i = p ∧ j = q
            · rw [c1.1, c1.2, Od, Od, if_pos hpq, if_pos hpq, decide_eq_false hh]; simp
            · by_cases c2 : i = q ∧ j = p
              · rw [c2.1, c2.2, Od, Od, if_neg (by omega), if_neg (by omega), decide_eq_false hh]; simp
              · have h1 : (decide (i = p) && decide (j = q)) = false := by
                  cases hd : (decide (i = p) && decide (j = q)) with
                  | false => rfl
                  | true => simp at hd; exact absurd hd c1
                have h2 : (decide (i = q) && decide (j = p)) = false := by
                  cases hd : (decide (i = q) && decide (j = p)) with
                  | false => rfl
                  | true => simp at hd; exact absurd hd c2
                rw [h1, h2, step i j hi hj hij c1 c2]
                simp))
          rw [jle_f (by omega) (by omega), d1, bq]
          exact ⟨m3, i1, i2, i3, (f1.tr (d3.mono (fun c q => by unfold s91; omega))).tr i4⟩
theorem c_last_out {s : Sg} {e : Nat} {ib : Nat → Nat} {N k n : Nat} {what : Int32} (hk : k ≤ 512) (hw : WS s k) (hn : n ≤ 40) : ∀ fu p m, p ≤ rP (sR s) → rP (sR s) - p < fu → CI s e ib N m → CT (rP (sR s)) (Od s n p (p + 1)) (gd (sR s) (sX s)) m → ∃ m2, X11_lasting_b37 fu (nI n) what (nI p) m = (bnd (X6_solve m2) fun _ m_6 => bnd (X8_everybody 2 m_6) fun r_7 m_8 => bnd (X6_follow r_7 m_8) fun _ m_10 => bnd (X6_answer what m_10) fun r_11 m_12 => some (r_11, m_12)) ∧ CI s e ib N m2 ∧ CT (rP (sR s)) (Ol s n) (gd (sR s) (sX s)) m2 ∧ Fr s91 m m2 := by
  have g := hw.gx
  have hP := g.P
  intro fu
  induction fu with
  | zero => intro p m _ h; omega
  | succ fu ih =>
    intro p m hp hf hc hT
    have hPx : gi m 2 1 = nI (rP (sR s)) := hc.2.1.P
    rw [X11_lasting_b37, hPx, K1]
    rcases Nat.eq_or_lt_of_le hp with he | hl
    · subst he
      rw [jle_t (by omega) (by omega)]
      refine ⟨m, rfl, hc, hT.og (fun i j hi hj hij => ?_), Fr.rf⟩
      rw [Od, Ol, decide_eq_true (by omega)]
      simp
    · obtain ⟨m1, a1, a2, a3, a4⟩ := c_last_in (what := what) (k37 := X11_lasting_b37 fu) hk hw hn hl FU (p + 1) m (by omega) (by omega) (by unfold FU; omega) hc hT
      obtain ⟨m2, i1, i2, i3, i4⟩ := ih (p + 1) m1 (by omega) (by omega) a2 a3
      rw [jle_f hl (by omega), nadd, lq, a1, i1]
      exact ⟨m2, rfl, i2, i3, a4.tr i4⟩
theorem St_lasting_ok : St_lasting Rel := by
  intro k N mx mm hk ⟨s, e, ib, hw, hc, hm⟩ a b
  have g := hw.gx
  have hP := g.P
  have h := hc.2.1
  have hm0 := hm.th
  have hi := hm0.2.1
  have fin : Rel (k + 1) N mx (si mm 0 0 (nI 0)) := Rel.rd hk hw hc hm FX.rf FM.th
  rw [X11_lasting, X12_lasting, K0, lq, K40]
  by_cases hb : mq (rP (sR s)) b
  · rw [c_mq_t g h hb, bq, m_mq_t g hi hb, bq, jeq_f (by omega) (by omega) (by omega), jeq_f (by omega) (by omega) (by omega)]
    by_cases ha : rg 0 40 a
    · obtain ⟨n, _, n2, rfl⟩ := ha
      obtain ⟨mx1, a1, a2, a3⟩ := c_survey g h
      have hc1 := hc.fx (fx90 a3)
      obtain ⟨mx2, l1, l2, l3, l4⟩ := c_last_out (what := b) (show k ≤ 512 by omega) hw n2 FU 0 mx1 (by omega) (by unfold FU; omega) hc1 (a2.og (fun i j hi hj hij => by
        rw [Od, decide_eq_false (by omega)]
        simp))
      obtain ⟨mx3, a4, a5, a6, a7⟩ := c_solve hP (gd_gb g) l3
      have hP1 : gi mx3 2 1 = nI (rP (sR s)) := by rw [(a7 2 (by unfold s934; omega) 1).1]; exact l2.2.1.P
      obtain ⟨mx4, a8, a9, a10⟩ := c_follow hP two_pow_evy a6 a5
      obtain ⟨mm1, b1', b2, b3⟩ := m_laysPairs (away := 0) (years := n) (by omega) hw (by omega) n2 hm0
      obtain ⟨mm2, d1, d2, d3, d4⟩ := m_begins (just := 0) false hP (by omega) (gd_gb g) b3 b2.2.1.P
      have d1 : X12_begins (nI 0) (nI 0) mm1 = some ((), mm2) := d1
      have br := fold_best (O := Om s 0 n) (just := 0) (st := bgn mm1) hP (gd_gb g) rfl
      rw [bst_cong (O2 := Ol s n) (fun p q h1 _ => Ol_m n2 h1)] at br
      obtain ⟨v, v1, v2⟩ := both_found (l := bst (rP (sR s)) (Ol s n) (gd (sR s) (sX s)) (rP (sR s)) 0 (evy (rP (sR s)))) hP (f95CT a6 a10) bst_mem a9 d2 br hb
      rw [jlt_f (by omega) (by omega), jle_t n2 (by omega), wk_t l64_40 n2 (by omega), bq, jeq_f (by omega) (by omega) (by omega), a1, bq, l1, a4, bq, c_every g hP1, bq, a8, bq, v1, bq, b1', bq, d1, bq, v2, bq]
      exact ⟨_, _, _, rfl, rfl, s, e, ib, hw.mono (by omega) (by omega), l2.fx ((fx934 a7).tr (fx95 a10)), b2.fm d4⟩
    · rw [out ha (by omega) (by omega), out_w (l := 0) l64_0 l64_40 ha (by omega) (by omega), bq, jeq_t rfl]
      exact ⟨_, _, _, rfl, rfl, fin⟩
  · rw [c_mq_f g h hb, bq, m_mq_f g hi hb, bq, jeq_t rfl, jeq_t rfl]
    exact ⟨_, _, _, rfl, rfl, fin⟩
