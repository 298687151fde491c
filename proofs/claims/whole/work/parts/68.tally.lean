/-! the search begins -/
def bgn (m : Mem) : Bs := (NO, gi m 0 26, nI 0, fun i => gi m 11 i)
theorem m_beg_loop {m : Mem} {just : Nat} {stb : Bool} : ∀ n k, k ≤ 8 → 8 - k < n → X12_begins_b2 n (nI (b1 stb)) (nI just) (nI k) (wig m 10 0 k (fun _ => NO)) = (bnd (g_X12_goesMatch 64 (nI 0) (nI 0) (nI 0) (nI just) (si (si (si (wig m 10 0 8 (fun _ => NO)) 0 28 (nI (b1 stb))) 0 25 NO) 0 27 (nI 0))) fun _ m_6 => some ((), m_6)) := by
  have hb : decide (nI (b1 stb) = 0 ∨ nI (b1 stb) = 1) = true := by cases stb <;> decide
  intro n
  induction n with
  | zero => intro k _ h; omega
  | succ n ih =>
    intro k hk hn
    rw [X12_begins_b2, K8]
    rcases Nat.eq_or_lt_of_le hk with he | hl
    · subst he
      rw [jle_t (by omega) (by omega), chk_tt hb, lq, lq, lq, kn1, K0, X12_goesMatch_top]
    · have ih2 := ih (k + 1) (by omega) (by omega)
      rw [jle_f hl (by omega), chk_in (by omega) (by omega), ix_nI (by omega), lq, kn1, K1, nadd, wig_s m 10 0 k (fun _ => NO) _ (by omega)]
      exact ih2
def evy (P : Nat) : Nat := 2 ^ P - 1
theorem evy_bit {P i : Nat} : (evy P).testBit i = decide (i < P) := by rw [evy, Nat.testBit_two_pow_sub_one]
theorem evy_lt {P : Nat} (h : P ≤ 8) : evy P < 256 := by
  have : 2 ^ P ≤ 2 ^ 8 := Nat.pow_le_pow_right (by decide) h
  have h2 : 0 < 2 ^ P := Nat.two_pow_pos P
  unfold evy
  omega
theorem m_begins {P just : Nat} {O : Nat → Nat → Bool} {G : Nat → Nat → Int32} {m : Mem} (stb : Bool) (hP : P ≤ 8) (hj : just ≤ 8) (hG : GB P G) (hT : MT P O G m) (hPm : gi m 1 2 = nI P) : ∃ m2, X12_begins (nI (b1 stb)) (nI just) m = some ((), m2) ∧ RS m2 ((rl P O P 0 (evy P)).foldl (fst' P O G stb just (fun _ => none) 0 (nI 0)) (bgn m)) ∧ RG P O G stb (fun _ => none) m2 ∧ FM m m2 := by
  have l1 := m_beg_loop (m := m) (just := just) (stb := stb) FU 0 (by omega) (by unfold FU; omega)
  rw [wig_z] at l1
  have kk : ∀ c, c ≠ 0 → c ≠ 10 → ∀ j, gi (si (si (si (wig m 10 0 8 (fun _ => NO)) 0 28 (nI (b1 stb))) 0 25 NO) 0 27 (nI 0)) c j = gi m c j := fun c h0 h1 j => by rw [gsn h0, gsn h0, gsn h0, gi_wig, if_neg (fun q => h1 q.1)]
  have h : RG P O G stb (fun _ => none) (si (si (si (wig m 10 0 8 (fun _ => NO)) 0 28 (nI (b1 stb))) 0 25 NO) 0 27 (nI 0)) := by
    refine ⟨fun p q hp hq hn => ⟨(kk 9 (by omega) (by omega) _).trans (hT p q hp hq hn).1, (kk 12 (by omega) (by omega) _).trans (hT p q hp hq hn).2⟩, (kk 1 (by omega) (by omega) _).trans hPm, fun i hi => ?_, ?_⟩
    · rw [gsn (by omega), gsn (by omega), gsn (by omega), gi_wig, if_pos (by omega)]; rfl
    · rw [gsi (by omega), gsi (by omega), gss]
  have hs : RS (si (si (si (wig m 10 0 8 (fun _ => NO)) 0 28 (nI (b1 stb))) 0 25 NO) 0 27 (nI 0)) (bgn m) := by
    refine ⟨?_, ?_, gss, fun i hi => kk 11 (by omega) (by omega) i⟩
    · rw [gsi (by omega), gss]; rfl
    · rw [gsi (by omega), gsi (by omega), gsi (by omega), gi_wig, if_neg (by omega)]; rfl
  obtain ⟨m2, e1, e2, e3, e4⟩ := m_go hP hj hG P 64 0 0 (nI 0) (fun _ => none) (evy P) (bgn m) _ (by omega) (by omega) (by omega) (evy_lt hP) ⟨fun i u _ hu => (by cases hu), fun i _ => rfl⟩ (fun i _ hi => by rw [evy_bit]; simp [hi]) h hs
  refine ⟨m2, ?_, e2, e3, (((Fr.fm (S := fun c => c = 10) (wig_f rfl) (fun c q => by unfold scm; omega)).tr (fmz (j := 28) (v := nI (b1 stb)) (by omega))).tr (fmz (j := 25) (v := NO) (by omega))).tr ((fmz (j := 27) (v := nI 0) (by omega)).tr e4)⟩
  rw [X12_begins, K0, l1, e1, bq]
/-! how many -/
def cnt (j : Nat) (L : List (List (Nat × Nat))) : Nat := L.countP (fun l => l.length == j)
theorem cnt_app (j : Nat) (A B : List (List (Nat × Nat))) : cnt j (A ++ B) = cnt j A + cnt j B := List.countP_append
theorem cnt_map (j : Nat) (x : Nat × Nat) : ∀ L : List (List (Nat × Nat)), cnt (j + 1) (L.map (fun l => x :: l)) = cnt j L
  | [] => rfl
  | l :: L => by
    have ih := cnt_map j x L
    rw [cnt] at ih ⊢
    rw [cnt] at ih ⊢
    rw [List.map_cons, List.countP_cons, List.countP_cons, ih]
    simp
theorem cnt_map0 (x : Nat × Nat) : ∀ L : List (List (Nat × Nat)), cnt 0 (L.map (fun l => x :: l)) = 0
  | [] => rfl
  | l :: L => by
    have ih := cnt_map0 x L
    rw [cnt] at ih ⊢
    rw [List.map_cons, List.countP_cons, ih]
    simp
theorem cnt_fold {P : Nat} {O : Nat → Nat → Bool} {G : Nat → Nat → Int32} {stb : Bool} {just : Nat} {w : Nat → Option Nat} {g : Int32} : ∀ (L : List (List (Nat × Nat))) (st : Bs), (L.foldl (fst' P O G stb just w 0 g) st).2.2.1 = st.2.2.1 + nI (cnt just L)
  | [], st => by show st.2.2.1 = st.2.2.1 + nI 0; rw [add_n0]
  | l :: L, st => by
    have h1 : (fst' P O G stb just w 0 g st l).2.2.1 = st.2.2.1 + nI (if l.length = just then 1 else 0) := by
      rw [fst', lst, Nat.zero_add]
      split <;> rfl
    rw [List.foldl_cons, cnt_fold L, h1, Int32.add_assoc, nadd]
    congr 2
    rw [cnt, cnt, List.countP_cons]
    by_cases hl : l.length = just
    · simp [hl, Nat.add_comm]
    · simp [hl]
theorem cnt_rq0 (F : Nat → List (List (Nat × Nat))) (h : ∀ q, cnt 0 (F q) = 0) : ∀ c q, cnt 0 (rq F c q) = 0
  | 0, q => rfl
  | c + 1, q => by rw [rq, cnt_app, h, cnt_rq0 F h c]
theorem cnt_0 {P : Nat} {O : Nat → Nat → Bool} : ∀ n p S, cnt 0 (rl P O n p S) = 1
  | 0, p, S => rfl
  | n + 1, p, S => by
    rw [rl]
    split
    · rw [cnt_app, cnt_0 n, cnt_rq0 _ (fun q => by
        split
        · exact cnt_map0 _ _
        · rfl)]
    · exact cnt_0 n _ _
theorem lowbit {S p t : Nat} (h1 : S.testBit t = true) (h2 : ∀ u, u < t → S.testBit u = false) (hp : S.testBit p = true) (hl : ∀ i, S.testBit i = true → p ≤ i) : t = p := by
  have := hl t h1
  apply Classical.byContradiction
  intro hne
  have := h2 p (by omega)
  rw [hp] at this
  cases this
theorem nd2_bit {S p i : Nat} (hS : S < 256) : (nd S (2 ^ p)).testBit i = (S.testBit i && !decide (p = i)) := by rw [nd_bit (by omega), Nat.testBit_two_pow]
theorem c_tally {P : Nat} {O : Nat → Nat → Bool} {G : Nat → Nat → Int32} {m : Mem} (hP : P ≤ 8) (hT : CT P O G m) : ∀ n d p S j, n + p = P → n < d → S < 256 → j ≤ 8 → (∀ i, S.testBit i = true → p ≤ i ∧ i < P) → g_X6_tally d (nI S) (nI j) m = some (nI (cnt j (rl P O n p S)), m) := by
  intro n
  induction n with
  | zero =>
    intro d p S j hp hd hS hj hSb
    obtain ⟨d, rfl⟩ : ∃ d2, d = d2 + 1 := ⟨d - 1, by omega⟩
    have h0 : S = 0 := by
      apply Nat.eq_of_testBit_eq
      intro i
      rw [Nat.zero_testBit]
      cases hb : S.testBit i with
      | false => rfl
      | true => have := hSb i hb; omega
    show X6_tally (g_X6_tally d) (nI S) (nI j) m = _
    rw [X6_tally, K0, h0]
    by_cases hj0 : j = 0
    · subst hj0
      rw [jeq_t rfl, cnt_0]; rfl
    · rw [jeq_f hj0 (by omega) (by omega), jeq_t rfl]
      have : cnt j (rl P O 0 p 0) = 0 := by
        obtain ⟨j, rfl⟩ : ∃ j2, j = j2 + 1 := ⟨j - 1, by omega⟩
        rfl
      rw [this]
  | succ n ih =>
    intro d p S j hp hd hS hj hSb
    rw [rl]
    cases hb : S.testBit p with
    | false =>
      rw [if_neg (by decide)]
      exact ih d (p + 1) S j (by omega) (by omega) hS hj (fun i hi => by
        have := hSb i hi
        refine ⟨?_, this.2⟩
        rcases Nat.eq_or_lt_of_le this.1 with he | hl
        · subst he; rw [hb] at hi; cases hi
        · omega)
    | true =>
      rw [if_pos rfl]
      by_cases hj0 : j = 0
      · subst hj0
        obtain ⟨d, rfl⟩ : ∃ d2, d = d2 + 1 := ⟨d - 1, by omega⟩
        show X6_tally (g_X6_tally d) (nI S) (nI 0) m = _
        have := cnt_0 (P := P) (O := O) (n + 1) p S
        rw [rl, hb, if_pos rfl] at this
        rw [this, X6_tally, K0, jeq_t rfl]; rfl
      · obtain ⟨d, rfl⟩ : ∃ d2, d = d2 + 1 := ⟨d - 1, by omega⟩
        show X6_tally (g_X6_tally d) (nI S) (nI j) m = _
        have hS0 : S ≠ 0 := fun e => by rw [e] at hb; simp at hb
        obtain ⟨t, t1, t2, t3, t4⟩ := ntz hS0 (by omega)
        have tp := lowbit t2 t3 hb (fun i hi => (hSb i hi).1)
        subst tp
        have hpP := (hSb t hb).2
        have hS1 : nd S (2 ^ t) < 256 := Nat.lt_of_le_of_lt (nd_le _ _) hS
        have i1 := ih d (t + 1) (nd S (2 ^ t)) j (by omega) (by omega) hS1 hj (fun i hi => by
          rw [nd2_bit hS] at hi
          simp at hi
          have := hSb i hi.1
          omega)
        have lp : ∀ c q fu acc, c + q = P → t < q → c < fu → X6_tally_b40 (g_X6_tally d) fu (nI j) (nI t) (nI (nd S (2 ^ t))) (nI acc) (nI q) m = some (nI (acc + cnt j (rq (fun q => if S.testBit q && O t q then (rl P O n (t + 1) (nd (nd S (2 ^ t)) (2 ^ q))).map (fun l => (t, q) :: l) else []) c q)), m) := by
          intro c
          induction c with
          | zero =>
            intro q fu acc hq htq hf
            obtain ⟨fu, rfl⟩ : ∃ f2, fu = f2 + 1 := ⟨fu - 1, by omega⟩
            have hq : q = P := by omega
            subst hq
            rw [X6_tally_b40, hT.1, jle_t (by omega) (by omega)]
            rfl
          | succ c ihc =>
            intro q fu acc hq htq hf
            obtain ⟨fu, rfl⟩ : ∃ f2, fu = f2 + 1 := ⟨fu - 1, by omega⟩
            have hqP : q < P := by omega
            have bq1 : (nd S (2 ^ t)).testBit q = S.testBit q := by
              rw [nd2_bit hS]
              have : t ≠ q := by omega
              simp [this]
            rw [X6_tally_b40, hT.1, jle_f (by omega) (by omega), kn1, K1, K0, rq, cnt_app]
            simp (disch := omega) only [nshl, nand, nandn, nadd, c_isOpen hP hT hpP hqP (show t ≠ q by omega), bq, nsub]
            cases hbq : S.testBit q with
            | false =>
              rw [hbq] at bq1
              rw [jbit_f bq1 (by omega), ihc (q + 1) fu acc (by omega) (by omega) (by omega)]
              simp [cnt]
            | true =>
              rw [hbq] at bq1
              rw [jbit_t bq1 (by omega)]
              cases hO : O t q with
              | false =>
                rw [if_pos (show nI (b1 false) = nI 0 by decide), ihc (q + 1) fu acc (by omega) (by omega) (by omega)]
                simp [cnt]
              | true =>
                have hS2 : nd (nd S (2 ^ t)) (2 ^ q) < 256 := Nat.lt_of_le_of_lt (nd_le _ _) hS1
                have i2 := ih d (t + 1) (nd (nd S (2 ^ t)) (2 ^ q)) (j - 1) (by omega) (by omega) hS2 (by omega) (fun i hi => by
                  rw [nd2_bit hS1, nd2_bit hS] at hi
                  simp at hi
                  have := hSb i hi.1.1
                  omega)
                rw [if_neg (show ¬ nI (b1 true) = nI 0 by decide), i2, bq, nadd, lq, ihc (q + 1) fu _ (by omega) (by omega) (by omega)]
                have hc := cnt_map (j - 1) (t, q) (rl P O n (t + 1) (nd (nd S (2 ^ t)) (2 ^ q)))
                rw [show j - 1 + 1 = j by omega] at hc
                rw [show (true && true) = true from rfl, if_pos rfl, hc, Nat.add_assoc]
        rw [X6_tally, K0, jeq_f hj0 (by omega) (by omega), jeq_f hS0 (by omega) (by omega), t4, bq, kn1, K1, nshl (by omega), nandn, lq, i1, bq, nadd, lq, lp (P - (t + 1)) (t + 1) FU _ (by omega) (by omega) (by unfold FU; omega), cnt_app, Nat.add_comm]
theorem rq_cong {α : Type} {F F2 : Nat → List α} : ∀ c q, (∀ i, q ≤ i → i < q + c → F i = F2 i) → rq F c q = rq F2 c q
  | 0, q, _ => rfl
  | c + 1, q, h => by
    rw [rq, rq, h q (by omega) (by omega), rq_cong c (q + 1) (fun i h1 h2 => h i (by omega) (by omega))]
theorem rl_cong {P : Nat} {O O2 : Nat → Nat → Bool} (h : ∀ p q, p < q → q < P → O p q = O2 p q) : ∀ n p S, n + p = P → rl P O n p S = rl P O2 n p S
  | 0, p, S, _ => rfl
  | n + 1, p, S, hp => by
    rw [rl, rl, rl_cong h n (p + 1) _ (by omega), rl_cong h n (p + 1) S (by omega)]
    split
    · congr 1
      refine rq_cong _ _ (fun q h1 h2 => ?_)
      rw [h p q (by omega) (by omega), rl_cong h n (p + 1) _ (by omega)]
    · rfl
theorem Om0 {s : Sg} {p q : Nat} : Om s 0 0 p q = my (sR s) (sX s) p q := by simp [Om]
theorem c_every {r : Ru} {x : Lf} {m : Mem} (g : GX r x) (h : gi m 2 1 = nI (rP r)) : X8_everybody 2 m = some (nI (evy (rP r)), m) := by
  have hP := g.P
  have hp : 1 ≤ 2 ^ rP r := Nat.two_pow_pos _
  rw [X8_everybody, h, K1, nshl (by omega), nsub hp]
  rfl
theorem l64_4 : (4 : Int64) = Int32.toInt64 (nI 4) := by decide
theorem St_matchings_ok : St_matchings Rel := by
  intro k N mx mm hk ⟨s, e, ib, hw, hc, hm⟩ a
  have g := hw.gx
  have hP := g.P
  have h := hc.2.1
  have hm0 := hm.th
  have fin : Rel (k + 1) N mx (si mm 0 0 (nI 0)) := Rel.rd hk hw hc hm FX.rf FM.th
  rw [X11_matchings, X12_matchings, K0, lq, K4]
  by_cases ha : rg 0 4 a
  · obtain ⟨j, _, j2, rfl⟩ := ha
    obtain ⟨mx1, a1, a2, a3⟩ := c_survey g h
    obtain ⟨mm1, b1', b2, b3⟩ := m_laysPairs (away := 0) (years := 0) (by omega) hw (by omega) (by omega) hm0
    obtain ⟨mm2, d1, d2, d3, d4⟩ := m_begins (just := j) false hP (by omega) (gd_gb g) b3 b2.2.1.P
    have hP1 : gi mx1 2 1 = nI (rP (sR s)) := by rw [(a3 2 (by unfold s90; omega) 1).1]; exact h.P
    have t1 := c_tally hP a2 (rP (sR s)) 64 0 (evy (rP (sR s))) j (by omega) (by omega) (evy_lt hP) (by omega) (fun i hi => by rw [evy_bit] at hi; exact ⟨by omega, of_decide_eq_true hi⟩)
    have d1 : X12_begins (nI 0) (nI j) mm1 = some ((), mm2) := d1
    have ct := d2.2.2.1
    rw [cnt_fold, rl_cong (O2 := my (sR s) (sX s)) (fun p q _ _ => Om0) _ _ _ (by omega)] at ct
    have z : (bgn mm1).2.2.1 = nI 0 := rfl
    rw [z, nadd, Nat.zero_add] at ct
    rw [jlt_f (by omega) (by omega), jle_t j2 (by omega), wk_t l64_4 j2 (by omega), bq, jeq_f (by omega) (by omega) (by omega), a1, bq, c_every g hP1, bq, X6_tally_top, t1, bq, b1', bq, d1, bq, ct]
    exact ⟨_, _, _, rfl, rfl, s, e, ib, hw.mono (by omega) (by omega), hc.fx (fx90 a3), b2.fm d4⟩
  · rw [out ha (by omega) (by omega), out_w (l := 0) l64_0 l64_4 ha (by omega) (by omega), bq, jeq_t rfl]
    exact ⟨_, _, _, rfl, rfl, fin⟩
