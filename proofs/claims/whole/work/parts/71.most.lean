/-! what is answered of a matching -/
theorem apw_o {P lo i : Nat} : ∀ (l : PL) (w : Nat → Option Nat), okL P lo l → i < lo → apw w l i = w i
  | [], w, _, _ => rfl
  | (a, b) :: l, w, h, hi => by
    have hx := h (a, b) List.mem_cons_self
    have h1 : lo ≤ a := hx.1
    have h2 : a < b := hx.2.1
    show apw (swd w a b) l i = w i
    rw [apw_o l (swd w a b) (fun x hx => h x (List.mem_cons_of_mem _ hx)) hi, swd_c, if_neg (by omega), if_neg (by omega)]
theorem c_goodNow_v {P : Nat} {O : Nat → Nat → Bool} {G : Nat → Nat → Int32} {m : Mem} (hP : P ≤ 8) (hT : CT P O G m) {p q : Nat} (hp : p < P) (hq : q < P) (hn : p ≠ q) (hw : gi m 95 p = nI q) : X6_goodNow (nI p) m = some (G p q, m) := by
  rw [X6_goodNow, chk_in (by omega) (by omega), ix_nI (by omega), hw, lq, hT.1, K8, if_neg (by rw [L0, nI_ltI (by omega) (by omega)]; omega), jlt_t hq (by omega)]
  simp (disch := omega) only [nmul, nadd, chk_in, ix_nI]
  rw [(hT.2 p q hp hq hn).2]
theorem c_ans_loop {P : Nat} {O : Nat → Nat → Bool} {G : Nat → Nat → Int32} {m : Mem} {what : Int32} (hP : P ≤ 8) (hT : CT P O G m) : ∀ n p S l w0 fu k g, n + p = P → n < fu → S < 256 → l ∈ rl P O n p S → (∀ i, p ≤ i → i < P → S.testBit i = (w0 i).isNone) → (∀ i u, w0 i = some u → p ≤ i → u < p) → (∀ i, i < 8 → gi m 95 i = oN (apw w0 l i)) → X6_answer_b7 fu what (nI k) g (nI p) m = X6_answer_b7 1 what (nI (k + l.length)) (g + sgd G l) (nI P) m := by
  intro n
  induction n with
  | zero =>
    intro p S l w0 fu k g hp hf hS8 hl hS hu hw
    obtain ⟨fu, rfl⟩ : ∃ f2, fu = f2 + 1 := ⟨fu - 1, by omega⟩
    have hl : l ∈ [[]] := hl
    rw [List.mem_singleton] at hl
    subst hl
    have hp : p = P := by omega
    subst hp
    rw [X6_answer_b7, X6_answer_b7, hT.1, jle_t (by omega) (by omega), jle_t (by omega) (by omega), sgd, add_n0]
    rfl
  | succ n ih =>
    intro p S l w0 fu k g hp hf hS8 hl hS hu hw
    obtain ⟨fu, rfl⟩ : ∃ f2, fu = f2 + 1 := ⟨fu - 1, by omega⟩
    have hpP : p < P := by omega
    rw [X6_answer_b7, hT.1, jle_f (by omega) (by omega), chk_in (by omega) (by omega), ix_nI (by omega), K1, nadd, nadd]
    rw [rl] at hl
    cases hb : S.testBit p with
    | false =>
      rw [hb, if_neg (by decide)] at hl
      have ok := (rl_ok n (p + 1) _ (by omega) l hl).1
      have e := hS p (Nat.le_refl _) hpP
      rw [hb] at e
      cases hw0 : w0 p with
      | none => rw [hw0] at e; cases e
      | some u =>
        have hup := hu p u hw0 (Nat.le_refl _)
        rw [hw p (by omega), apw_o l w0 ok (by omega), hw0, oN_some, jle_t (by omega) (by omega)]
        exact ih (p + 1) S l w0 fu k g (by omega) (by omega) hS8 hl (fun i h1 h2 => hS i (by omega) h2) (fun i u h1 h2 => by have := hu i u h1 (by omega); omega) hw
    | true =>
      have e := hS p (Nat.le_refl _) hpP
      rw [hb] at e
      have hw0 : w0 p = none := by
        cases hq : w0 p with
        | none => rfl
        | some u => rw [hq] at e; cases e
      rw [hb, if_pos rfl] at hl
      rcases List.mem_append.mp hl with hl | hl
      · obtain ⟨q, q1, q2, q3⟩ := mem_rq _ _ hl
        split at q3
        · obtain ⟨l', hl', rfl⟩ := List.mem_map.mp q3
          have ok := (rl_ok n (p + 1) _ (by omega) l' hl').1
          have hwp : gi m 95 p = nI q := by
            rw [hw p (by omega)]
            show oN (apw (swd w0 p q) l' p) = nI q
            rw [apw_o l' _ ok (by omega), swd_c, if_neg (by omega), if_pos rfl]
            rfl
          have hS1 : nd S (2 ^ p) < 256 := Nat.lt_of_le_of_lt (nd_le _ _) hS8
          rw [hwp, jle_f (by omega) (by omega), c_goodNow_v hP hT hpP (show q < P by omega) (by omega) hwp, bq, lq]
          rw [ih (p + 1) (nd (nd S (2 ^ p)) (2 ^ q)) l' (swd w0 p q) fu (k + 1) (g + G p q) (by omega) (by omega) (Nat.lt_of_le_of_lt (nd_le _ _) hS1) hl' (fun i h1 h2 => by
            rw [nd2_bit hS1, nd2_bit hS8, hS i (by omega) h2, swd_c]
            by_cases c1 : i = q
            · subst c1; simp
            · have c2 : i ≠ p := by omega
              simp [c1, c2, Ne.symm c1, Ne.symm c2]) (fun i u h1 h2 => by
            rw [swd_c] at h1
            split at h1
            · injection h1 with h1; omega
            · split at h1
              · omega
              · have := hu i u h1 (by omega); omega) hw]
          rw [List.length_cons, sgd, Int32.add_assoc, show k + 1 + l'.length = k + (l'.length + 1) by omega]
        · cases q3
      · have ok := (rl_ok n (p + 1) _ (by omega) l hl).1
        rw [hw p (by omega), apw_o l w0 ok (by omega), hw0, oN_none, jml_t (by omega)]
        exact ih (p + 1) (nd S (2 ^ p)) l w0 fu k g (by omega) (by omega) (Nat.lt_of_le_of_lt (nd_le _ _) hS8) hl (fun i h1 h2 => by
          rw [nd2_bit hS8, hS i (by omega) h2]
          have c2 : p ≠ i := by omega
          simp [c2]) (fun i u h1 h2 => by have := hu i u h1 (by omega); omega) hw
/-- what may be asked of a matching -/
def mq (P : Nat) (a : Int32) : Prop := a = nI 0 ∨ a = nI 1 ∨ ∃ p, p < P ∧ a = nI (10 + p)
theorem both_found {P : Nat} {O : Nat → Nat → Bool} {G : Nat → Nat → Int32} {mx mm : Mem} {st : Bs} {l : PL} {a : Int32} (hP : P ≤ 8) (hT : CT P O G mx) (hl : l ∈ rl P O P 0 (evy P)) (hw : ∀ i, i < 8 → gi mx 95 i = oN (apw (fun _ => none) l i)) (hs : RS mm st) (hb : BR G (some l) st) (ha : mq P a) : ∃ v, X6_answer a mx = some (v, mx) ∧ X12_found a mm = some (v, mm) := by
  have e := c_ans_loop (what := a) hP hT P 0 (evy P) l (fun _ => none) FU 0 (nI 0) (by omega) (by unfold FU; omega) (evy_lt hP) hl (fun i _ hi => by rw [evy_bit]; simp [hi]) (fun i u h _ => by cases h) hw
  have z : nI 0 + sgd G l = sgd G l := by rw [← K0]; simp
  rw [Nat.zero_add, z] at e
  have hlen := (rl_ok P 0 _ (by omega) l hl).2
  obtain ⟨s1, s2, s3, s4⟩ := hs
  obtain ⟨b1', b2, b3⟩ := hb
  rw [X6_answer, X12_found, K0, e, X6_answer_b7, hT.1, jle_t (by omega) (by omega), K10, K0]
  rcases ha with rfl | rfl | ⟨p, hp, rfl⟩
  · rw [jeq_t rfl, jeq_t rfl, s1, b1']
    exact ⟨_, rfl, rfl⟩
  · rw [jeq_f (by omega) (by omega) (by omega), jeq_f (by omega) (by omega) (by omega), lq, if_pos (show nI 1 - nI 10 < nI 0 by decide), K1, jeq_t rfl, s2, b2]
    exact ⟨_, rfl, rfl⟩
  · rw [jeq_f (by omega) (by omega) (by omega), jeq_f (by omega) (by omega) (by omega), lq, K1, jeq_f (by omega) (by omega) (by omega), nsub (by omega), Nat.add_sub_cancel_left, jlt_f (by omega) (by omega), jle_f hp (by omega), chk_in (by omega) (by omega), chk_in (by omega) (by omega), ix_nI (by omega), hw p (by omega), s4 p (by omega), b3]
    exact ⟨_, rfl, rfl⟩
theorem c_mq_t {r : Ru} {x : Lf} {m : Mem} {a : Int32} (g : GX r x) (h : IC r x m 25) (ha : mq (rP r) a) : X11_isMatchingQuestion a m = some (nI 1, m) := by
  have hP := g.P
  rw [X11_isMatchingQuestion, K0, K10]
  rcases ha with rfl | rfl | ⟨p, hp, rfl⟩
  · rw [c_isEither_t (by omega), bq, jeq_f (by omega) (by omega) (by omega)]; rfl
  · rw [c_isEither_t (by omega), bq, jeq_f (by omega) (by omega) (by omega)]; rfl
  · rw [c_isEither_f (nprs (by omega) (by omega) (by omega)), bq, jeq_t rfl, jlt_f (by omega) (by omega), nsub (by omega), Nat.add_sub_cancel_left, c_isPerson_t g h hp, bq, jeq_f (by omega) (by omega) (by omega)]; rfl
theorem c_mq_f {r : Ru} {x : Lf} {m : Mem} {a : Int32} (g : GX r x) (h : IC r x m 25) (ha : ¬ mq (rP r) a) : X11_isMatchingQuestion a m = some (nI 0, m) := by
  have hP := g.P
  have h1 : ¬ prs 2 a := fun ⟨n, hn, e⟩ => by
    have : n = 0 ∨ n = 1 := by omega
    rcases this with rfl | rfl
    · exact ha (Or.inl e)
    · exact ha (Or.inr (Or.inl e))
  rw [X11_isMatchingQuestion, K0, K10, c_isEither_f h1, bq, jeq_t rfl]
  by_cases h2 : a < nI 10
  · rw [if_pos h2]
  · have hs : ∀ x y : Int32, y + (x - y) = x := fun x y => by
      rw [Int32.sub_eq_add_neg, Int32.add_comm x, ← Int32.add_assoc, Int32.add_right_neg]
      simp
    have hz : ¬ prs (rP r) (a - nI 10) := fun ⟨n, hn, e⟩ => ha (Or.inr (Or.inr ⟨n, hn, by rw [← nadd, ← e, hs]⟩))
    rw [if_neg h2, c_isPerson_f g h hz, bq, jeq_t rfl]
theorem l64_10 : (10 : Int64) = Int32.toInt64 (nI 10) := by decide
theorem m_mq_t {r : Ru} {x : Lf} {m : Mem} {a : Int32} (g : GX r x) (h : IM r x m) (ha : mq (rP r) a) : X12_asksPerson a m = some (nI 1, m) := by
  have hP := g.P
  rw [X12_asksPerson, K0, K9, K2]
  rcases ha with rfl | rfl | ⟨p, hp, rfl⟩
  · rw [wk_t l64_1 (by omega) (by omega), bq, jeq_f (by omega) (by omega) (by omega)]; rfl
  · rw [wk_t l64_1 (by omega) (by omega), bq, jeq_f (by omega) (by omega) (by omega)]; rfl
  · rw [wk_f l64_1 (nprs (by omega) (by omega) (by omega)) (by omega), bq, jeq_t rfl, chk_in (by omega) (by omega), ix_nI (by omega), h.P, nadd, wl_t l64_10 rfl (by omega) (by omega) (by omega), bq, jeq_f (by omega) (by omega) (by omega)]; rfl
theorem m_mq_f {r : Ru} {x : Lf} {m : Mem} {a : Int32} (g : GX r x) (h : IM r x m) (ha : ¬ mq (rP r) a) : X12_asksPerson a m = some (nI 0, m) := by
  have hP := g.P
  have h1 : ¬ prs 2 a := fun ⟨n, hn, e⟩ => by
    have : n = 0 ∨ n = 1 := by omega
    rcases this with rfl | rfl
    · exact ha (Or.inl e)
    · exact ha (Or.inr (Or.inl e))
  rw [X12_asksPerson, K0, K9, K2, wk_f l64_1 h1 (by omega), bq, jeq_t rfl, chk_in (by omega) (by omega), ix_nI (by omega), h.P, nadd, out_w l64_10 rfl (fun ⟨n, q1, q2, e⟩ => ha (Or.inr (Or.inr ⟨n - 10, by omega, by rw [e, show 10 + (n - 10) = n by omega]⟩))) (by omega) (by omega), bq, jeq_t rfl]
/-- the best, by both -/
theorem bst_mem {P : Nat} {O : Nat → Nat → Bool} {G : Nat → Nat → Int32} {n p S : Nat} : bst P O G n p S ∈ rl P O n p S := fmx_mem _ (fmx_rl n p S)
theorem bst_cong {P : Nat} {O O2 : Nat → Nat → Bool} {G : Nat → Nat → Int32} (h : ∀ p q, p < q → q < P → O p q = O2 p q) {S : Nat} : bst P O G P 0 S = bst P O2 G P 0 S := by
  have h1 := fmx_rl (P := P) (O := O) (G := G) P 0 S
  rw [rl_cong h _ _ _ (by omega), fmx_rl] at h1
  injection h1 with h1
  exact h1.symm
theorem fx95 {m m2 : Mem} (h : Fr (fun c => c = 95) m m2) : FX m m2 := h.fx (fun c q => by unfold scx; omega)
theorem fx934 {m m2 : Mem} (h : Fr s934 m m2) : FX m m2 := h.fx (fun c q => by unfold s934 at q; unfold scx; omega)
theorem f95CT {P : Nat} {O : Nat → Nat → Bool} {G : Nat → Nat → Int32} {m m2 : Mem} (h : CT P O G m) (f5 : Fr (fun c => c = 95) m m2) : CT P O G m2 := h.fr (f5 90 (by omega) _).1 (fun j => (f5 91 (by omega) j).1) (fun j => (f5 92 (by omega) j).1)
theorem two_pow_evy {P : Nat} : evy P < 2 ^ P := by
  have : 0 < 2 ^ P := Nat.two_pow_pos P
  unfold evy
  omega
theorem St_most_ok : St_most Rel := by
  intro k N mx mm hk ⟨s, e, ib, hw, hc, hm⟩ a
  have g := hw.gx
  have hP := g.P
  have h := hc.2.1
  have hm0 := hm.th
  have hi := hm0.2.1
  have fin : Rel (k + 1) N mx (si mm 0 0 (nI 0)) := Rel.rd hk hw hc hm FX.rf FM.th
  rw [X11_most, X12_most, K0, lq]
  by_cases ha : mq (rP (sR s)) a
  · obtain ⟨mx1, a1, a2, a3⟩ := c_survey g h
    obtain ⟨mx2, a4, a5, a6, a7⟩ := c_solve hP (gd_gb g) a2
    have hP1 : gi mx2 2 1 = nI (rP (sR s)) := by rw [(a7 2 (by unfold s934; omega) 1).1, (a3 2 (by unfold s90; omega) 1).1]; exact h.P
    obtain ⟨mx3, a8, a9, a10⟩ := c_follow hP two_pow_evy a6 a5
    obtain ⟨mm1, b1', b2, b3⟩ := m_laysPairs (away := 0) (years := 0) (by omega) hw (by omega) (by omega) hm0
    obtain ⟨mm2, d1, d2, d3, d4⟩ := m_begins (just := 0) false hP (by omega) (gd_gb g) b3 b2.2.1.P
    have d1 : X12_begins (nI 0) (nI 0) mm1 = some ((), mm2) := d1
    have br := fold_best (O := Om s 0 0) (just := 0) (st := bgn mm1) hP (gd_gb g) rfl
    rw [bst_cong (O2 := my (sR s) (sX s)) (fun p q _ _ => Om0)] at br
    obtain ⟨v, v1, v2⟩ := both_found (l := bst (rP (sR s)) (my (sR s) (sX s)) (gd (sR s) (sX s)) (rP (sR s)) 0 (evy (rP (sR s)))) hP (f95CT a6 a10) bst_mem a9 d2 br ha
    rw [c_mq_t g h ha, bq, m_mq_t g hi ha, bq, jeq_f (by omega) (by omega) (by omega), jeq_f (by omega) (by omega) (by omega), a1, bq, a4, bq, c_every g hP1, bq, a8, bq, v1, bq, b1', bq, d1, bq, v2, bq]
    exact ⟨_, _, _, rfl, rfl, s, e, ib, hw.mono (by omega) (by omega), hc.fx (((fx90 a3).tr (fx934 a7)).tr (fx95 a10)), b2.fm d4⟩
  · rw [c_mq_f g h ha, bq, m_mq_f g hi ha, bq, jeq_t rfl, jeq_t rfl]
    exact ⟨_, _, _, rfl, rfl, fin⟩
