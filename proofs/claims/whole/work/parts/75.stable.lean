/-! a matching in which nobody would rather: there is one -/
def stl (P : Nat) (O : Nat → Nat → Bool) (G : Nat → Nat → Int32) (w : Nat → Option Nat) (l : PL) : Bool := (fb P (bk O G (apw w l)) P 0).isNone
theorem ff_none {f : Nat → Bool} : ∀ n k, (∀ i, k ≤ i → i < k + n → f i = false) → ff f n k = none
  | 0, k, _ => rfl
  | n + 1, k, h => by
    rw [ff, h k (by omega) (by omega), if_neg (by decide)]
    exact ff_none n (k + 1) (fun i h1 h2 => h i (by omega) (by omega))
theorem fb_none {P : Nat} {f : Nat → Nat → Bool} : ∀ n p, n + p ≤ P → (∀ i j, p ≤ i → i < j → j < P → f i j = false) → fb P f n p = none
  | 0, p, _, _ => rfl
  | n + 1, p, hp, h => by
    rw [fb, ff_none _ _ (fun i h1 h2 => h p i (Nat.le_refl _) (by omega) (by omega))]
    exact fb_none n (p + 1) (by omega) (fun i j h1 h2 h3 => h i j (by omega) h2 h3)
theorem list_max {α : Type} (f : α → Int) : ∀ L : List α, L ≠ [] → ∃ x, x ∈ L ∧ ∀ y, y ∈ L → f y ≤ f x
  | [], h => absurd rfl h
  | [x], _ => ⟨x, List.mem_cons_self, fun y hy => by
    rw [List.mem_singleton] at hy
    rw [hy]
    exact Int.le_refl _⟩
  | x :: z :: L, _ => by
    obtain ⟨m, h1, h2⟩ := list_max f (z :: L) (fun h => by cases h)
    by_cases h : f m ≤ f x
    · refine ⟨x, List.mem_cons_self, fun y hy => ?_⟩
      rcases List.mem_cons.mp hy with rfl | hy
      · exact Int.le_refl _
      · exact Int.le_trans (h2 y hy) h
    · refine ⟨m, List.mem_cons_of_mem _ h1, fun y hy => ?_⟩
      rcases List.mem_cons.mp hy with rfl | hy
      · omega
      · exact h2 y hy
def prs2 (P : Nat) : List (Nat × Nat) := (List.range P).flatMap (fun a => (List.range P).map (fun b => (a, b)))
theorem mem_prs2 {P a b : Nat} (ha : a < P) (hb : b < P) : (a, b) ∈ prs2 P := by
  rw [prs2, List.mem_flatMap]
  exact ⟨a, List.mem_range.mpr ha, List.mem_map.mpr ⟨b, List.mem_range.mpr hb, rfl⟩⟩
theorem ct_less {A B : Nat → Bool} {k : Nat} : ∀ {n : Nat}, (∀ i, B i = true → A i = true) → k < n → A k = true → B k = false → ct B n < ct A n
  | 0, _, hk, _, _ => absurd hk (Nat.not_lt_zero _)
  | n + 1, h, hk, ha, hb => by
    have le : ∀ m, ct B m ≤ ct A m := by
      intro m
      induction m with
      | zero => exact Nat.le_refl _
      | succ m ih =>
        rw [ct, ct]
        cases hB : B m with
        | false => simp; split <;> omega
        | true => rw [h m hB]; simp; omega
    rw [ct, ct]
    by_cases hkn : k = n
    · subst hkn
      have := le k
      rw [ha, hb]
      simp
      omega
    · have := ct_less (n := n) h (by omega) ha hb
      cases hB : B n with
      | false => simp; split <;> omega
      | true => rw [h n hB]; simp; omega
theorem greedy {P : Nat} {O : Nat → Nat → Bool} {G : Nat → Nat → Int32} (hs : ∀ p q, G p q = G q p) : ∀ N (A : Nat → Bool), ct A P < N → ∃ w : Nat → Option Nat, (∀ i q, w i = some q → i < P ∧ q < P ∧ A i = true ∧ A q = true ∧ q ≠ i ∧ w q = some i ∧ (i < q → O i q = true)) ∧ ∀ p q, p < q → q < P → A p = true → A q = true → bk O G w p q = false := by
  intro N
  induction N with
  | zero => intro A h; omega
  | succ N ih =>
    intro A hA
    let L := (prs2 P).filter (fun x => decide (x.1 < x.2) && A x.1 && A x.2 && O x.1 x.2)
    by_cases hL : L = []
    · refine ⟨fun _ => none, fun i q h => (by cases h), fun p q h1 h2 h3 h4 => ?_⟩
      have : O p q = false := by
        cases ho : O p q with
        | false => rfl
        | true =>
          have hm : (p, q) ∈ L := List.mem_filter.mpr ⟨mem_prs2 (by omega) h2, by simp [h1, h3, h4, ho]⟩
          rw [hL] at hm
          cases hm
      rw [bk, this]
      rfl
    · obtain ⟨⟨a, b⟩, m1, m2⟩ := list_max (fun x : Nat × Nat => (G x.1 x.2).toInt) L hL
      have hab := (List.mem_filter.mp m1).2
      simp only [Bool.and_eq_true, decide_eq_true_eq] at hab
      obtain ⟨⟨⟨hlt, hAa⟩, hAb⟩, hOab⟩ := hab
      have hbP : b < P := by
        have := (List.mem_filter.mp m1).1
        rw [prs2, List.mem_flatMap] at this
        obtain ⟨x, _, hx⟩ := this
        obtain ⟨y, hy, e⟩ := List.mem_map.mp hx
        injection e with e1 e2
        have := List.mem_range.mp hy
        omega
      have mx : ∀ p q, p < q → q < P → A p = true → A q = true → O p q = true → (G p q).toInt ≤ (G a b).toInt := fun p q h1 h2 h3 h4 h5 => m2 (p, q) (List.mem_filter.mpr ⟨mem_prs2 (by omega) h2, by simp [h1, h3, h4, h5]⟩)
      have hB : ct (fun i => A i && !decide (i = a) && !decide (i = b)) P < ct A P := ct_less (k := a) (fun i h => by
        simp only [Bool.and_eq_true] at h
        exact h.1.1) (by omega) hAa (by simp)
      obtain ⟨w, w1, w2⟩ := ih (fun i => A i && !decide (i = a) && !decide (i = b)) (by omega)
      have wn : ∀ i q, w i = some q → i ≠ a ∧ i ≠ b ∧ q ≠ a ∧ q ≠ b := fun i q h => by
        obtain ⟨_, _, x1, x2, _⟩ := w1 i q h
        simp at x1 x2
        exact ⟨x1.1.2, x1.2, x2.1.2, x2.2⟩
      refine ⟨swd w a b, fun i q h => ?_, fun p q h1 h2 h3 h4 => ?_⟩
      · rw [swd_c] at h ⊢
        by_cases e1 : i = b
        · rw [if_pos e1] at h
          injection h with h
          subst h e1
          exact ⟨hbP, by omega, hAb, hAa, by omega, by rw [if_neg (by omega), if_pos rfl], fun hh => by omega⟩
        · rw [if_neg e1] at h
          by_cases e2 : i = a
          · rw [if_pos e2] at h
            injection h with h
            subst h e2
            exact ⟨by omega, hbP, hAa, hAb, by omega, by rw [if_pos rfl], fun _ => hOab⟩
          · rw [if_neg e2] at h
            obtain ⟨x1, x2, x3, x4, x5, x6, x7⟩ := w1 i q h
            obtain ⟨_, _, y3, y4⟩ := wn i q h
            simp only [Bool.and_eq_true] at x3 x4
            exact ⟨x1, x2, x3.1.1, x4.1.1, x5, by rw [if_neg y4, if_neg y3]; exact x6, x7⟩
      · have wa : swd w a b a = some b := by rw [swd_c, if_neg (by omega), if_pos rfl]
        have wb : swd w a b b = some a := by rw [swd_c, if_pos rfl]
        have hO : ∀ {z : Bool}, (O p q = true → z = false) → (O p q && z) = false := fun {z} h => by
          cases ho : O p q with
          | false => rfl
          | true => rw [h ho]; rfl
        rw [bk, Bool.and_assoc]
        refine hO (fun ho => ?_)
        have hle := mx p q h1 h2 h3 h4 ho
        have g1 : G p q ≤ G a b := le_iff.mpr hle
        by_cases c1 : p = a
        · have : bl G (swd w a b) p (G p q) = false := by
            rw [bl, c1, wa]
            rw [c1] at g1
            simp [g1]
          rw [this]; rfl
        · by_cases c2 : p = b
          · have : bl G (swd w a b) p (G p q) = false := by
              rw [bl, c2, wb]
              rw [c2, hs a b] at g1
              simp [g1]
            rw [this]; rfl
          · by_cases c3 : q = a
            · have : bl G (swd w a b) q (G p q) = false := by
                rw [bl, c3, wa]
                rw [c3] at g1
                simp [g1]
              rw [this]; simp
            · by_cases c4 : q = b
              · have : bl G (swd w a b) q (G p q) = false := by
                  rw [bl, c4, wb]
                  rw [c4, hs a b] at g1
                  simp [g1]
                rw [this]; simp
              · have k := w2 p q h1 h2 (by simp [h3, c1, c2]) (by simp [h4, c3, c4])
                rw [bk, ho, Bool.true_and] at k
                have e1 : bl G (swd w a b) p (G p q) = bl G w p (G p q) := by rw [bl, bl, swd_c, if_neg c2, if_neg c1]
                have e2 : bl G (swd w a b) q (G p q) = bl G w q (G p q) := by rw [bl, bl, swd_c, if_neg c4, if_neg c3]
                rw [e1, e2]
                exact k
/-- a matching, as far as it is told by those before p -/
def cutw (w : Nat → Option Nat) (p i : Nat) : Option Nat := match w i with
  | none => none
  | some u => if i < p ∨ u < p then some u else none
theorem leaf_of {P : Nat} {O : Nat → Nat → Bool} {w : Nat → Option Nat} (hw : ∀ i q, w i = some q → i < P ∧ q < P ∧ q ≠ i ∧ w q = some i ∧ (i < q → O i q = true)) : ∀ n p S, n + p = P → S < 256 → (∀ i, p ≤ i → i < P → S.testBit i = (cutw w p i).isNone) → ∃ l, l ∈ rl P O n p S ∧ apw (cutw w p) l = w := by
  intro n
  induction n with
  | zero =>
    intro p S hp hS h
    refine ⟨[], List.mem_cons_self, ?_⟩
    funext i
    show cutw w p i = w i
    rw [cutw]
    cases hi : w i with
    | none => rfl
    | some u =>
      have := (hw i u hi).1
      simp only
      rw [if_pos (by omega)]
  | succ n ih =>
    intro p S hp hS h
    have hpP : p < P := by omega
    have hS1 : nd S (2 ^ p) < 256 := Nat.lt_of_le_of_lt (nd_le _ _) hS
    have e := h p (Nat.le_refl _) hpP
    rw [rl]
    have same : (∀ u, w p = some u → u < p) → cutw w (p + 1) = cutw w p := fun hu => by
      funext i
      rw [cutw, cutw]
      cases hi : w i with
      | none => rfl
      | some v =>
        simp only
        by_cases c : i < p ∨ v < p
        · rw [if_pos c, if_pos (by omega)]
        · rw [if_neg c, if_neg (fun q => ?_)]
          rcases q with q | q
          · have : i = p := by omega
            rw [this] at hi
            have := hu v hi
            omega
          · have : v = p := by omega
            rw [this] at hi
            have h2 := (hw i p hi).2.2.2.1
            have := hu i h2
            omega
    cases hb : S.testBit p with
    | false =>
      rw [hb] at e
      rw [if_neg (by decide)]
      have hs := same (fun u hu => by
        rw [cutw, hu] at e
        simp only at e
        split at e
        · rename_i q; omega
        · cases e)
      obtain ⟨l, l1, l2⟩ := ih (p + 1) S (by omega) hS (fun i h1 h2 => by rw [hs]; exact h i (by omega) h2)
      rw [hs] at l2
      exact ⟨l, l1, l2⟩
    | true =>
      rw [hb] at e
      rw [if_pos rfl]
      cases hwp : w p with
      | none =>
        have hs := same (fun u hu => by rw [hwp] at hu; cases hu)
        obtain ⟨l, l1, l2⟩ := ih (p + 1) (nd S (2 ^ p)) (by omega) hS1 (fun i h1 h2 => by
          rw [hs, nd2_bit hS, h i (by omega) h2]
          have c2 : p ≠ i := by omega
          simp [c2])
        rw [hs] at l2
        exact ⟨l, List.mem_append_right _ l1, l2⟩
      | some q =>
        obtain ⟨_, k2, k3, k4, k5⟩ := hw p q hwp
        have hpq : p < q := by
          rw [cutw, hwp] at e
          simp only at e
          split at e
          · cases e
          · omega
        have hsw : cutw w (p + 1) = swd (cutw w p) p q := by
          funext i
          rw [swd_c]
          by_cases c1 : i = q
          · rw [if_pos c1, cutw, c1, k4]
            simp only
            rw [if_pos (by omega)]
          · rw [if_neg c1]
            by_cases c2 : i = p
            · rw [if_pos c2, cutw, c2, hwp]
              simp only
              rw [if_pos (by omega)]
            · rw [if_neg c2, cutw, cutw]
              cases hi : w i with
              | none => rfl
              | some v =>
                simp only
                by_cases c : i < p ∨ v < p
                · rw [if_pos c, if_pos (by omega)]
                · rw [if_neg c, if_neg (fun z => ?_)]
                  have : v = p := by omega
                  rw [this] at hi
                  have h2 := (hw i p hi).2.2.2.1
                  rw [hwp] at h2
                  injection h2 with h2
                  exact c1 h2.symm
        have bitq : S.testBit q = true := by
          rw [h q (by omega) k2, cutw, k4]
          simp only
          rw [if_neg (by omega)]
          rfl
        obtain ⟨l, l1, l2⟩ := ih (p + 1) (nd (nd S (2 ^ p)) (2 ^ q)) (by omega) (Nat.lt_of_le_of_lt (nd_le _ _) hS1) (fun i h1 h2 => by
          rw [hsw, nd2_bit hS1, nd2_bit hS, h i (by omega) h2, swd_c]
          by_cases c1 : i = q
          · subst c1; simp
          · have c2 : i ≠ p := by omega
            simp [c1, c2, Ne.symm c1, Ne.symm c2])
        rw [hsw] at l2
        refine ⟨(p, q) :: l, List.mem_append_left _ ?_, l2⟩
        have memrq : ∀ (F : Nat → List PL) c q0, q0 ≤ q → q < q0 + c → (p, q) :: l ∈ F q → (p, q) :: l ∈ rq F c q0 := by
          intro F c
          induction c with
          | zero => intro q0 h1 h2 _; omega
          | succ c ihc =>
            intro q0 h1 h2 h3
            rw [rq]
            by_cases hq0 : q0 = q
            · subst hq0; exact List.mem_append_left _ h3
            · exact List.mem_append_right _ (ihc (q0 + 1) (by omega) (by omega) h3)
        refine memrq _ _ _ (by omega) (by omega) ?_
        rw [bitq, k5 hpq]
        exact List.mem_map.mpr ⟨l, l1, rfl⟩
theorem stable_ex {P : Nat} {O : Nat → Nat → Bool} {G : Nat → Nat → Int32} (hP : P ≤ 8) (hs : ∀ p q, G p q = G q p) : ∃ l, (rl P O P 0 (evy P)).find? (stl P O G (fun _ => none)) = some l := by
  obtain ⟨w, w1, w2⟩ := greedy (P := P) (O := O) hs (ct (fun _ => true) P + 1) (fun _ => true) (by omega)
  have hc : cutw w 0 = fun _ => none := by
    funext i
    rw [cutw]
    cases w i with
    | none => rfl
    | some u => simp only; rw [if_neg (by omega)]
  obtain ⟨l, l1, l2⟩ := leaf_of (O := O) (fun i q h => by
    obtain ⟨x1, x2, _, _, x5, x6, x7⟩ := w1 i q h
    exact ⟨x1, x2, x5, x6, x7⟩) P 0 (evy P) (by omega) (evy_lt hP) (fun i _ hi => by rw [hc, evy_bit]; simp [hi])
  rw [hc] at l2
  have hst : stl P O G (fun _ => none) l = true := by
    rw [stl, l2, fb_none P 0 (by omega) (fun i j _ h1 h2 => w2 i j h1 h2 rfl rfl)]
    rfl
  cases hf : (rl P O P 0 (evy P)).find? (stl P O G (fun _ => none)) with
  | some l => exact ⟨l, rfl⟩
  | none =>
    rw [List.find?_eq_none] at hf
    exact absurd hst (hf l l1)
/-! the reference finds the first -/
theorem fold_stb {P : Nat} {O : Nat → Nat → Bool} {G : Nat → Nat → Int32} {just : Nat} : ∀ (L : List PL) (st : Bs), (∀ l, l ∈ L → l.length ≤ 8) → st.1 = NO → BR G (L.find? (stl P O G (fun _ => none))) (L.foldl (fst' P O G true just (fun _ => none) 0 (nI 0)) st)
  | [], st, _, h => h
  | l :: L, st, hL, h => by
    have z : nI 0 + sgd G l = sgd G l := by rw [← K0]; simp
    rw [List.foldl_cons, List.find?_cons]
    cases hs : stl P O G (fun _ => none) l with
    | false =>
      have e : fst' P O G true just (fun _ => none) 0 (nI 0) st l = (st.1, st.2.1, st.2.2.1 + nI (if 0 + l.length = just then 1 else 0), st.2.2.2) := by
        rw [fst', lst]
        have : btr P O G true (apw (fun _ => none) l) (0 + l.length) (nI 0 + sgd G l) st = false := by
          rw [stl] at hs
          simp [btr, hs]
        rw [this, if_neg (by decide)]
      rw [e]
      exact fold_stb L _ (fun l' h' => hL l' (List.mem_cons_of_mem _ h')) h
    | true =>
      have e : fst' P O G true just (fun _ => none) 0 (nI 0) st l = (nI l.length, sgd G l, st.2.2.1 + nI (if 0 + l.length = just then 1 else 0), fun i => oN (apw (fun _ => none) l i)) := by
        rw [fst', lst]
        have : btr P O G true (apw (fun _ => none) l) (0 + l.length) (nI 0 + sgd G l) st = true := by
          rw [stl] at hs
          simp [btr, hs, h]
        rw [this, if_pos rfl, z, Nat.zero_add]
      rw [e]
      have keep : ∀ (L : List PL) (st : Bs), BR G (some l) st → BR G (some l) (L.foldl (fst' P O G true just (fun _ => none) 0 (nI 0)) st) := by
        intro L
        induction L with
        | nil => intro st h; exact h
        | cons l2 L ih =>
          intro st h
          rw [List.foldl_cons]
          apply ih
          have hl8 := hL l List.mem_cons_self
          have hne : ¬ st.1 = NO := by rw [h.1]; exact nI_ne_m1 (by omega)
          rw [fst', lst]
          have : btr P O G true (apw (fun _ => none) l2) (0 + l2.length) (nI 0 + sgd G l2) st = false := by simp [btr, hne]
          rw [this, if_neg (by decide)]
          exact h
      exact keep L _ ⟨rfl, rfl, fun i => rfl⟩
/-! and so does the class -/
theorem fb_lt {P : Nat} {f : Nat → Nat → Bool} (hP : P ≤ 8) : ∀ n p u, n + p ≤ P → fb P f n p = some u → u < 100 := by
  have hff : ∀ (f : Nat → Bool) n q u, n + q ≤ P → ff f n q = some u → u < P := by
    intro f n
    induction n with
    | zero => intro q u _ hq; cases hq
    | succ n ih =>
      intro q u hq2 hq
      rw [ff] at hq
      split at hq
      · injection hq with hq; omega
      · exact ih (q + 1) u (by omega) hq
  intro n
  induction n with
  | zero => intro p u _ hq; cases hq
  | succ n ih =>
    intro p u hp hq
    rw [fb] at hq
    split at hq
    · rename_i v hv
      injection hq with hq
      have := hff _ _ _ _ (by omega) hv
      omega
    · exact ih (p + 1) u (by omega) hq
/-- what a search from here leaves: found or not, who with whom -/
def SR (o : Option PL) (w : Nat → Option Nat) (r : Int32) (m : Mem) : Prop := match o with
  | none => r = nI 0 ∧ ∀ i, i < 8 → gi m 95 i = oN (w i)
  | some l => r = nI 1 ∧ ∀ i, i < 8 → gi m 95 i = oN (apw w l i)
theorem SR.ck {o : Option PL} {w : Nat → Option Nat} {r : Int32} {m : Mem} (h : SR o w r m) : decide (r = 0 ∨ r = nI 1) = true := by
  cases o with
  | none => rw [h.1]; decide
  | some l => rw [h.1]; decide
theorem c_settle {P : Nat} {O : Nat → Nat → Bool} {G : Nat → Nat → Int32} (hP : P ≤ 8) (hG : GB P G) : ∀ n d p w S m, n + p = P → n < d → S < 256 → WV P w → (∀ i, p ≤ i → i < P → S.testBit i = (w i).isNone) → CT P O G m → (∀ i, i < 8 → gi m 95 i = oN (w i)) → ∃ r m2, g_X6_settle d (nI p) m = some (r, m2) ∧ SR ((rl P O n p S).find? (stl P O G w)) w r m2 ∧ Fr (fun c => c = 95) m m2 := by
  intro n
  induction n with
  | zero =>
    intro d p w S m hp hd hS hw hSw hT h95
    obtain ⟨d, rfl⟩ : ∃ d2, d = d2 + 1 := ⟨d - 1, by omega⟩
    have hp : p = P := by omega
    subst hp
    show ∃ r m2, X6_settle (g_X6_settle d) (nI p) m = some (r, m2) ∧ _
    have e1 := c_fb hP hG hT (w := w) (fun i hi => h95 i (by omega)) hw.1 FU 0 (by omega) (by unfold FU; omega)
    rw [X6_settle, hT.1, jlt_f (by omega) (by omega), X6_firstBreak, K0, e1, bq, kn1, K1, Nat.sub_zero]
    show ∃ r m2, _ ∧ SR (List.find? (stl p O G w) [[]]) w r m2 ∧ _
    rw [List.find?_cons, List.find?_nil]
    have es : stl p O G w [] = (fb p (bk O G w) p 0).isNone := rfl
    rw [es]
    cases hf : fb p (bk O G w) p 0 with
    | none =>
      rw [oN_none, jm_t]
      exact ⟨_, m, rfl, ⟨rfl, h95⟩, Fr.rf⟩
    | some u =>
      have := fb_lt hP p 0 u (by omega) hf
      rw [oN_some, jm_f (by omega)]
      exact ⟨_, m, rfl, ⟨rfl, h95⟩, Fr.rf⟩
  | succ n ih =>
    intro d p w S m hp hd hS hw hSw hT h95
    obtain ⟨d, rfl⟩ : ∃ d2, d = d2 + 1 := ⟨d - 1, by omega⟩
    have hpP : p < P := by omega
    show ∃ r m2, X6_settle (g_X6_settle d) (nI p) m = some (r, m2) ∧ _
    rw [X6_settle, hT.1, jlt_t hpP (by omega), chk_in (by omega) (by omega), ix_nI (by omega), h95 p (by omega), rl, hSw p (Nat.le_refl _) hpP, kn1, K1, nadd]
    cases hwp : w p with
    | some u =>
      have hu := hw.1 p u hpP hwp
      obtain ⟨r, m2, e1, e2, e3⟩ := ih d (p + 1) w S m (by omega) (by omega) hS hw (fun i h1 h2 => hSw i (by omega) h2) hT h95
      rw [oN_some, jm_f (by omega), e1, bq, chk_tt e2.ck, if_neg (show ¬ (some u).isNone = true from Bool.noConfusion)]
      exact ⟨r, m2, rfl, e2, e3⟩
    | none =>
      have hS1 : nd S (2 ^ p) < 256 := Nat.lt_of_le_of_lt (nd_le _ _) hS
      rw [oN_none, jm_t, lq, if_pos (show (none : Option Nat).isNone = true from rfl), List.find?_append]
      have rest : ∀ m, CT P O G m → (∀ i, i < 8 → gi m 95 i = oN (w i)) → ∃ r m2, g_X6_settle d (nI (p + 1)) m = some (r, m2) ∧ SR ((rl P O n (p + 1) (nd S (2 ^ p))).find? (stl P O G w)) w r m2 ∧ Fr (fun c => c = 95) m m2 := fun m hT h95 => ih d (p + 1) w (nd S (2 ^ p)) m (by omega) (by omega) hS1 hw (fun i h1 h2 => by
        rw [nd2_bit hS, hSw i (by omega) h2]
        have c2 : p ≠ i := by omega
        simp [c2]) hT h95
      have lp : ∀ c q fu m, c + q = P → p < q → c < fu → CT P O G m → (∀ i, i < 8 → gi m 95 i = oN (w i)) → ∃ r m2, X6_settle_b44 (g_X6_settle d) fu (nI p) (nI q) m = some (r, m2) ∧ SR (((rq (fun q => if S.testBit q && O p q then (rl P O n (p + 1) (nd (nd S (2 ^ p)) (2 ^ q))).map (fun l => (p, q) :: l) else []) c q).find? (stl P O G w)).or ((rl P O n (p + 1) (nd S (2 ^ p))).find? (stl P O G w))) w r m2 ∧ Fr (fun c => c = 95) m m2 := by
        intro c
        induction c with
        | zero =>
          intro q fu m hq hpq hf hT h95
          obtain ⟨fu, rfl⟩ : ∃ f2, fu = f2 + 1 := ⟨fu - 1, by omega⟩
          have hq : q = P := by omega
          subst hq
          obtain ⟨r, m2, e1, e2, e3⟩ := rest m hT h95
          rw [X6_settle_b44, hT.1, jle_t (by omega) (by omega), K1, nadd, e1, bq, chk_tt e2.ck]
          exact ⟨r, m2, rfl, e2, e3⟩
        | succ c ihc =>
          intro q fu m hq hpq hf hT h95
          obtain ⟨fu, rfl⟩ : ∃ f2, fu = f2 + 1 := ⟨fu - 1, by omega⟩
          have hqP : q < P := by omega
          rw [X6_settle_b44, hT.1, jle_f hqP (by omega), chk_in (by omega) (by omega), ix_nI (by omega), h95 q (by omega), kn1, K1, K0, nadd, nadd, rq, List.find?_append, hSw q (by omega) hqP]
          cases hwq : w q with
          | some u =>
            have hu := hw.1 q u hqP hwq
            rw [oN_some, jm_f (by omega)]
            exact ihc (q + 1) fu m (by omega) (by omega) (by omega) hT h95
          | none =>
            rw [oN_none, jm_t, c_isOpen hP hT hpP hqP (by omega), bq]
            cases hO : O p q with
            | false =>
              rw [if_pos (show nI (b1 false) = nI 0 by decide)]
              exact ihc (q + 1) fu m (by omega) (by omega) (by omega) hT h95
            | true =>
              rw [if_neg (show ¬ nI (b1 true) = nI 0 by decide)]
              simp (disch := omega) only [chk_in, ix_nI, lq]
              have f5 : Fr (fun c => c = 95) m (si (si m 95 p (nI q)) 95 q (nI p)) := Fr.tr (Fr.si rfl) (Fr.si rfl)
              have h5 : ∀ i, i < 8 → gi (si (si m 95 p (nI q)) 95 q (nI p)) 95 i = oN (swd w p q i) := fun i hi => by
                rw [swd_c]
                by_cases c1 : i = q
                · rw [if_pos c1, c1, gss]; rfl
                · rw [if_neg c1, gsi c1]
                  by_cases c2 : i = p
                  · rw [if_pos c2, c2, gss]; rfl
                  · rw [if_neg c2, gsi c2]; exact h95 i hi
              obtain ⟨r, m3, a1, a2, a3⟩ := ih d (p + 1) (swd w p q) (nd (nd S (2 ^ p)) (2 ^ q)) _ (by omega) (by omega) (Nat.lt_of_le_of_lt (nd_le _ _) hS1) (hw.sw hpP hqP (by omega)) (fun i h1 h2 => by
                rw [nd2_bit hS1, nd2_bit hS, hSw i (by omega) h2, swd_c]
                by_cases c1 : i = q
                · subst c1; simp
                · have c2 : i ≠ p := by omega
                  simp [c1, c2, Ne.symm c1, Ne.symm c2]) (f95CT hT f5) h5
              have emap : ((rl P O n (p + 1) (nd (nd S (2 ^ p)) (2 ^ q))).map (fun l => (p, q) :: l)).find? (stl P O G w) = ((rl P O n (p + 1) (nd (nd S (2 ^ p)) (2 ^ q))).find? (stl P O G (swd w p q))).map (fun l => (p, q) :: l) := by
                rw [List.find?_map]
                rfl
              rw [a1, bq, show ((none : Option Nat).isNone && true) = true from rfl, if_pos rfl, emap]
              cases hfd : (rl P O n (p + 1) (nd (nd S (2 ^ p)) (2 ^ q))).find? (stl P O G (swd w p q)) with
              | some l =>
                rw [hfd] at a2
                rw [a2.1, jeq_f (by omega) (by omega) (by omega)]
                exact ⟨_, m3, rfl, ⟨rfl, a2.2⟩, f5.tr a3⟩
              | none =>
                rw [hfd] at a2
                rw [a2.1, jeq_t rfl]
                have f7 : Fr (fun c => c = 95) m (si (si m3 95 p NO) 95 q NO) := (f5.tr a3).tr (Fr.tr (Fr.si rfl) (Fr.si rfl))
                obtain ⟨r2, m4, i1, i2, i3⟩ := ihc (q + 1) fu (si (si m3 95 p NO) 95 q NO) (by omega) (by omega) (by omega) (f95CT hT f7) (fun i hi => by
                  by_cases c1 : i = q
                  · rw [c1, gss, hwq]; rfl
                  · rw [gsi c1]
                    by_cases c2 : i = p
                    · rw [c2, gss, hwp]; rfl
                    · rw [gsi c2, a2.2 i hi, swd_c, if_neg c1, if_neg c2])
                exact ⟨r2, m4, i1, i2, f7.tr i3⟩
      exact lp (P - (p + 1)) (p + 1) FU m (by omega) (by omega) (by unfold FU; omega) hT h95
theorem St_stable_ok : St_stable Rel := by
  intro k N mx mm hk ⟨s, e, ib, hw, hc, hm⟩ a
  have g := hw.gx
  have hP := g.P
  have h := hc.2.1
  have hm0 := hm.th
  have hi := hm0.2.1
  have fin : Rel (k + 1) N mx (si mm 0 0 (nI 0)) := Rel.rd hk hw hc hm FX.rf FM.th
  rw [X11_stable, X12_stable, K0, lq, K1]
  by_cases ha : mq (rP (sR s)) a
  · obtain ⟨mx1, a1, a2, a3⟩ := c_survey g h
    have f5 : Fr (fun c => c = 95) mx1 (wig mx1 95 0 8 (fun _ => NO)) := wig_f rfl
    obtain ⟨r, mx2, a4, a5, a6⟩ := c_settle hP (gd_gb g) (rP (sR s)) 64 0 (fun _ => none) (evy (rP (sR s))) (wig mx1 95 0 8 (fun _ => NO)) (by omega) (by omega) (evy_lt hP) ⟨fun i u _ hu => (by cases hu), fun i _ => rfl⟩ (fun i _ hi => by rw [evy_bit]; simp [hi]) (f95CT a2 f5) (fun i hi => by rw [gi_wig, if_pos (by omega)]; rfl)
    obtain ⟨l, hl⟩ := stable_ex (O := my (sR s) (sX s)) (G := gd (sR s) (sX s)) hP (fun p q => gd_sym _ _ p q)
    rw [hl] at a5
    obtain ⟨mm1, b1', b2, b3⟩ := m_laysPairs (away := 0) (years := 0) (by omega) hw (by omega) (by omega) hm0
    have b3' : MT (rP (sR s)) (my (sR s) (sX s)) (gd (sR s) (sX s)) mm1 := fun p q hp hq hn => by
      have := b3 p q hp hq hn
      rw [Om0] at this
      exact this
    obtain ⟨mm2, d1, d2, d3, d4⟩ := m_begins (just := 0) true hP (by omega) (gd_gb g) b3' b2.2.1.P
    have d1 : X12_begins (nI 1) (nI 0) mm1 = some ((), mm2) := d1
    have br := fold_stb (P := rP (sR s)) (O := my (sR s) (sX s)) (G := gd (sR s) (sX s)) (just := 0) (rl (rP (sR s)) (my (sR s) (sX s)) (rP (sR s)) 0 (evy (rP (sR s)))) (bgn mm1) (fun l hl => by
      have := rl_ok (rP (sR s)) 0 _ (by omega) l hl
      omega) rfl
    rw [hl] at br
    obtain ⟨v, v1, v2⟩ := both_found (l := l) hP (f95CT (f95CT a2 f5) a6) (List.mem_of_find?_eq_some hl) a5.2 d2 br ha
    rw [c_mq_t g h ha, bq, m_mq_t g hi ha, bq, jeq_f (by omega) (by omega) (by omega), jeq_f (by omega) (by omega) (by omega), a1, bq, c_leaveAlone, bq, X6_settle_top, a4, bq, v1, bq, b1', bq, d1, bq, v2, bq]
    exact ⟨_, _, _, rfl, rfl, s, e, ib, hw.mono (by omega) (by omega), hc.fx (((fx90 a3).tr (fx95 f5)).tr (fx95 a6)), b2.fm d4⟩
  · rw [c_mq_f g h ha, bq, m_mq_f g hi ha, bq, jeq_t rfl, jeq_t rfl]
    exact ⟨_, _, _, rfl, rfl, fin⟩
