/-! the search for the least set of so many things -/
theorem ct_mono {f g : Nat → Bool} (h : ∀ i, f i = true → g i = true) : ∀ n, ct f n ≤ ct g n
  | 0 => Nat.le_refl 0
  | n + 1 => by
    have ih := ct_mono h n
    rw [ct, ct]
    by_cases a : f n = true
    · rw [if_pos a, if_pos (h n a)]; omega
    · rw [if_neg a]; omega
theorem ct_add {f g k : Nat → Bool} (h : ∀ i, (if k i then 1 else 0) = (if f i then 1 else 0) + (if g i then 1 else 0)) : ∀ n, ct k n = ct f n + ct g n
  | 0 => rfl
  | n + 1 => by
    have := h n
    rw [ct, ct, ct, ct_add h n]
    omega
theorem ct_zero {f : Nat → Bool} : ∀ n, ct f n = 0 → ∀ i, i < n → f i = false
  | 0, _, i, hi => by omega
  | n + 1, h, i, hi => by
    rw [ct] at h
    by_cases e : i = n
    · subst e
      cases hf : f i with
      | false => rfl
      | true => rw [hf] at h; simp at h
    · exact ct_zero n (by omega) i (by omega)
theorem pcn_mono {a b : Nat} (h : ∀ i, a.testBit i = true → b.testBit i = true) : pcn a ≤ pcn b := ct_mono h 14
theorem pcn_pow {t : Nat} (ht : t < 14) : pcn (2 ^ t) = 1 := by
  have : ∀ t, t < 14 → pcn (2 ^ t) = 1 := by decide +kernel
  exact this t ht
theorem pcn_set {a t : Nat} (ht : t < 14) (h : a.testBit t = false) : pcn (a ||| 2 ^ t) = pcn a + 1 := by
  rw [← pcn_pow ht]
  refine ct_add (fun i => ?_) 14
  rw [Nat.testBit_or, Nat.testBit_two_pow]
  by_cases e : t = i
  · subst e; rw [h]; simp
  · simp [e]
theorem pcn_nd {a b : Nat} (ha : a < 16384) (h : ∀ i, b.testBit i = true → a.testBit i = true) : pcn a = pcn (nd a b) + pcn b := by
  refine ct_add (fun i => ?_) 14
  rw [nd_bit (by omega)]
  cases x : a.testBit i <;> cases y : b.testBit i
  · rfl
  · have := h i y; rw [x] at this; cases this
  · rfl
  · rfl
theorem pcn_zero {a : Nat} (ha : a < 16384) (h : pcn a = 0) : a = 0 := nat_ext (n := 14) ha (by decide) (fun i hi => by rw [ct_zero 14 h i hi]; simp)
theorem sub_pcn {a b : Nat} (ha : a < 16384) (h : ∀ i, b.testBit i = true → a.testBit i = true) (e : pcn a = pcn b) : a = b := by
  have h1 := pcn_nd ha h
  have h2 : nd a b = 0 := pcn_zero (Nat.lt_of_le_of_lt (nd_le _ _) ha) (by omega)
  apply Nat.eq_of_testBit_eq
  intro i
  have h3 : (nd a b).testBit i = false := by rw [h2]; simp
  rw [nd_bit (by omega)] at h3
  cases x : a.testBit i <;> cases y : b.testBit i
  · rfl
  · have := h i y; rw [x] at this; cases this
  · rw [x, y] at h3; cases h3
  · rfl
def alk (F : Nat) (ef : Nat → Nat) (t : Nat) : Nat := bs t (fun u => F.testBit u && decide (ef u = ef t))
def skb (ok : Nat → Bool) (tk ms : Nat) : Option Nat := if pcn (nd ms tk) = 0 ∧ ok tk = true then some tk else none
def sk (F : Nat) (ef : Nat → Nat) (ok : Nat → Bool) : Nat → Nat → Nat → Nat → Option Nat
  | 0, n, tk, ms => if n = 0 then skb ok tk ms else none
  | t + 1, n, tk, ms =>
    if n = 0 then skb ok tk ms
    else if n < pcn (nd ms tk) then none
    else if n ≤ pcn (F &&& (2 ^ (t + 1) - 1)) then
      match (if ms.testBit t then none else sk F ef ok t n tk ms) with
      | some A => some A
      | none => if F.testBit t then sk F ef ok t (n - 1) (tk ||| 2 ^ t) (ms ||| alk F ef t) else none
    else none
theorem or_bit {a t i : Nat} : (a ||| 2 ^ t).testBit i = (a.testBit i || decide (t = i)) := by rw [Nat.testBit_or, Nat.testBit_two_pow]
theorem skb_some {ok : Nat → Bool} {tk ms A : Nat} (h : skb ok tk ms = some A) : A = tk ∧ ok A = true := by
  unfold skb at h
  split at h
  · next c => injection h with h; subst h; exact ⟨rfl, c.2⟩
  · cases h
/-- what is found -/
theorem sk_snd {F : Nat} {ef : Nat → Nat} {ok : Nat → Bool} : ∀ t n tk ms A, t ≤ 14 → (∀ i, i < t → tk.testBit i = false) → (∀ i, tk.testBit i = true → F.testBit i = true) → sk F ef ok t n tk ms = some A → ok A = true ∧ pcn A = pcn tk + n ∧ (∀ i, A.testBit i = true → F.testBit i = true) ∧ (∀ i, t ≤ i → A.testBit i = tk.testBit i) := by
  intro t
  induction t with
  | zero =>
    intro n tk ms A _ _ h2 h
    rw [sk] at h
    split at h
    · next c =>
      obtain ⟨rfl, ho⟩ := skb_some h
      exact ⟨ho, by omega, h2, fun _ _ => rfl⟩
    · cases h
  | succ t ih =>
    intro n tk ms A ht h1 h2 h
    rw [sk] at h
    split at h
    · next c =>
      obtain ⟨rfl, ho⟩ := skb_some h
      exact ⟨ho, by omega, h2, fun _ _ => rfl⟩
    · next c =>
      split at h
      · cases h
      · split at h
        · split at h
          · next A' e =>
            injection h with h
            subst h
            split at e
            · cases e
            · obtain ⟨a1, a2, a3, a4⟩ := ih n tk ms A' (by omega) (fun i hi => h1 i (by omega)) h2 e
              exact ⟨a1, a2, a3, fun i hi => a4 i (by omega)⟩
          · split at h
            · next hF =>
              obtain ⟨a1, a2, a3, a4⟩ := ih (n - 1) (tk ||| 2 ^ t) _ A (by omega) (fun i hi => by rw [or_bit, h1 i (by omega)]; simp; omega) (fun i hi => by
                rw [or_bit] at hi
                by_cases e : t = i
                · rw [← e]; exact hF
                · simp [e] at hi; exact h2 i hi) h
              rw [pcn_set (by omega) (h1 t (by omega))] at a2
              refine ⟨a1, by omega, a3, fun i hi => ?_⟩
              rw [a4 i (by omega), or_bit]
              have : ¬ t = i := by omega
              simp [this]
            · cases h
        · cases h
/-- what is there is found, or less -/
theorem sk_cpl {F : Nat} {ef : Nat → Nat} {ok : Nat → Bool} {A : Nat} (hA : A < 16384) (hF : ∀ i, A.testBit i = true → F.testBit i = true) (ho : ok A = true) (hcl : ∀ i j, A.testBit i = true → (alk F ef i).testBit j = true → A.testBit j = true) : ∀ t n tk ms, t ≤ 14 → tk < 16384 → ms < 16384 → (∀ i, i < t → tk.testBit i = false) → (∀ i, t ≤ i → A.testBit i = tk.testBit i) → (∀ i, ms.testBit i = true → A.testBit i = true) → pcn A = pcn tk + n → ∃ A', sk F ef ok t n tk ms = some A' ∧ A' ≤ A := by
  have base : ∀ t tk ms, ms < 16384 → (∀ i, i < t → tk.testBit i = false) → (∀ i, t ≤ i → A.testBit i = tk.testBit i) → (∀ i, ms.testBit i = true → A.testBit i = true) → pcn A = pcn tk → ∃ A', skb ok tk ms = some A' ∧ A' ≤ A := by
    intro t tk ms hms h1 h2 h3 h4
    have e : A = tk := sub_pcn hA (fun i hi => by
      rcases Nat.lt_or_ge i t with a | a
      · rw [h1 i a] at hi; cases hi
      · rw [h2 i a]; exact hi) h4
    subst e
    refine ⟨A, ?_, Nat.le_refl _⟩
    unfold skb
    have z : nd ms A = 0 := by
      apply Nat.eq_of_testBit_eq
      intro i
      rw [nd_bit (by omega)]
      cases x : ms.testBit i
      · simp
      · rw [h3 i x]; simp
    rw [if_pos ⟨by rw [z]; rfl, ho⟩]
  intro t
  induction t with
  | zero =>
    intro n tk ms _ htk hms h1 h2 h3 h4
    have e : A = tk := Nat.eq_of_testBit_eq (fun i => h2 i (by omega))
    have hn : n = 0 := by rw [e] at h4; omega
    rw [sk, if_pos hn]
    exact base 0 tk ms hms h1 h2 h3 (by omega)
  | succ t ih =>
    intro n tk ms ht htk hms h1 h2 h3 h4
    rw [sk]
    by_cases hn : n = 0
    · rw [if_pos hn]
      exact base (t + 1) tk ms hms h1 h2 h3 (by omega)
    · have sb : ∀ i, tk.testBit i = true → A.testBit i = true := fun i hi => by
        rcases Nat.lt_or_ge i (t + 1) with a | a
        · rw [h1 i a] at hi; cases hi
        · rw [h2 i a]; exact hi
      have hd := pcn_nd hA sb
      have l1 : pcn (nd ms tk) ≤ pcn (nd A tk) := pcn_mono (fun i hi => by
        rw [nd_bit (by omega)] at hi ⊢
        simp at hi
        simp [h3 i hi.1, hi.2])
      have l2 : pcn (nd A tk) ≤ pcn (F &&& (2 ^ (t + 1) - 1)) := pcn_mono (fun i hi => by
        rw [nd_bit (by omega)] at hi
        simp at hi
        have hi1 : i < t + 1 := by
          apply Classical.byContradiction
          intro q
          have := h2 i (by omega)
          rw [hi.1, hi.2] at this
          cases this
        rw [Nat.testBit_and, hF i hi.1, Nat.testBit_two_pow_sub_one]
        simp [hi1])
      rw [if_neg hn, if_neg (by omega), if_pos (by omega)]
      cases hb : A.testBit t with
      | false =>
        have hm : ms.testBit t = false := by
          cases x : ms.testBit t
          · rfl
          · rw [h3 t x] at hb; cases hb
        rw [hm, if_neg (by decide)]
        obtain ⟨A', e1, e2⟩ := ih n tk ms (by omega) htk hms (fun i hi => h1 i (by omega)) (fun i hi => by
          by_cases e : i = t
          · subst e; rw [hb, h1 i (by omega)]
          · exact h2 i (by omega)) h3 h4
        rw [e1]
        exact ⟨A', rfl, e2⟩
      | true =>
        have second : ∃ A', (if F.testBit t then sk F ef ok t (n - 1) (tk ||| 2 ^ t) (ms ||| alk F ef t) else none) = some A' ∧ A' ≤ A := by
          rw [if_pos (hF t hb)]
          have b1 : (2 : Nat) ^ t < 2 ^ 14 := Nat.pow_lt_pow_right (by decide) (by omega)
          have b2 : alk F ef t < 2 ^ 14 := Nat.lt_of_lt_of_le (bs_lt _ _) (Nat.pow_le_pow_right (by decide) (by omega))
          exact ih (n - 1) (tk ||| 2 ^ t) (ms ||| alk F ef t) (by omega) (Nat.or_lt_two_pow (n := 14) htk b1) (Nat.or_lt_two_pow (n := 14) hms b2) (fun i hi => by rw [or_bit, h1 i (by omega)]; simp; omega) (fun i hi => by
            rw [or_bit]
            by_cases e : t = i
            · subst e; simp [hb]
            · rw [h2 i (by omega)]; simp [e]) (fun i hi => by
            rw [Nat.testBit_or] at hi
            cases x : ms.testBit i
            · rw [x] at hi; exact hcl t i hb (by simpa using hi)
            · exact h3 i x) (by rw [pcn_set (by omega) (h1 t (by omega))]; omega)
        cases hm : ms.testBit t with
        | true => rw [if_pos rfl]; exact second
        | false =>
          rw [if_neg (by decide)]
          cases hs : sk F ef ok t n tk ms with
          | none => exact second
          | some A' =>
            refine ⟨A', rfl, Nat.le_of_lt (lt_bit (t := t) ?_ hb (fun i hi => ?_))⟩
            · have := (sk_snd t n tk ms A' (by omega) (fun i hi => h1 i (by omega)) (fun i hi => hF i (sb i hi)) hs).2.2.2
              rw [this t (Nat.le_refl t), h1 t (by omega)]
            · have := (sk_snd t n tk ms A' (by omega) (fun i hi => h1 i (by omega)) (fun i hi => hF i (sb i hi)) hs).2.2.2
              rw [this i (by omega), h2 i (by omega)]
/-- a set that may be told -/
def Oks (F : Nat) (ok : Nat → Bool) (A : Nat) : Prop := (∀ i, A.testBit i = true → F.testBit i = true) ∧ ok A = true
theorem sub_lt14 {F A : Nat} (hF : F < 16384) (h : ∀ i, A.testBit i = true → F.testBit i = true) : A < 16384 := by
  have e : A = A &&& F := Nat.eq_of_testBit_eq (fun i => by
    rw [Nat.testBit_and]
    cases x : A.testBit i
    · rfl
    · rw [h i x]; rfl)
  rw [e]
  exact Nat.lt_of_le_of_lt Nat.and_le_right hF
/-- the search over all things: the least of that size -/
theorem sk_top {F : Nat} {ef : Nat → Nat} {ok : Nat → Bool} (hF : F < 16384) (hsw : ∀ A i j, Oks F ok A → A.testBit i = true → A.testBit j = false → F.testBit j = true → ef j = ef i → ok (swp A i j) = true) (n : Nat) : (∀ A, sk F ef ok 14 n 0 0 = some A → Oks F ok A ∧ pcn A = n ∧ ∀ B, Oks F ok B → pcn B = n → A ≤ B) ∧ (sk F ef ok 14 n 0 0 = none → ∀ B, Oks F ok B → pcn B ≠ n) := by
  have key : ∀ B, Oks F ok B → pcn B = n → ∃ A', sk F ef ok 14 n 0 0 = some A' ∧ A' ≤ B := by
    intro B
    induction B using Nat.strongRecOn with
    | ind B ih =>
      intro hB hn
      have hB14 := sub_lt14 hF hB.1
      by_cases hc : ∀ i j, B.testBit i = true → (alk F ef i).testBit j = true → B.testBit j = true
      · obtain ⟨A', e1, e2⟩ := sk_cpl hB14 hB.1 hB.2 hc 14 n 0 0 (by omega) (by omega) (by omega) (fun i _ => by simp) (fun i hi => by
          rw [Nat.testBit_lt_two_pow (Nat.lt_of_lt_of_le hB14 (Nat.pow_le_pow_right (n := 2) (by decide) hi))]; simp) (fun i hi => by simp at hi) (by rw [hn]; show n = pcn 0 + n; rw [show pcn 0 = 0 by decide]; omega)
        exact ⟨A', e1, e2⟩
      · have ⟨i, hc⟩ := Classical.not_forall.mp hc
        have ⟨j, hc⟩ := Classical.not_forall.mp hc
        have ⟨hi, hc⟩ := Classical.not_imp.mp hc
        have ⟨hj, hbj⟩ := Classical.not_imp.mp hc
        have hbj : B.testBit j = false := by simpa using hbj
        rw [alk, bs_bit] at hj
        simp at hj
        obtain ⟨hji, hFj, he⟩ := hj
        have hi14 : i < 14 := bit_lt (P := 14) hB14 hi
        have hp := pcn_swp (T := 14) (Nat.le_refl 14) hB14 hi hbj (by omega)
        have hl := swp_lt hB14 hi hji
        obtain ⟨A', e1, e2⟩ := ih _ hl ⟨fun k hk => by
          rw [swp_bit hB14] at hk
          by_cases e : j = k
          · rw [← e]; exact hFj
          · simp [e] at hk; exact hB.1 k hk.1, hsw B i j hB hi hbj hFj he⟩ (by rw [hp.1, hn])
        exact ⟨A', e1, by omega⟩
  refine ⟨fun A hA => ?_, fun hN B hB hn => ?_⟩
  · obtain ⟨a1, a2, a3, a4⟩ := sk_snd 14 n 0 0 A (Nat.le_refl 14) (fun i _ => by simp) (fun i hi => by simp at hi) hA
    refine ⟨⟨a3, a1⟩, by rw [a2, show pcn 0 = 0 by decide]; omega, fun B hB hn => ?_⟩
    obtain ⟨A', e1, e2⟩ := key B hB hn
    rw [hA] at e1
    injection e1 with e1
    omega
  · obtain ⟨A', e1, _⟩ := key B hB hn
    rw [hN] at e1
    cases e1
/-- the best of all -/
def Bst (F : Nat) (ok : Nat → Bool) (A : Nat) : Prop := Oks F ok A ∧ ∀ B, Oks F ok B → pcn A < pcn B ∨ (pcn A = pcn B ∧ A ≤ B)
theorem Bst.uq {F : Nat} {ok : Nat → Bool} {A B : Nat} (h1 : Bst F ok A) (h2 : Bst F ok B) : A = B := by
  have a := h1.2 B h2.1
  have b := h2.2 A h1.1
  omega
