/-! the reference finds a key -/
theorem m_key_end {tb : Nat → Nat} {L a b n : Nat} {m : Mem} (k4 : Int32 → Int32 → Mem → Option (Int32 × Mem)) (hn : n < 20) : ∀ fu k, k ≤ wln n → wln n - k < fu → X12_keyAt_b97 k4 fu (nI n) (nI (okw.getD n 0 + k)) m = k4 (nI (n + 1)) (nI (okw.getD (n + 1) 0)) m := by
  obtain ⟨l1, l2, l3, l4, l5, l6⟩ := kw_len n hn
  intro fu
  induction fu with
  | zero => intro k _ h; omega
  | succ fu ih =>
    intro k hk hf
    rw [X12_keyAt_b97, K1, nadd, nadd]
    rcases Nat.eq_or_lt_of_le hk with he | hl
    · subst he
      rw [s_chr (c := 32) (by decide) (show okw.getD n 0 + wln n < 107 by omega) (by omega) (kw_end n hn), bq, K32, if_pos rfl, l6]
    · obtain ⟨c1, c2, c3, c4⟩ := kw_chr n hn k hl
      rw [s_chr (by decide) (show okw.getD n 0 + k < 107 by omega) (by omega) c2, bq, K32, jeq_f (by omega) (by omega) (by omega)]
      exact ih (k + 1) (by omega) (by omega)
theorem m_key_one {tb : Nat → Nat} {L a b n : Nat} {m : Mem} (k4 : Int32 → Int32 → Mem → Option (Int32 × Mem)) (hL : L ≤ 900) (htb : ∀ i, i < L → tb i < 256) (h6 : gi m 0 6 = nI a) (h7 : gi m 0 7 = nI b) (hbL : b ≤ L) (hab : a ≤ b) (ht : ∀ i, i < L → gi m 3 i = nI (tb i)) (hn : n < 20) : ∀ fu k, k ≤ wln n → wln n - k < fu → a + k ≤ b → (∀ i, i < k → tb (a + i) = wch n i) → X12_keyAt_b15 k4 fu (nI n) (nI (okw.getD n 0)) (nI k) m = if mt tb a b n then some (nI n, m) else k4 (nI (n + 1)) (nI (okw.getD (n + 1) 0)) m := by
  obtain ⟨l1, l2, l3, l4, l5, l6⟩ := kw_len n hn
  have out : X12_keyAt_b97 k4 FU (nI n) (nI (okw.getD n 0)) m = k4 (nI (n + 1)) (nI (okw.getD (n + 1) 0)) m := m_key_end (tb := tb) (L := L) (a := a) (b := b) k4 hn FU 0 (by omega) (by unfold FU; omega)
  have b69 : ∀ k, k ≤ wln n → a + k ≤ b → X12_keyAt_b69 k4 (nI n) (nI (okw.getD n 0)) (nI k) m = if k = wln n ∧ a + k = b then some (nI n, m) else k4 (nI (n + 1)) (nI (okw.getD (n + 1) 0)) m := by
    intro k hk hkb
    rw [X12_keyAt_b69, nadd]
    rcases Nat.eq_or_lt_of_le hk with he | hl
    · subst he
      rw [s_chr (c := 32) (by decide) (show okw.getD n 0 + wln n < 107 by omega) (by omega) (kw_end n hn), bq, K32, if_pos rfl, h6, h7, nadd]
      by_cases e : a + wln n = b
      · rw [if_pos (by rw [e]), if_pos ⟨rfl, e⟩]
      · rw [jeq_f e (by omega) (by omega), if_neg (fun q => e q.2), out]
    · obtain ⟨c1, c2, c3, c4⟩ := kw_chr n hn k hl
      rw [s_chr (by decide) (show okw.getD n 0 + k < 107 by omega) (by omega) c2, bq, K32, jeq_f (by omega) (by omega) (by omega), if_neg (fun q => by omega), out]
  intro fu
  induction fu with
  | zero => intro k _ h; omega
  | succ fu ih =>
    intro k hk hf hkb hp
    rw [X12_keyAt_b15, nadd, K1]
    rcases Nat.eq_or_lt_of_le hk with he | hl
    · subst he
      rw [s_chr (c := 32) (by decide) (show okw.getD n 0 + wln n < 107 by omega) (by omega) (kw_end n hn), bq, K32, if_pos rfl, b69 _ hk hkb]
      by_cases e : a + wln n = b
      · rw [if_pos ⟨rfl, e⟩, if_pos ⟨e.symm, hp⟩]
      · rw [if_neg (fun q => e q.2), if_neg (fun q => e q.1.symm)]
    · obtain ⟨c1, c2, c3, c4⟩ := kw_chr n hn k hl
      have bk := b69 k hk hkb
      rw [if_neg (fun q => by omega)] at bk
      rw [s_chr (by decide) (show okw.getD n 0 + k < 107 by omega) (by omega) c2, bq, K32, jeq_f (by omega) (by omega) (by omega), h6, h7, nadd, bk]
      by_cases e : a + k = b
      · rw [jle_t (by omega) (by omega), if_neg (fun q => by have := q.1; omega)]
      · have htk := htb (a + k) (by omega)
        rw [jle_f (by omega) (by omega), chk_in (by omega) (by omega), ix_nI (by omega), ht _ (by omega), s_chr (by decide) (show okw.getD n 0 + k < 107 by omega) (by omega) c2, bq, nadd]
        by_cases e2 : tb (a + k) = wch n k
        · rw [if_pos (by rw [e2])]
          exact ih (k + 1) (by omega) (by omega) (by omega) (fun i hi => by
            by_cases ei : i = k
            · rw [ei]; exact e2
            · exact hp i (by omega))
        · rw [jeq_f e2 (by omega) (by omega), if_neg (fun q => e2 (q.2 k hl)), bk]
theorem m_key {tb : Nat → Nat} {L a b : Nat} {m : Mem} (hL : L ≤ 900) (htb : ∀ i, i < L → tb i < 256) (h6 : gi m 0 6 = nI a) (h7 : gi m 0 7 = nI b) (hbL : b ≤ L) (hab : a ≤ b) (ht : ∀ i, i < L → gi m 3 i = nI (tb i)) : ∀ d fu n, n + d = 20 → d < fu → X12_keyAt_b4 fu (nI n) (nI (okw.getD n 0)) m = some (nI (key tb a b d n), m) := by
  intro d
  induction d with
  | zero =>
    intro fu n hn hf
    match fu, hf with
    | fu + 1, _ =>
      have : n = 20 := by omega
      subst this
      rw [X12_keyAt_b4, s_len (by decide), bq]
      rfl
  | succ d ih =>
    intro fu n hn hf
    match fu, hf with
    | fu + 1, hf =>
      obtain ⟨l1, l2, l3, l4, l5, l6⟩ := kw_len n (by omega)
      rw [X12_keyAt_b4, s_len (by decide), bq, jle_f (show okw.getD n 0 < strL.getD 21 0 from (by have : strL.getD 21 0 = 107 := rfl; omega)) (by decide), K0, m_key_one (X12_keyAt_b4 fu) hL htb h6 h7 hbL hab ht (by omega) FU 0 (by omega) (by unfold FU; omega) (by omega) (fun i hi => by omega), key]
      by_cases hm : mt tb a b n
      · rw [if_pos hm, if_pos hm]
      · rw [if_neg hm, if_neg hm]
        exact ih fu (n + 1) (by omega) (by omega)
theorem m_keyAt {tb : Nat → Nat} {L a b : Nat} {m : Mem} (hL : L ≤ 900) (htb : ∀ i, i < L → tb i < 256) (h6 : gi m 0 6 = nI a) (h7 : gi m 0 7 = nI b) (hbL : b ≤ L) (hab : a ≤ b) (ht : ∀ i, i < L → gi m 3 i = nI (tb i)) : X12_keyAt m = some (nI (key tb a b 20 0), m) := by
  rw [X12_keyAt, K0, K1]
  exact m_key hL htb h6 h7 hbL hab ht 20 FU 0 rfl (by unfold FU; omega)
/-! stretches of a text -/
def stx (tb : Nat → Nat) (f : Nat → Bool) (L a e : Nat) : Prop := a ≤ e ∧ e ≤ L ∧ (∀ i, a ≤ i → i < e → f (tb i) = true) ∧ (e = L ∨ f (tb e) = false)
theorem stx_ex (tb : Nat → Nat) (f : Nat → Bool) (L : Nat) : ∀ d a, a + d = L → ∃ e, stx tb f L a e := by
  intro d
  induction d with
  | zero => intro a h; exact ⟨a, Nat.le_refl _, by omega, fun i _ _ => by omega, Or.inl (by omega)⟩
  | succ d ih =>
    intro a h
    cases hf : f (tb a) with
    | false => exact ⟨a, Nat.le_refl _, by omega, fun i _ _ => by omega, Or.inr hf⟩
    | true =>
      obtain ⟨e, h1, h2, h3, h4⟩ := ih (a + 1) (by omega)
      refine ⟨e, by omega, h2, fun i hi hie => ?_, h4⟩
      by_cases ei : i = a
      · rw [ei]; exact hf
      · exact h3 i (by omega) hie
def spc (b : Nat) : Bool := b == 32 || b == 10
def lwr (b : Nat) : Bool := decide (97 ≤ b) && decide (b ≤ 122)
def dgt (b : Nat) : Bool := decide (48 ≤ b) && decide (b ≤ 57)
theorem sx_tab : ∀ b, b < 256 → (sx b = nI 32 ↔ b = 32) ∧ (sx b = nI 10 ↔ b = 10) ∧ (decide (sx b < nI 97) || decide (nI 122 < sx b)) = !lwr b ∧ (decide (sx b < nI 48) || decide (nI 57 < sx b)) = !dgt b ∧ (decide (nI b < nI 97) || decide (nI 122 < nI b)) = !lwr b ∧ (decide (nI b < nI 48) || decide (nI 57 < nI b)) = !dgt b := by decide +kernel
theorem K97 : (97 : Int32) = nI 97 := by decide
theorem K122 : (122 : Int32) = nI 122 := by decide
theorem K48 : (48 : Int32) = nI 48 := by decide
theorem K57 : (57 : Int32) = nI 57 := by decide
theorem two_if {β : Type} {P Q : Prop} {dP : Decidable P} {dQ : Decidable Q} {x y : β} {c : Bool} (h : (decide P || decide Q) = !c) : (@ite β P dP x (@ite β Q dQ x y)) = if c then y else x := by
  by_cases hP : P
  · rw [if_pos hP]
    cases c
    · rfl
    · simp [hP] at h
  · rw [if_neg hP]
    by_cases hQ : Q
    · rw [if_pos hQ]
      cases c
      · rfl
      · simp [hQ] at h
    · rw [if_neg hQ]
      cases c
      · simp [hP, hQ] at h
      · rfl
theorem c_isLetter {b : Nat} (hb : b < 256) (m : Mem) : X7_isLetter (sx b) m = some (nI (if lwr b then 1 else 0), m) := by
  rw [X7_isLetter, K97, K122, two_if (sx_tab b hb).2.2.1]
  cases lwr b <;> rfl
theorem c_isDigit {b : Nat} (hb : b < 256) (m : Mem) : X7_isDigit (sx b) m = some (nI (if dgt b then 1 else 0), m) := by
  rw [X7_isDigit, K48, K57, two_if (sx_tab b hb).2.2.2.1]
  cases dgt b <;> rfl
theorem m_isSmall {b : Nat} (hb : b < 256) (m : Mem) : X12_isSmall (nI b) m = some (nI (if lwr b then 1 else 0), m) := by
  rw [X12_isSmall, K97, K122, two_if (sx_tab b hb).2.2.2.2.1]
  cases lwr b <;> rfl
theorem m_isDigit {b : Nat} (hb : b < 256) (m : Mem) : X12_isDigit (nI b) m = some (nI (if dgt b then 1 else 0), m) := by
  rw [X12_isDigit, K48, K57, two_if (sx_tab b hb).2.2.2.2.2]
  cases dgt b <;> rfl
theorem m_isSmallN (m : Mem) : X12_isSmall NO m = some (nI 0, m) := by
  rw [X12_isSmall, if_pos (by decide)]; rfl
theorem m_isDigitN (m : Mem) : X12_isDigit NO m = some (nI 0, m) := by
  rw [X12_isDigit, if_pos (by decide)]; rfl
theorem m_see_t {tb : Nat → Nat} {L k : Nat} {m : Mem} (hL : L ≤ 900) (h8 : gi m 0 8 = nI L) (ht : ∀ i, i < L → gi m 3 i = nI (tb i)) (hk : k < L) : X12_see (nI k) m = some (nI (tb k), m) := by
  rw [X12_see, h8, jle_f (by omega) (by omega), chk_in (by omega) (by omega), ix_nI (by omega), ht k hk]
theorem m_see_f {L k : Nat} {m : Mem} (h8 : gi m 0 8 = nI L) (hk : L ≤ k) (hk2 : k < 2147483648) : X12_see (nI k) m = some (NO, m) := by
  rw [X12_see, h8, jle_t (by omega) (by omega)]
  rfl
