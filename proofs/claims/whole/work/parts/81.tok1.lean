/-! words and signs of a text -/
def kwd : List (List Nat) := [[116, 104, 105, 110, 103], [119, 97, 110, 101, 115], [112, 101, 114, 115, 111, 110], [97, 103, 101], [105, 115], [108, 111, 97, 116, 104, 101, 115], [103, 111, 111, 100], [109, 97, 121], [98, 97, 114], [114, 111, 111, 109], [111, 114], [97, 110, 100], [110, 111, 116], [99, 111, 109, 109, 111, 110], [114, 97, 114, 101], [105, 110, 115, 117, 108, 116], [108, 105, 115, 116, 115], [97, 112, 97, 114, 116], [111, 108, 100, 101, 115, 116], [121, 101, 97, 114]]
/-- where the class keeps the n-th word -/
def pkw : List Nat := [1, 2, 3, 4, 5, 6, 7, 15, 19, 20, 18, 17, 16, 8, 9, 10, 11, 12, 13, 14]
/-- where the n-th word begins among the keys -/
def okw : List Nat := [1, 7, 13, 20, 24, 27, 35, 40, 44, 48, 53, 56, 60, 64, 71, 76, 83, 89, 95, 102, 107]
def wln (n : Nat) : Nat := (kwd.getD n []).length
def wch (n i : Nat) : Nat := (kwd.getD n []).getD i 0
theorem kw_len : ∀ n, n < 20 → strL.getD (pkw.getD n 0) 0 = wln n ∧ pkw.getD n 0 < 22 ∧ 1 ≤ wln n ∧ wln n ≤ 7 ∧ okw.getD n 0 + wln n < 107 ∧ okw.getD (n + 1) 0 = okw.getD n 0 + wln n + 1 := by decide +kernel
theorem kw_chr : ∀ n, n < 20 → ∀ i, i < wln n → (strB.getD (pkw.getD n 0) []).getD i 0 = nI (wch n i) ∧ (strB.getD 21 []).getD (okw.getD n 0 + i) 0 = nI (wch n i) ∧ wch n i < 128 ∧ 97 ≤ wch n i := by decide +kernel
theorem kw_end : ∀ n, n < 20 → (strB.getD 21 []).getD (okw.getD n 0 + wln n) 0 = nI 32 := by decide +kernel
theorem kw_dif : ∀ n, n < 20 → ∀ n', n' < 20 → n ≠ n' → wln n = wln n' → ∃ i, i < wln n ∧ wch n i ≠ wch n' i := by
  have : ∀ n, n < 20 → ∀ n', n' < 20 → n ≠ n' → wln n = wln n' → ((List.range (wln n)).any (fun i => wch n i != wch n' i)) = true := by decide +kernel
  intro n hn n' hn' hne hl
  have h := this n hn n' hn' hne hl
  rw [List.any_eq_true] at h
  obtain ⟨i, hi, hi2⟩ := h
  exact ⟨i, List.mem_range.mp hi, by simpa using hi2⟩
theorem str_len : ∀ k, k < 22 → nI (strL.getD k 0) >>> ((0 : Int32) &&& 31) = nI (strL.getD k 0) ∧ strL.getD k 0 ≤ 107 := by decide +kernel
theorem s_len {k : Nat} (hk : k < 22) (m : Mem) : J0_length_8abf5 k m = some (nI (strL.getD k 0), m) := by
  rw [J0_length_8abf5, J0_coder_7d493, if_neg (by decide), bq, (str_len k hk).1]
theorem chr_ok : ∀ c, c < 256 → ((((nI c &&& 255) : Int32).toUInt32 % 65536).toInt32) = nI c ∧ (narrow .char (.int (nI c)) = .int (nI c)) := by decide +kernel
theorem s_chr {k i c : Nat} (hk : k < 22) (hi : i < strL.getD k 0) (hc : c < 256) (h : (strB.getD k []).getD i 0 = nI c) (m : Mem) : J0_charAt_5068e k (nI i) m = some (nI c, m) := by
  have hl := (str_len k hk).2
  rw [K0] at h
  have e : J1_charAt_3b067 k (nI i) m = some (nI c, m) := by
    rw [J1_charAt_3b067, J0_checkIndex_df160, J3_checkIndex_8e157, K0, if_neg (nI_nneg (by omega)), jlt_t hi (by omega), bq, bq, chk_in (by omega) (by omega), ix_nI (by omega), h, (chr_ok c hc).1, decide_eq_true (chr_ok c hc).2]
    rfl
  rw [J0_charAt_5068e, J0_isLatin1_aae02, if_neg (show ¬ (1 : Int32) = 0 by decide), if_pos rfl, bq, if_neg (by decide), e, bq, decide_eq_true (chr_ok c hc).2]
  rfl
/-- the text from a to b is the n-th word -/
abbrev mt (tb : Nat → Nat) (a b n : Nat) : Prop := b = a + wln n ∧ ∀ i, i < wln n → tb (a + i) = wch n i
theorem mt_uq {tb : Nat → Nat} {a b n n' : Nat} (hn : n < 20) (hn' : n' < 20) (h : mt tb a b n) (h' : mt tb a b n') : n = n' := by
  apply Classical.byContradiction
  intro q
  obtain ⟨i, h1, h2⟩ := kw_dif n hn n' hn' q (by have := h.1; have := h'.1; omega)
  have e1 := h.2 i h1
  have e2 := h'.2 i (by have := h.1; have := h'.1; omega)
  omega
theorem sx_neg : ∀ b, b < 256 → 128 ≤ b → sx b < nI 0 := by decide +kernel
theorem sx_eq : ∀ b, b < 256 → ∀ c, c < 128 → (sx b = nI c ↔ b = c) := by
  intro b hb c hc
  by_cases h : b < 128
  · rw [sx, if_pos h]
    constructor
    · intro q
      exact nI_inj (by omega) (by omega) q
    · intro q; rw [q]
  · have := sx_neg b hb (by omega)
    constructor
    · intro q
      rw [q] at this
      exact absurd this (nI_nneg (by omega))
    · intro q; omega
theorem c_isWord_loop {tb : Nat → Nat} {L a b n : Nat} {m : Mem} (hL : L ≤ 900) (htb : ∀ i, i < L → tb i < 256) (h4 : gi m 39 4 = nI L) (h6 : gi m 39 6 = nI a) (ht : ∀ i, i < L → gi m 1 i = sx (tb i)) (hn : n < 20) (hb : a + wln n ≤ L) : ∀ fu k, k ≤ wln n → wln n - k < fu → (∀ i, i < k → tb (a + i) = wch n i) → X7_isWord_b28 (pkw.getD n 0) fu (nI k) m = some (nI (if mt tb a (a + wln n) n then 1 else 0), m) := by
  obtain ⟨l1, l2, l3, l4, l5, l6⟩ := kw_len n hn
  intro fu
  induction fu with
  | zero => intro k _ h; omega
  | succ fu ih =>
    intro k hk hf hp
    rw [X7_isWord_b28, s_len l2, bq, l1, h4, h6, nadd]
    rcases Nat.eq_or_lt_of_le hk with he | hl
    · rw [jle_t (by omega) (by omega), if_pos ⟨rfl, fun i hi => hp i (by omega)⟩]
      rfl
    · obtain ⟨c1, c2, c3, c4⟩ := kw_chr n hn k hl
      have htk := htb (a + k) (by omega)
      rw [jle_f (by omega) (by omega), jle_f (by omega) (by omega), chk_in (by omega) (by omega), s_chr l2 (by omega) (by omega) c1, bq, ix_nI (by omega), ht _ (by omega), K1, nadd]
      by_cases e : tb (a + k) = wch n k
      · rw [if_pos ((sx_eq _ htk _ c3).mpr e)]
        exact ih (k + 1) (by omega) (by omega) (fun i hi => by
          by_cases ei : i = k
          · rw [ei]; exact e
          · exact hp i (by omega))
      · rw [if_neg (fun q => e ((sx_eq _ htk _ c3).mp q)), if_neg (fun q => e (q.2 k hl))]
        rfl
theorem c_isWord1 {tb : Nat → Nat} {L a b n : Nat} {m : Mem} (hL : L ≤ 900) (htb : ∀ i, i < L → tb i < 256) (h4 : gi m 39 4 = nI L) (h5 : gi m 39 5 = nI 1) (h6 : gi m 39 6 = nI a) (h7 : gi m 39 7 = nI b) (hab : a ≤ b) (hbL : b ≤ L) (ht : ∀ i, i < L → gi m 1 i = sx (tb i)) (hn : n < 20) : X7_isWord (pkw.getD n 0) m = some (nI (if mt tb a b n then 1 else 0), m) := by
  obtain ⟨l1, l2, l3, l4, l5, l6⟩ := kw_len n hn
  rw [X7_isWord, h5, K1, if_pos rfl, s_len l2, bq, l1, h6, h7, nsub hab, K0]
  by_cases e : b - a = wln n
  · have eb : b = a + wln n := by omega
    rw [if_pos (by rw [e]), c_isWord_loop (b := b) hL htb h4 h6 ht hn (by omega) FU 0 (by omega) (by unfold FU; omega) (fun i hi => by omega), eb]
  · rw [jeq_f e (by omega) (by omega), if_neg (fun q => e (by have := q.1; omega))]
theorem c_isWord0 {C n : Nat} {m : Mem} (h5 : gi m 39 5 = nI C) (hC : C ≠ 1) (hC2 : C < 1000) : X7_isWord (pkw.getD n 0) m = some (nI 0, m) := by
  rw [X7_isWord, h5, K1, jeq_f hC (by omega) (by omega)]
  rfl
/-- the key that stands from a to b -/
def key (tb : Nat → Nat) (a b : Nat) : Nat → Nat → Nat
  | 0, _ => 22
  | d + 1, n => if mt tb a b n then n else key tb a b d (n + 1)
theorem key_iff {tb : Nat → Nat} {a b : Nat} : ∀ d n, n + d = 20 → ∀ n', n' < 20 → n ≤ n' → (key tb a b d n = n' ↔ mt tb a b n') := by
  intro d
  induction d with
  | zero => intro n h n' h1 h2; omega
  | succ d ih =>
    intro n h n' h1 h2
    rw [key]
    by_cases hm : mt tb a b n
    · rw [if_pos hm]
      constructor
      · intro e; rw [← e]; exact hm
      · intro q; exact mt_uq (by omega) h1 hm q
    · rw [if_neg hm]
      by_cases e : n' = n
      · rw [e]
        constructor
        · intro q
          have : ∀ d n, key tb a b d n = 22 ∨ n ≤ key tb a b d n := by
            intro d
            induction d with
            | zero => intro n; exact Or.inl rfl
            | succ d ih => intro n; rw [key]; split
                           · exact Or.inr (Nat.le_refl _)
                           · rcases ih (n + 1) with h | h
                             · exact Or.inl h
                             · exact Or.inr (by omega)
          rcases this d (n + 1) with z | z
          · omega
          · omega
        · intro q; exact absurd q hm
      · exact ih (n + 1) (by omega) n' h1 (by omega)
theorem key_rg {tb : Nat → Nat} {a b : Nat} : ∀ d n, n + d = 20 → key tb a b d n < 20 ∨ key tb a b d n = 22 := by
  intro d
  induction d with
  | zero => intro n _; exact Or.inr rfl
  | succ d ih =>
    intro n h
    rw [key]
    split
    · exact Or.inl (by omega)
    · exact ih (n + 1) (by omega)
