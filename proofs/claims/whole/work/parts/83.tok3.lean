/-! the next token, on both sides -/
def F39 (m m2 : Mem) : Prop := Fr (fun c => c = 39) m m2 ∧ ∀ j, j ≠ 5 → j ≠ 6 → j ≠ 7 → gi m2 39 j = gi m 39 j
def F00 (m m2 : Mem) : Prop := Fr (fun c => c = 0) m m2 ∧ ∀ j, j ≠ 6 → j ≠ 7 → j ≠ 9 → j ≠ 10 → gi m2 0 j = gi m 0 j
theorem F39.rf {m : Mem} : F39 m m := ⟨Fr.rf, fun _ _ _ _ => rfl⟩
theorem F39.tr {m m1 m2 : Mem} (h1 : F39 m m1) (h2 : F39 m1 m2) : F39 m m2 := ⟨h1.1.tr h2.1, fun j a b c => by rw [h2.2 j a b c, h1.2 j a b c]⟩
theorem F39.si {m : Mem} {j : Nat} {v : Int32} (h : j = 5 ∨ j = 6 ∨ j = 7) : F39 m (si m 39 j v) := ⟨Fr.si rfl, fun i a b c => gsi (by omega)⟩
theorem F00.rf {m : Mem} : F00 m m := ⟨Fr.rf, fun _ _ _ _ _ => rfl⟩
theorem F00.tr {m m1 m2 : Mem} (h1 : F00 m m1) (h2 : F00 m1 m2) : F00 m m2 := ⟨h1.1.tr h2.1, fun j a b c d => by rw [h2.2 j a b c d, h1.2 j a b c d]⟩
theorem F00.si {m : Mem} {j : Nat} {v : Int32} (h : j = 6 ∨ j = 7 ∨ j = 9 ∨ j = 10) : F00 m (si m 0 j v) := ⟨Fr.si rfl, fun i a b c d => gsi (by omega)⟩
/-- the text as the class has it, and as the reference has it -/
def CTp (tb : Nat → Nat) (L : Nat) (m : Mem) : Prop := gi m 39 4 = nI L ∧ ∀ i, i < L → gi m 1 i = sx (tb i)
def MTp (tb : Nat → Nat) (L : Nat) (m : Mem) : Prop := gi m 0 8 = nI L ∧ ∀ i, i < L → gi m 3 i = nI (tb i)
theorem CTp.f {tb : Nat → Nat} {L : Nat} {m m2 : Mem} (h : CTp tb L m) (f : F39 m m2) : CTp tb L m2 := ⟨by rw [f.2 4 (by omega) (by omega) (by omega)]; exact h.1, fun i hi => by rw [(f.1 1 (by omega) i).1]; exact h.2 i hi⟩
theorem MTp.f {tb : Nat → Nat} {L : Nat} {m m2 : Mem} (h : MTp tb L m) (f : F00 m m2) : MTp tb L m2 := ⟨by rw [f.2 8 (by omega) (by omega) (by omega) (by omega)]; exact h.1, fun i hi => by rw [(f.1 3 (by omega) i).1]; exact h.2 i hi⟩
theorem c_skip {tb : Nat → Nat} {L a : Nat} (hL : L ≤ 900) (htb : ∀ i, i < L → tb i < 256) : ∀ fu k m, stx tb spc L k a → a - k < fu → CTp tb L m → gi m 39 6 = nI k → ∃ m', F39 m m' ∧ gi m' 39 6 = nI a ∧ X7_next_b8 fu m = X7_next_b60 m' := by
  intro fu
  induction fu with
  | zero => intro k m _ h; omega
  | succ fu ih =>
    intro k m hs hf ht h6
    obtain ⟨s1, s2, s3, s4⟩ := hs
    rw [X7_next_b8, ht.1, h6, K32, K10]
    by_cases e : k = a
    · subst e
      refine ⟨m, F39.rf, h6, ?_⟩
      by_cases hk : k = L
      · rw [jle_t (by omega) (by omega)]
      · have hb := htb k (by omega)
        have tab := sx_tab _ hb
        have hz : spc (tb k) = false := by
          rcases s4 with z | z
          · exact absurd z hk
          · exact z
        rw [spc] at hz
        simp at hz
        rw [jle_f (by omega) (by omega), chk_in (by omega) (by omega), chk_in (by omega) (by omega), ix_nI (by omega), ht.2 k (by omega), if_neg (fun q => hz.1 (tab.1.mp q)), if_neg (fun q => hz.2 (tab.2.1.mp q))]
    · have hb := htb k (by omega)
      have tab := sx_tab _ hb
      have hz := s3 k (Nat.le_refl k) (by omega)
      have go : ∃ m', F39 m m' ∧ gi m' 39 6 = nI a ∧ X7_next_b47 (X7_next_b8 fu) m = X7_next_b60 m' := by
        rw [X7_next_b47, h6, K1, nadd, lq]
        obtain ⟨m', f1, f2, f3⟩ := ih (k + 1) (si m 39 6 (nI (k + 1))) ⟨by omega, s2, fun i hi hie => s3 i (by omega) hie, s4⟩ (by omega) (ht.f (F39.si (by omega))) gss
        exact ⟨m', (F39.si (by omega)).tr f1, f2, f3⟩
      rw [jle_f (by omega) (by omega), chk_in (by omega) (by omega), chk_in (by omega) (by omega), ix_nI (by omega), ht.2 k (by omega)]
      by_cases h32 : tb k = 32
      · rw [if_pos (tab.1.mpr h32)]; exact go
      · rw [if_neg (fun q => h32 (tab.1.mp q))]
        have h10 : tb k = 10 := by
          rw [spc] at hz
          simp [h32] at hz
          exact hz
        rw [if_pos (tab.2.1.mpr h10)]; exact go
theorem c_letters {tb : Nat → Nat} {L e : Nat} (hL : L ≤ 900) (htb : ∀ i, i < L → tb i < 256) : ∀ fu k m, stx tb lwr L k e → e - k < fu → CTp tb L m → gi m 39 7 = nI k → ∃ m', X7_next_b107 fu m = some ((), m') ∧ F39 m m' ∧ gi m' 39 7 = nI e ∧ gi m' 39 5 = gi m 39 5 ∧ gi m' 39 6 = gi m 39 6 := by
  intro fu
  induction fu with
  | zero => intro k m _ h; omega
  | succ fu ih =>
    intro k m hs hf ht h7
    obtain ⟨s1, s2, s3, s4⟩ := hs
    rw [X7_next_b107, ht.1, h7, K0, K1]
    by_cases hk : k = L
    · rw [jle_t (by omega) (by omega)]
      exact ⟨m, rfl, F39.rf, by rw [h7]; congr 1; omega, rfl, rfl⟩
    · have hb := htb k (by omega)
      rw [jle_f (by omega) (by omega), chk_in (by omega) (by omega), ix_nI (by omega), ht.2 k (by omega), c_isLetter hb, bq]
      by_cases he : k = e
      · subst he
        have hz : lwr (tb k) = false := by
          rcases s4 with z | z
          · exact absurd z hk
          · exact z
        rw [hz, if_pos (by decide)]
        exact ⟨m, rfl, F39.rf, h7, rfl, rfl⟩
      · have hz := s3 k (Nat.le_refl k) (by omega)
        rw [hz, if_neg (by decide), h7, nadd, lq]
        obtain ⟨m', f0, f1, f2, f3, f4⟩ := ih (k + 1) (si m 39 7 (nI (k + 1))) ⟨by omega, s2, fun i hi hie => s3 i (by omega) hie, s4⟩ (by omega) (ht.f (F39.si (by omega))) gss
        exact ⟨m', f0, (F39.si (by omega)).tr f1, f2, by rw [f3, gsi (by omega)], by rw [f4, gsi (by omega)]⟩
theorem c_digits {tb : Nat → Nat} {L e : Nat} (hL : L ≤ 900) (htb : ∀ i, i < L → tb i < 256) : ∀ fu k m, stx tb dgt L k e → e - k < fu → CTp tb L m → gi m 39 7 = nI k → ∃ m', X7_next_b153 fu m = X7_next_b192 m' ∧ F39 m m' ∧ gi m' 39 7 = nI e ∧ gi m' 39 6 = gi m 39 6 := by
  intro fu
  induction fu with
  | zero => intro k m _ h; omega
  | succ fu ih =>
    intro k m hs hf ht h7
    obtain ⟨s1, s2, s3, s4⟩ := hs
    rw [X7_next_b153, ht.1, h7, K0, K1]
    by_cases hk : k = L
    · rw [jle_t (by omega) (by omega)]
      exact ⟨m, rfl, F39.rf, by rw [h7]; congr 1; omega, rfl⟩
    · have hb := htb k (by omega)
      rw [jle_f (by omega) (by omega), chk_in (by omega) (by omega), ix_nI (by omega), ht.2 k (by omega), c_isDigit hb, bq]
      by_cases he : k = e
      · subst he
        have hz : dgt (tb k) = false := by
          rcases s4 with z | z
          · exact absurd z hk
          · exact z
        rw [hz, if_pos (by decide)]
        exact ⟨m, rfl, F39.rf, h7, rfl⟩
      · have hz := s3 k (Nat.le_refl k) (by omega)
        rw [hz, if_neg (by decide), h7, nadd, lq]
        obtain ⟨m', f0, f1, f2, f4⟩ := ih (k + 1) (si m 39 7 (nI (k + 1))) ⟨by omega, s2, fun i hi hie => s3 i (by omega) hie, s4⟩ (by omega) (ht.f (F39.si (by omega))) gss
        exact ⟨m', f0, (F39.si (by omega)).tr f1, f2, by rw [f4, gsi (by omega)]⟩
def sgl : List Nat := [59, 58, 43, 45, 42, 40, 41, 91, 93, 61, 60, 62]
theorem sg_chr : ∀ i, i < 12 → (strB.getD 0 []).getD i (nI 0) = nI (sgl.getD i 0) ∧ sgl.getD i 0 < 128 := by decide +kernel
def ckl : List (Nat × Nat) := (List.range 20).map (fun k => (1, k)) ++ [(1, 22), (0, 24), (2, 23), (3, 25), (59, 30), (58, 31), (43, 32), (45, 33), (42, 34), (40, 35), (41, 36), (91, 37), (93, 38), (61, 39), (60, 40), (62, 41)]
def CK (C K : Nat) : Prop := ckl.contains (C, K) = true
theorem CK.of {C K : Nat} (h : CK C K) (P : Nat → Nat → Bool) (hP : ckl.all (fun q => P q.1 q.2) = true) : P C K = true := by
  have h1 : (C, K) ∈ ckl := by
    rw [CK, List.contains_iff_mem] at h
    exact h
  exact List.all_eq_true.mp hP (C, K) h1
theorem CK.w {C K : Nat} (h : CK C K) : K < 42 ∧ C < 100 ∧ (C = 1 ↔ (K < 20 ∨ K = 22)) := of_decide_eq_true (h.of (fun C K => decide (K < 42 ∧ C < 100 ∧ (C = 1 ↔ (K < 20 ∨ K = 22)))) (by decide +kernel))
theorem CK.s {C K : Nat} (h : CK C K) : (C = 0 ↔ K = 24) ∧ (C = 2 ↔ K = 23) ∧ (C = 3 ↔ K = 25) ∧ (C = 59 ↔ K = 30) ∧ (C = 58 ↔ K = 31) ∧ (C = 43 ↔ K = 32) ∧ (C = 45 ↔ K = 33) ∧ (C = 42 ↔ K = 34) ∧ (C = 40 ↔ K = 35) ∧ (C = 41 ↔ K = 36) ∧ (C = 91 ↔ K = 37) ∧ (C = 93 ↔ K = 38) ∧ (C = 61 ↔ K = 39) ∧ (C = 60 ↔ K = 40) ∧ (C = 62 ↔ K = 41) := by
  refine ⟨?_, ?_, ?_, ?_, ?_, ?_, ?_, ?_, ?_, ?_, ?_, ?_, ?_, ?_, ?_⟩
  · exact of_decide_eq_true (h.of (fun C K => decide (C = 0 ↔ K = 24)) (by decide +kernel))
  · exact of_decide_eq_true (h.of (fun C K => decide (C = 2 ↔ K = 23)) (by decide +kernel))
  · exact of_decide_eq_true (h.of (fun C K => decide (C = 3 ↔ K = 25)) (by decide +kernel))
  · exact of_decide_eq_true (h.of (fun C K => decide (C = 59 ↔ K = 30)) (by decide +kernel))
  · exact of_decide_eq_true (h.of (fun C K => decide (C = 58 ↔ K = 31)) (by decide +kernel))
  · exact of_decide_eq_true (h.of (fun C K => decide (C = 43 ↔ K = 32)) (by decide +kernel))
  · exact of_decide_eq_true (h.of (fun C K => decide (C = 45 ↔ K = 33)) (by decide +kernel))
  · exact of_decide_eq_true (h.of (fun C K => decide (C = 42 ↔ K = 34)) (by decide +kernel))
  · exact of_decide_eq_true (h.of (fun C K => decide (C = 40 ↔ K = 35)) (by decide +kernel))
  · exact of_decide_eq_true (h.of (fun C K => decide (C = 41 ↔ K = 36)) (by decide +kernel))
  · exact of_decide_eq_true (h.of (fun C K => decide (C = 91 ↔ K = 37)) (by decide +kernel))
  · exact of_decide_eq_true (h.of (fun C K => decide (C = 93 ↔ K = 38)) (by decide +kernel))
  · exact of_decide_eq_true (h.of (fun C K => decide (C = 61 ↔ K = 39)) (by decide +kernel))
  · exact of_decide_eq_true (h.of (fun C K => decide (C = 60 ↔ K = 40)) (by decide +kernel))
  · exact of_decide_eq_true (h.of (fun C K => decide (C = 62 ↔ K = 41)) (by decide +kernel))
/-- the kind of a sign, of its first k -/
def kk (b : Nat) : Nat → Nat
  | 0 => 25
  | k + 1 => if b = sgl.getD k 0 then 30 + k else kk b k
def sgc (b : Nat) : Nat := if (List.range 12).all (fun i => sgl.getD i 0 != b) then 3 else b
theorem sgc_t {b : Nat} (h : ∀ i, i < 12 → sgl.getD i 0 ≠ b) : sgc b = 3 := by
  rw [sgc, if_pos]
  rw [List.all_eq_true]
  intro i hi
  have := h i (List.mem_range.mp hi)
  simpa using this
theorem sgc_f {b : Nat} (h : ¬ ∀ i, i < 12 → sgl.getD i 0 ≠ b) : sgc b = b := by
  rw [sgc, if_neg]
  intro q
  rw [List.all_eq_true] at q
  exact h (fun i hi => by
    have := q i (List.mem_range.mpr hi)
    simpa using this)
theorem sg_ck : ∀ b, b < 256 → CK (sgc b) (kk b 12) := by unfold CK; decide +kernel
theorem ck_word : ∀ K, K < 20 ∨ K = 22 → CK 1 K := by
  have h : ∀ K, K < 23 → K < 20 ∨ K = 22 → ckl.contains (1, K) = true := by decide +kernel
  exact fun K hK => h K (by omega) hK
theorem c_ixl {b : Nat} {m : Mem} (hb : b < 128) : ∀ fu k, k ≤ 12 → 12 - k < fu → ∃ r, J1_indexOfChar_4cfef_b7 0 fu (nI 12) (nI b) (nI k) m = some (r, m) ∧ (r < nI 0 ↔ ∀ i, k ≤ i → i < 12 → sgl.getD i 0 ≠ b) := by
  intro fu
  induction fu with
  | zero => intro k _ h; omega
  | succ fu ih =>
    intro k hk hf
    rw [J1_indexOfChar_4cfef_b7, kn1, K0, K1, nadd]
    rcases Nat.eq_or_lt_of_le hk with he | hl
    · rw [jle_t (by omega) (by omega)]
      exact ⟨_, rfl, ⟨fun _ i h1 h2 => by omega, fun _ => by decide⟩⟩
    · have hc := sg_chr k hl
      rw [jle_f (by omega) (by omega), chk_in (show k < strL.getD 0 0 from hl) (by decide), ix_nI (by omega), hc.1]
      by_cases e : sgl.getD k 0 = b
      · rw [if_pos (by rw [e])]
        exact ⟨_, rfl, ⟨fun q => absurd q (nI_nneg (by omega)), fun q => absurd e (q k (Nat.le_refl k) hl)⟩⟩
      · rw [jeq_f e (by omega) (by omega)]
        obtain ⟨r, e1, e2⟩ := ih (k + 1) (by omega) (by omega)
        refine ⟨r, e1, e2.trans ⟨fun q i h1 h2 => ?_, fun q i h1 h2 => q i (by omega) h2⟩⟩
        by_cases ei : i = k
        · rw [ei]; exact e
        · exact q i (by omega) h2
theorem cv_tab : ∀ b, b < 128 → ((((nI b) : Int32).toUInt32 % 65536).toInt32) = nI b ∧ (nI b).toInt8.toInt32 = nI b := by decide +kernel
theorem c_sign {b : Nat} (hb : b < 128) (m : Mem) : ∃ r, J0_indexOf_0f7a4 0 ((((nI b) : Int32).toUInt32 % 65536).toInt32) m = some (r, m) ∧ (r < nI 0 ↔ ∀ i, i < 12 → sgl.getD i 0 ≠ b) := by
  obtain ⟨r, e1, e2⟩ := c_ixl (m := m) hb FU 0 (by omega) (by unfold FU; omega)
  refine ⟨r, ?_, e2.trans ⟨fun q i h => q i (Nat.zero_le _) h, fun q i _ h => q i h⟩⟩
  have ln : strL.getD 0 0 = 12 := rfl
  rw [(cv_tab b hb).1, J0_indexOf_0f7a4, J0_indexOf_7cf53, J0_isLatin1_aae02, if_neg (show ¬ (1 : Int32) = 0 by decide), if_pos rfl, bq, if_neg (by decide), s_len (by decide), bq, J1_indexOf_4cfef, J1_canEncode_9a6ad, K0, if_neg (nI_nneg (by omega)), if_neg (by
    rw [show (255 : Int32) = nI 255 by decide, lt_iff, tI (by omega), tI (by omega)]; omega), bq, if_neg (by decide), lq, lq, ln, if_neg (show ¬ nI 0 < nI 0 by decide), if_neg (show ¬ nI 12 < nI 12 by decide), if_pos (by decide), J1_indexOfChar_4cfef, lq, (cv_tab b hb).2, e1]
  rfl
theorem m_signs {tb : Nat → Nat} {L a : Nat} (hL : L ≤ 900) (hb : tb a < 256) (ha : a < L) : ∀ fu k m, k ≤ 12 → 12 - k < fu → MTp tb L m → gi m 0 6 = nI a → gi m 0 9 = nI (kk (tb a) k) → ∃ m', X12_next_b254 fu (nI k) m = some ((), m') ∧ F00 m m' ∧ gi m' 0 9 = nI (kk (tb a) 12) ∧ gi m' 0 6 = gi m 0 6 ∧ gi m' 0 7 = gi m 0 7 := by
  intro fu
  induction fu with
  | zero => intro k m _ h; omega
  | succ fu ih =>
    intro k m hk hf ht h6 h9
    rw [X12_next_b254, s_len (by decide), bq, show strL.getD 0 0 = 12 from rfl, K1, nadd]
    rcases Nat.eq_or_lt_of_le hk with he | hl
    · subst he
      rw [jle_t (by omega) (by omega)]
      exact ⟨m, rfl, F00.rf, h9, rfl, rfl⟩
    · have hc := sg_chr k hl
      rw [jle_f (by omega) (by omega), h6, m_see_t hL ht.1 ht.2 ha, bq, s_chr (by decide) (show k < strL.getD 0 0 from hl) (by omega) hc.1, bq]
      by_cases e : tb a = sgl.getD k 0
      · rw [if_pos (by rw [e]), show (30 : Int32) = nI 30 by decide, nadd, lq]
        obtain ⟨m', f0, f1, f2, f3, f4⟩ := ih (k + 1) (si m 0 9 (nI (30 + k))) (by omega) (by omega) (ht.f (F00.si (by omega))) (by rw [gsi (by omega), h6]) (by rw [gss, kk, if_pos e])
        exact ⟨m', f0, (F00.si (by omega)).tr f1, f2, by rw [f3, gsi (by omega), h6], by rw [f4, gsi (by omega)]⟩
      · rw [jeq_f e (by omega) (by omega)]
        obtain ⟨m', f0, f1, f2, f3, f4⟩ := ih (k + 1) m (by omega) (by omega) ht h6 (by rw [kk, if_neg e, h9])
        exact ⟨m', f0, f1, f2, by rw [f3, h6], f4⟩
theorem m_skip {tb : Nat → Nat} {L a : Nat} (hL : L ≤ 900) (htb : ∀ i, i < L → tb i < 256) : ∀ fu k m, stx tb spc L k a → a - k < fu → MTp tb L m → gi m 0 6 = nI k → ∃ fu' m', F00 m m' ∧ gi m' 0 6 = nI a ∧ X12_next_b8 fu m = X12_next_b8 (fu' + 1) m' := by
  intro fu
  induction fu with
  | zero => intro k m _ h; omega
  | succ fu ih =>
    intro k m hs hf ht h6
    obtain ⟨s1, s2, s3, s4⟩ := hs
    by_cases e : k = a
    · subst e
      exact ⟨fu, m, F00.rf, h6, rfl⟩
    · have hb := htb k (by omega)
      have hz := s3 k (Nat.le_refl k) (by omega)
      have go : ∃ fu' m', F00 m m' ∧ gi m' 0 6 = nI a ∧ X12_next_b34 (X12_next_b8 fu) m = X12_next_b8 (fu' + 1) m' := by
        rw [X12_next_b34, h6, K1, nadd, lq]
        obtain ⟨fu', m', f1, f2, f3⟩ := ih (k + 1) (si m 0 6 (nI (k + 1))) ⟨by omega, s2, fun i hi hie => s3 i (by omega) hie, s4⟩ (by omega) (ht.f (F00.si (by omega))) gss
        exact ⟨fu', m', (F00.si (by omega)).tr f1, f2, f3⟩
      rw [X12_next_b8, h6, m_see_t hL ht.1 ht.2 (by omega), bq, K10, h6, m_see_t hL ht.1 ht.2 (by omega), bq, K32]
      by_cases h10 : tb k = 10
      · rw [if_pos (by rw [h10])]; exact go
      · rw [jeq_f h10 (by omega) (by omega)]
        have h32 : tb k = 32 := by
          rw [spc] at hz
          simp [h10] at hz
          exact hz
        rw [if_pos (by rw [h32])]; exact go
theorem m_letters {tb : Nat → Nat} {L a e : Nat} (hL : L ≤ 900) (htb : ∀ i, i < L → tb i < 256) : ∀ fu k m, a ≤ k → stx tb lwr L k e → e - k < fu → MTp tb L m → gi m 0 6 = nI a → gi m 0 7 = nI k → ∃ m', X12_next_b89 fu m = some ((), m') ∧ F00 m m' ∧ gi m' 0 7 = nI e ∧ gi m' 0 9 = nI (key tb a e 20 0) ∧ gi m' 0 6 = nI a := by
  intro fu
  induction fu with
  | zero => intro k m _ _ h; omega
  | succ fu ih =>
    intro k m hak hs hf ht h6 h7
    obtain ⟨s1, s2, s3, s4⟩ := hs
    rw [X12_next_b89, h7]
    by_cases he : k = e
    · subst he
      have fin : ∃ m', (bnd (X12_keyAt m) fun r_40 m_41 => lt (si m_41 0 9 r_40) fun m_42 => some ((), m_42)) = some ((), m') ∧ F00 m m' ∧ gi m' 0 7 = nI k ∧ gi m' 0 9 = nI (key tb a k 20 0) ∧ gi m' 0 6 = nI a := by
        rw [m_keyAt hL htb h6 h7 s2 hak ht.2, bq, lq]
        exact ⟨_, rfl, F00.si (by omega), by rw [gsi (by omega), h7], gss, by rw [gsi (by omega), h6]⟩
      by_cases hk : k = L
      · rw [m_see_f ht.1 (by omega) (by omega), bq, m_isSmallN, bq, K0, if_pos rfl]
        exact fin
      · have hz : lwr (tb k) = false := by
          rcases s4 with z | z
          · exact absurd z hk
          · exact z
        rw [m_see_t hL ht.1 ht.2 (by omega), bq, m_isSmall (htb k (by omega)), bq, hz, K0, if_pos (by decide)]
        exact fin
    · have hz := s3 k (Nat.le_refl k) (by omega)
      rw [m_see_t hL ht.1 ht.2 (by omega), bq, m_isSmall (htb k (by omega)), bq, hz, K0, if_neg (by decide), h7, K1, nadd, lq]
      obtain ⟨m', f0, f1, f2, f3, f4⟩ := ih (k + 1) (si m 0 7 (nI (k + 1))) (by omega) ⟨by omega, s2, fun i hi hie => s3 i (by omega) hie, s4⟩ (by omega) (ht.f (F00.si (by omega))) (by rw [gsi (by omega), h6]) gss
      exact ⟨m', f0, (F00.si (by omega)).tr f1, f2, f3, f4⟩
/-- the number that n digits from a on make -/
def vln (tb : Nat → Nat) (a : Nat) : Nat → Nat
  | 0 => 0
  | n + 1 => 10 * vln tb a n + (tb (a + n) - 48)
theorem vl_lt {tb : Nat → Nat} {a : Nat} : ∀ n, (∀ i, i < n → dgt (tb (a + i)) = true) → vln tb a n < 10 ^ n
  | 0, _ => by show 0 < 10 ^ 0; decide
  | n + 1, h => by
    have ih := vl_lt n (fun i hi => h i (by omega))
    have hd := h n (by omega)
    rw [dgt] at hd
    simp at hd
    rw [vln, Nat.pow_succ]
    omega
theorem vl_1000 {tb : Nat → Nat} {a n : Nat} (hn : n ≤ 3) (h : ∀ i, i < n → dgt (tb (a + i)) = true) : vln tb a n < 1000 := by
  have h1 := vl_lt n h
  have h2 : (10 : Nat) ^ n ≤ 10 ^ 3 := Nat.pow_le_pow_right (by decide) hn
  omega
theorem m_digits {tb : Nat → Nat} {L a e : Nat} (hL : L ≤ 900) (htb : ∀ i, i < L → tb i < 256) (hd : stx tb dgt L a e) : ∀ fu k m, a ≤ k → k ≤ e → e - k < fu → MTp tb L m → gi m 0 6 = nI a → gi m 0 7 = nI k → gi m 0 10 = nI (vln tb a (min (k - a) 3)) → ∃ m', X12_next_b146 fu m = some ((), m') ∧ F00 m m' ∧ gi m' 0 7 = nI e ∧ gi m' 0 9 = nI (if e - a ≤ 3 then 23 else 25) ∧ gi m' 0 6 = nI a ∧ (e - a ≤ 3 → gi m' 0 10 = nI (vln tb a (e - a))) := by
  obtain ⟨s1, s2, s3, s4⟩ := hd
  intro fu
  induction fu with
  | zero => intro k m _ _ h; omega
  | succ fu ih =>
    intro k m hak hke hf ht h6 h7 h10
    rw [X12_next_b146, h7, K0]
    by_cases he : k = e
    · subst he
      have fin : ∃ m', (if gi m 0 7 - gi m 0 6 ≤ 3 then lt (si m 0 9 23) fun m_30 => some ((), m_30) else lt (si m 0 9 25) fun m_31 => some ((), m_31)) = some ((), m') ∧ F00 m m' ∧ gi m' 0 7 = nI k ∧ gi m' 0 9 = nI (if k - a ≤ 3 then 23 else 25) ∧ gi m' 0 6 = nI a ∧ (k - a ≤ 3 → gi m' 0 10 = nI (vln tb a (k - a))) := by
        rw [h6, h7, nsub hak, K3]
        by_cases h3 : k - a ≤ 3
        · rw [jle_t h3 (by omega), if_pos h3, lq]
          exact ⟨_, rfl, F00.si (by omega), by rw [gsi (by omega), h7], gss, by rw [gsi (by omega), h6], fun _ => by rw [gsi (by omega), h10, Nat.min_eq_left h3]⟩
        · rw [jle_f (by omega) (by omega), if_neg h3, lq]
          exact ⟨_, rfl, F00.si (by omega), by rw [gsi (by omega), h7], gss, by rw [gsi (by omega), h6], fun q => absurd q h3⟩
      by_cases hk : k = L
      · rw [m_see_f ht.1 (by omega) (by omega), bq, m_isDigitN, bq, if_pos rfl]
        exact fin
      · have hz : dgt (tb k) = false := by
          rcases s4 with z | z
          · exact absurd z hk
          · exact z
        rw [m_see_t hL ht.1 ht.2 (by omega), bq, m_isDigit (htb k (by omega)), bq, hz, if_pos (by decide)]
        exact fin
    · have hz := s3 k hak (by omega)
      have hz2 := hz
      rw [dgt] at hz2
      simp at hz2
      rw [m_see_t hL ht.1 ht.2 (by omega), bq, m_isDigit (htb k (by omega)), bq, hz, if_neg (by decide), h6, h7, nsub hak, K3]
      have st : ∀ m1, F00 m m1 → gi m1 0 6 = nI a → gi m1 0 7 = nI k → gi m1 0 10 = nI (vln tb a (min (k + 1 - a) 3)) → ∃ m', X12_next_b196 (X12_next_b146 fu) m1 = some ((), m') ∧ F00 m m' ∧ gi m' 0 7 = nI e ∧ gi m' 0 9 = nI (if e - a ≤ 3 then 23 else 25) ∧ gi m' 0 6 = nI a ∧ (e - a ≤ 3 → gi m' 0 10 = nI (vln tb a (e - a))) := by
        intro m1 f1 g6 g7 g10
        rw [X12_next_b196, g7, K1, nadd, lq]
        obtain ⟨m', f0, f2, f3⟩ := ih (k + 1) (si m1 0 7 (nI (k + 1))) (by omega) (by omega) (by omega) ((ht.f f1).f (F00.si (by omega))) (by rw [gsi (by omega), g6]) gss (by rw [gsi (by omega), g10])
        exact ⟨m', f0, (f1.tr (F00.si (by omega))).tr f2, f3⟩
      by_cases h3 : 3 ≤ k - a
      · rw [jle_t h3 (by omega)]
        exact st m F00.rf h6 h7 (by rw [h10, Nat.min_eq_right h3, Nat.min_eq_right (by omega)])
      · have hv := vl_1000 (tb := tb) (a := a) (n := k - a) (by omega) (fun i hi => s3 (a + i) (by omega) (by omega))
        rw [jle_f (by omega) (by omega), m_see_t hL ht.1 ht.2 (by omega), bq, lq, h10, Nat.min_eq_left (by omega), K10, nmul, nadd, K48, nsub (by omega)]
        refine st _ (F00.si (by omega)) (by rw [gsi (by omega), h6]) (by rw [gsi (by omega), h7]) ?_
        rw [gss, Nat.min_eq_left (by omega), show k + 1 - a = (k - a) + 1 by omega, vln, show a + (k - a) = k by omega]
        congr 1
        omega
