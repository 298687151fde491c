/-! both readers at a token, or at a fault -/
def GC (m m2 : Mem) : Prop := Fr (fun c => c = 39) m m2 ∧ ∀ j, (j < 5 ∨ ((j = 8 ∨ j = 9) ∧ gi m2 39 8 = nI 0)) → gi m2 39 j = gi m 39 j
def GM (m m2 : Mem) : Prop := Fr (fun c => c = 0) m m2 ∧ ∀ j, j ≠ 6 → j ≠ 7 → j ≠ 9 → j ≠ 10 → j ≠ 11 → j ≠ 12 → gi m2 0 j = gi m 0 j
theorem GC.rf {m : Mem} : GC m m := ⟨Fr.rf, fun _ _ => rfl⟩
theorem GC.tr {m m1 m2 : Mem} (h1 : GC m m1) (h2 : GC m1 m2) : GC m m2 := ⟨h1.1.tr h2.1, fun j a => by
  have k : j < 5 ∨ ((j = 8 ∨ j = 9) ∧ gi m1 39 8 = nI 0) := a.imp id (fun q => ⟨q.1, by rw [← h2.2 8 (Or.inr ⟨Or.inl rfl, q.2⟩)]; exact q.2⟩)
  rw [h2.2 j a, h1.2 j k]⟩
theorem GM.rf {m : Mem} : GM m m := ⟨Fr.rf, fun _ _ _ _ _ _ _ => rfl⟩
theorem GM.tr {m m1 m2 : Mem} (h1 : GM m m1) (h2 : GM m1 m2) : GM m m2 := ⟨h1.1.tr h2.1, fun j a b c d e f => by rw [h2.2 j a b c d e f, h1.2 j a b c d e f]⟩
theorem F39.g {m m2 : Mem} (h : F39 m m2) : GC m m2 := ⟨h.1, fun j hj => h.2 j (by omega) (by omega) (by omega)⟩
theorem F00.g {m m2 : Mem} (h : F00 m m2) : GM m m2 := ⟨h.1, fun j a b c d _ _ => h.2 j a b c d⟩
/-- both at the same token, without a fault -/
def TL (tb : Nat → Nat) (L a b C K v : Nat) (mx mm : Mem) : Prop := TK tb L a b C K v ∧ CTk tb L a b C mx ∧ MTk tb L a b K v mm ∧ gi mx 39 8 = nI 0 ∧ gi mm 0 11 = nI 0
/-- both with the same fault -/
def DD (mx mm : Mem) : Prop := ∃ w pl, 1 ≤ w ∧ w ≤ 4 ∧ pl ≤ 900 ∧ gi mx 39 8 = nI w ∧ gi mx 39 9 = nI pl ∧ gi mm 0 11 = nI w ∧ gi mm 0 12 = nI pl
section
variable {tb : Nat → Nat} {L a b C K v : Nat} {mx mm : Mem}
theorem TL.aL (h : TL tb L a b C K v mx mm) : a ≤ L := Nat.le_trans h.1.1 h.1.2.1
theorem TL.nx (hL : L ≤ 900) (htb : ∀ i, i < L → tb i < 256) (h : TL tb L a b C K v mx mm) : ∃ a' b' C' K' v' mx' mm', b ≤ a' ∧ X7_next mx = some ((), mx') ∧ X12_next mm = some ((), mm') ∧ TL tb L a' b' C' K' v' mx' mm' ∧ F39 mx mx' ∧ F00 mm mm' := by
  obtain ⟨h1, h2, h3, h4, h5⟩ := h
  obtain ⟨a', b', C', K', v', mx', mm', e1, e2, e3, e4, e5, e6, e7, e8⟩ := nxt hL htb h1.2.1 h2.1 h2.2.2.2 h3.1 h3.2.2.1
  exact ⟨a', b', C', K', v', mx', mm', e1, e3, e6, ⟨e2, e4, e7, by rw [e5.2 8 (by omega) (by omega) (by omega), h4], by rw [e8.2 11 (by omega) (by omega) (by omega) (by omega), h5]⟩, e5, e8⟩
theorem TL.cw (hL : L ≤ 900) (htb : ∀ i, i < L → tb i < 256) (h : TL tb L a b C K v mx mm) {n : Nat} (hn : n < 20) : X7_isWord (pkw.getD n 0) mx = some (nI (if K = n then 1 else 0), mx) := by
  obtain ⟨h1, h2, h3, h4, h5⟩ := h
  have w := h1.2.2.2.1.w
  by_cases hC : C = 1
  · subst hC
    rw [c_isWord1 hL htb h2.1.1 h2.2.1 h2.2.2.1 h2.2.2.2 h1.1 h1.2.1 h2.1.2 hn]
    by_cases hk : K = n
    · rw [if_pos hk, if_pos ((h1.2.2.2.2.1 rfl n hn).mp hk)]
    · rw [if_neg hk, if_neg (fun q => hk ((h1.2.2.2.2.1 rfl n hn).mpr q))]
  · rw [c_isWord0 h2.2.1 hC (by omega), if_neg (by omega)]
theorem TL.mi (h : TL tb L a b C K v mx mm) {k : Nat} (hk : k < 2147483648) : X12_is (nI k) mm = some (nI (if K = k then 1 else 0), mm) := by
  have w := h.1.2.2.2.1.w
  rw [X12_is, K0, h.2.2.2.2, if_pos rfl, h.2.2.1.2.2.2.1]
  by_cases e : K = k
  · rw [if_pos (by rw [e]), if_pos e]; rfl
  · rw [jeq_f e (by omega) hk, if_neg e]
theorem TL.cs (h : TL tb L a b C K v mx mm) {k : Nat} {β : Type} {x y : β} {D : Decidable (gi mx 39 5 = nI k)} (hk : k < 2147483648) : @ite β (gi mx 39 5 = nI k) D x y = if C = k then x else y := by
  have w := h.1.2.2.2.1.w
  have e5 := h.2.1.2.1
  by_cases e : C = k
  · rw [if_pos (by rw [e5, e]), if_pos e]
  · rw [if_neg (fun q => e (nI_inj (by omega) hk (by rw [← q, e5]))), if_neg e]
theorem m_is_d {w : Nat} (h : gi mm 0 11 = nI w) (h1 : 1 ≤ w) (h2 : w ≤ 4) (k : Int32) : X12_is k mm = some (nI 0, mm) := by
  rw [X12_is, K0, h, jeq_f (by omega) (by omega) (by omega)]
theorem m_fails_d {w : Nat} (h : gi mm 0 11 = nI w) (h1 : 1 ≤ w) (h2 : w ≤ 4) (k : Int32) : X12_fails k mm = some ((), mm) := by
  rw [X12_fails, K0, h, jeq_f (by omega) (by omega) (by omega)]
theorem m_eats_d {w : Nat} (h : gi mm 0 11 = nI w) (h1 : 1 ≤ w) (h2 : w ≤ 4) (k : Int32) : X12_eats k mm = some (nI 0, mm) := by
  rw [X12_eats, m_is_d h h1 h2, bq, K0, if_pos rfl]
theorem m_codes_d {w : Nat} (h : gi mm 0 11 = nI w) (h1 : 1 ≤ w) (h2 : w ≤ 4) (k : Int32) : X12_codes k mm = some ((), mm) := by
  rw [X12_codes, K0, h, jeq_f (by omega) (by omega) (by omega)]
theorem TL.bl (hL : L ≤ 900) (h : TL tb L a b C K v mx mm) {k : Nat} (h1 : 1 ≤ k) (h4 : k ≤ 4) (hK : K ≠ 25) : ∃ mx' mm', X7_blame (nI k) mx = some (nI 0, mx') ∧ X12_fails (nI k) mm = some ((), mm') ∧ DD mx' mm' ∧ GC mx mx' ∧ GM mm mm' := by
  have w := h.1.2.2.2.1.w
  have haL := h.aL
  rw [X7_blame, X12_fails, X12_fails_b23, X12_fails_b23, K0, h.2.2.2.1, if_pos rfl, h.2.2.2.2, if_pos rfl, h.2.2.1.2.2.2.1, show (25 : Int32) = nI 25 by decide, jeq_f hK (by omega) (by omega), lq, lq, lq, lq, gsi (by omega), h.2.1.2.2.1, gsi (by omega), h.2.2.1.2.1]
  exact ⟨_, _, rfl, rfl, ⟨k, a, h1, h4, by omega, by rw [gsi (by omega), gss], gss, by rw [gsi (by omega), gss], gss⟩, ⟨(Fr.si (S := fun c => c = 39) rfl).tr (Fr.si (S := fun c => c = 39) rfl), fun j hj => by
    rcases hj with hj | ⟨_, hz⟩
    · rw [gsi (by omega), gsi (by omega)]
    · rw [gsi (by omega), gss] at hz
      have := nI_inj (by omega) (by omega) hz
      omega⟩, ⟨(Fr.si (S := fun c => c = 0) rfl).tr (Fr.si (S := fun c => c = 0) rfl), fun j _ _ _ _ _ _ => by rw [gsi (by omega), gsi (by omega)]⟩⟩
theorem TL.rf2 (hL : L ≤ 900) (h : TL tb L a b C K v mx mm) : ∃ mx' mm', X7_refuse mx = some (nI 0, mx') ∧ X12_fails (nI 2) mm = some ((), mm') ∧ DD mx' mm' ∧ GC mx mx' ∧ GM mm mm' := by
  have w := h.1.2.2.2.1.w
  have s := h.1.2.2.2.1.s
  have haL := h.aL
  by_cases hK : K = 25
  · rw [X7_refuse, K3, h.cs (by omega), if_pos (s.2.2.1.mpr hK), X7_blame, X12_fails, X12_fails_b23, X12_fails_b23, K0, h.2.2.2.1, if_pos rfl, h.2.2.2.2, if_pos rfl, h.2.2.1.2.2.2.1, show (25 : Int32) = nI 25 by decide, if_pos (by rw [hK]), K1, lq, lq, lq, lq, gsi (by omega), h.2.1.2.2.1, gsi (by omega), h.2.2.1.2.1, bq]
    exact ⟨_, _, rfl, rfl, ⟨1, a, by omega, by omega, by omega, by rw [gsi (by omega), gss], gss, by rw [gsi (by omega), gss], gss⟩, ⟨(Fr.si (S := fun c => c = 39) rfl).tr (Fr.si (S := fun c => c = 39) rfl), fun j hj => by
    rcases hj with hj | ⟨_, hz⟩
    · rw [gsi (by omega), gsi (by omega)]
    · rw [gsi (by omega), gss] at hz
      have := nI_inj (by omega) (by omega) hz
      omega⟩, ⟨(Fr.si (S := fun c => c = 0) rfl).tr (Fr.si (S := fun c => c = 0) rfl), fun j _ _ _ _ _ _ => by rw [gsi (by omega), gsi (by omega)]⟩⟩
  · obtain ⟨mx', mm', e1, e2, e3, e4, e5⟩ := h.bl hL (k := 2) (by omega) (by omega) hK
    refine ⟨mx', mm', ?_, e2, e3, e4, e5⟩
    rw [X7_refuse, K3, h.cs (by omega), if_neg (fun q => hK (s.2.2.1.mp q)), K2, e1, bq]
    rfl
/-- a number, as both ask for it -/
theorem w_num {v lo H : Nat} (hv : v < 2147483648) (hlo : lo < 2147483648) (hH : H < 2147483648) (m : Mem) : X12_within (Int32.toInt64 (nI v)) (Int32.toInt64 (nI lo)) (Int32.toInt64 (nI H - nI 1)) m = some (nI (if lo ≤ v ∧ v < H then 1 else 0), m) := by
  by_cases h : lo ≤ v ∧ v < H
  · rw [if_pos h]
    exact within_t (by rw [toI64_le]; exact nI_le h.1 (by omega)) (by rw [toI64_le, le_m1 hH]; exact nI_lt h.2 hH) m
  · rw [if_neg h]
    apply within_f
    rw [toI64_le, toI64_le, le_m1 hH, nI_leI (by omega) (by omega), nI_ltI (by omega) (by omega)]
    exact h
theorem c_num_loop {lo hi : Int32} (hL : L ≤ 900) (htb : ∀ i, i < L → tb i < 256) (h : CTk tb L a b C mx) (hab : a ≤ b) (hbL : b ≤ L) (h3 : b - a ≤ 3) (hd : ∀ i, a ≤ i → i < b → dgt (tb i) = true) : ∀ fu k, a ≤ k → k ≤ b → b - k < fu → X7_readNumber_b23 fu lo hi (nI (vln tb a (k - a))) (nI k) mx = X7_readNumber_b63 lo hi (nI (vln tb a (b - a))) mx := by
  intro fu
  induction fu with
  | zero => intro k _ _ h; omega
  | succ fu ih =>
    intro k hak hkb hf
    rw [X7_readNumber_b23, h.2.2.2, h.1.1]
    by_cases e : k = b
    · rw [jle_t (by omega) (by omega), e]
    · have hz := hd k hak (by omega)
      rw [dgt] at hz
      simp at hz
      have hv := vl_1000 (tb := tb) (a := a) (n := k - a) (by omega) (fun i hi => hd (a + i) (by omega) (by omega))
      have hs : sx (tb k) = nI (tb k) := if_pos (by omega)
      rw [jle_f (by omega) (by omega), jle_f (by omega) (by omega), chk_in (by omega) (by omega), ix_nI (by omega), h.1.2 k (by omega), hs, K10, nmul, nadd, K48, nsub (by omega), lq, K1, nadd]
      have := ih (k + 1) (by omega) (by omega) (by omega)
      rw [show k + 1 - a = (k - a) + 1 by omega, vln, show a + (k - a) = k by omega] at this
      rw [show 10 * vln tb a (k - a) + tb k - 48 = 10 * vln tb a (k - a) + (tb k - 48) by omega]
      exact this
theorem TL.num (hL : L ≤ 900) (htb : ∀ i, i < L → tb i < 256) (h : TL tb L a b C K v mx mm) {lo H : Nat} (hlo : lo < 2147483648) (hH : H < 2147483648) : (∃ a' b' C' K' v' mx' mm', a < a' ∧ lo ≤ v ∧ v < H ∧ v < 1000 ∧ K = 23 ∧ X7_readNumber (nI lo) (nI H - nI 1) mx = some (nI v, mx') ∧ X12_takesOne (nI lo) (nI H - nI 1) mm = some (nI v, mm') ∧ TL tb L a' b' C' K' v' mx' mm' ∧ GC mx mx' ∧ GM mm mm' ∧ X12_next mm = some ((), mm')) ∨ (∃ mx' mm' r, X7_readNumber (nI lo) (nI H - nI 1) mx = some (NO, mx') ∧ X12_takesOne (nI lo) (nI H - nI 1) mm = some (r, mm') ∧ DD mx' mm' ∧ GC mx mx' ∧ GM mm mm' ∧ (K = 23 → ¬ (lo ≤ v ∧ v < H))) := by
  have w := h.1.2.2.2.1.w
  have s := h.1.2.2.2.1.s
  have dead : ∀ {mx' mm' : Mem}, DD mx' mm' → ∃ r, X12_takesOne_b37 mm' = some (r, mm') := by
    intro mx' mm' ⟨w, pl, d1, d2, d3, d4, d5, d6, d7⟩
    rw [X12_takesOne_b37, lq, K0, d6, jeq_f (by omega) (by omega) (by omega)]
    exact ⟨_, rfl⟩
  have e23 : X12_is 23 mm = some (nI (if K = 23 then 1 else 0), mm) := h.mi (k := 23) (by omega)
  by_cases hK : K = 23
  · have hC : C = 2 := s.2.1.mpr hK
    have hv := h.1.2.2.2.2.2 hC
    have hv3 : v < 1000 := by
      rw [hv.1]
      exact vl_1000 hv.2.1 (fun i hi => hv.2.2 (a + i) (by omega) (by have := h.1.1; omega))
    have ec : X7_readNumber (nI lo) (nI H - nI 1) mx = X7_readNumber_b63 (nI lo) (nI H - nI 1) (nI v) mx := by
      rw [X7_readNumber, K2, h.cs (by omega), if_pos hC, lq, h.2.1.2.2.1, K0]
      have := c_num_loop (lo := nI lo) (hi := nI H - nI 1) hL htb h.2.1 h.1.1 h.1.2.1 hv.2.1 hv.2.2 FU a (Nat.le_refl a) h.1.1 (by have := h.1.2.1; unfold FU; omega)
      rw [Nat.sub_self] at this
      rw [hv.1]
      exact this
    have em : X12_takesOne (nI lo) (nI H - nI 1) mm = if lo ≤ v ∧ v < H then X12_takesOne_b37 mm else (bnd (X12_fails (nI 3) mm) fun _ m_9 => X12_takesOne_b37 m_9) := by
      rw [X12_takesOne, e23, if_pos hK, bq, K0, if_neg (by decide), h.2.2.1.2.2.2.2 hK, w_num (by omega) hlo hH, bq]
      by_cases hc : lo ≤ v ∧ v < H
      · rw [if_pos hc, if_pos hc, if_neg (by decide)]
      · rw [if_neg hc, if_neg hc, if_pos (by decide)]
        rfl
    by_cases hc : lo ≤ v ∧ v < H
    · left
      obtain ⟨a', b', C', K', v', mx', mm', n1, n2, n3, n4, n5, n6⟩ := h.nx hL htb
      refine ⟨a', b', C', K', v', mx', mm', by have := h.1.2.2.1 (by omega); omega, hc.1, hc.2, hv3, hK, ?_, ?_, n4, n5.g, n6.g, n3⟩
      · rw [ec, X7_readNumber_b63, jlt_f (by omega) (by omega), if_pos ((le_m1 hH).mpr (nI_lt hc.2 hH)), n2, bq]
      · rw [em, if_pos hc, X12_takesOne_b37, lq, K0, h.2.2.2.2, if_pos rfl, n3, bq, h.2.2.1.2.2.2.2 hK]
    · right
      obtain ⟨mx', mm', b1, b2, b3, b4, b5⟩ := h.bl hL (k := 3) (by omega) (by omega) (by omega)
      obtain ⟨r, hr⟩ := dead b3
      refine ⟨mx', mm', r, ?_, ?_, b3, b4, b5, fun _ => hc⟩
      · have b73 : X7_readNumber_b73 mx = some (NO, mx') := by rw [X7_readNumber_b73, kn1, K3, b1, bq]
        rw [ec, X7_readNumber_b63, b73]
        by_cases hl : v < lo
        · rw [jlt_t hl (by omega)]
        · rw [jlt_f (by omega) (by omega), if_neg (fun q => hc ⟨by omega, (nI_ltI (by omega) (by omega)).mp ((le_m1 hH).mp q)⟩)]
      · rw [em, if_neg hc, b2, bq, hr]
  · right
    obtain ⟨mx', mm', b1, b2, b3, b4, b5⟩ := h.rf2 hL
    obtain ⟨r, hr⟩ := dead b3
    refine ⟨mx', mm', r, ?_, ?_, b3, b4, b5, fun q => absurd q hK⟩
    · rw [X7_readNumber, K2, h.cs (by omega), if_neg (fun q => hK (s.2.1.mp q)), b1, bq]
      rfl
    · rw [X12_takesOne, e23, if_neg hK, bq, K0, if_pos rfl, K2, b2, bq, hr]
/-- a sign that must stand here -/
theorem TL.ps (hL : L ≤ 900) (htb : ∀ i, i < L → tb i < 256) (h : TL tb L a b C K v mx mm) {sg k : Nat} (hs : sg < 2147483648) (hk : k < 2147483648) (he : C = sg ↔ K = k) (hk24 : k ≠ 24) : (∃ a' b' C' K' v' mx' mm', a < a' ∧ K = k ∧ X7_pass (nI sg) mx = some (nI 1, mx') ∧ X12_eats (nI k) mm = some (nI 1, mm') ∧ TL tb L a' b' C' K' v' mx' mm' ∧ GC mx mx' ∧ GM mm mm') ∨ (∃ mx' mm', K ≠ k ∧ X7_pass (nI sg) mx = some (nI 0, mx') ∧ X12_eats (nI k) mm = some (nI 0, mm) ∧ X12_fails (nI 2) mm = some ((), mm') ∧ DD mx' mm' ∧ GC mx mx' ∧ GM mm mm') := by
  by_cases hK : K = k
  · left
    obtain ⟨a', b', C', K', v', mx', mm', n1, n2, n3, n4, n5, n6⟩ := h.nx hL htb
    refine ⟨a', b', C', K', v', mx', mm', by have := h.1.2.2.1 (by omega); omega, hK, ?_, ?_, n4, n5.g, n6.g⟩
    · rw [X7_pass, h.cs hs, if_pos (he.mpr hK), n2, bq]; rfl
    · rw [X12_eats, h.mi hk, if_pos hK, bq, K0, if_neg (by decide), n3, bq]; rfl
  · right
    obtain ⟨mx', mm', b1, b2, b3, b4, b5⟩ := h.rf2 hL
    refine ⟨mx', mm', hK, ?_, ?_, b2, b3, b4, b5⟩
    · rw [X7_pass, h.cs hs, if_neg (fun q => hK (he.mp q)), b1, bq]; rfl
    · rw [X12_eats, h.mi hk, if_neg hK, bq, K0, if_pos rfl]
theorem TL.et (hL : L ≤ 900) (htb : ∀ i, i < L → tb i < 256) (h : TL tb L a b C K v mx mm) {k : Nat} (hk : k < 2147483648) (hk24 : k ≠ 24) (hK : K = k) : ∃ a' b' C' K' v' mx' mm', a < a' ∧ X7_next mx = some ((), mx') ∧ X12_next mm = some ((), mm') ∧ X12_eats (nI k) mm = some (nI 1, mm') ∧ TL tb L a' b' C' K' v' mx' mm' ∧ GC mx mx' ∧ GM mm mm' := by
  obtain ⟨a', b', C', K', v', mx', mm', n1, n2, n3, n4, n5, n6⟩ := h.nx hL htb
  refine ⟨a', b', C', K', v', mx', mm', by have := h.1.2.2.1 (by omega); omega, n2, n3, ?_, n4, n5.g, n6.g⟩
  rw [X12_eats, h.mi hk, if_pos hK, bq, K0, if_neg (by decide), n3, bq]; rfl
theorem TL.en (h : TL tb L a b C K v mx mm) {k : Nat} (hk : k < 2147483648) (hK : K ≠ k) : X12_eats (nI k) mm = some (nI 0, mm) := by
  rw [X12_eats, h.mi hk, if_neg hK, bq, K0, if_pos rfl]
theorem TL.dp (hL : L ≤ 900) (htb : ∀ i, i < L → tb i < 256) (h : TL tb L a b C K v mx mm) {d : Nat} (hd : d ≤ 6) (hK : K ≠ 24) (hK2 : K ≠ 25) : (∃ a' b' C' K' v' mx' mm', d < 6 ∧ a < a' ∧ X7_goDeeper (nI d) mx = some (nI 1, mx') ∧ X12_goesIn (nI d) mm = some (nI 1, mm') ∧ TL tb L a' b' C' K' v' mx' mm' ∧ GC mx mx' ∧ GM mm mm') ∨ (∃ mx' mm', X7_goDeeper (nI d) mx = some (nI 0, mx') ∧ X12_goesIn (nI d) mm = some (nI 0, mm') ∧ DD mx' mm' ∧ GC mx mx' ∧ GM mm mm') := by
  rw [X7_goDeeper, X12_goesIn, K6]
  by_cases h6 : d = 6
  · right
    obtain ⟨mx', mm', b1, b2, b3, b4, b5⟩ := h.bl hL (k := 4) (by omega) (by omega) hK2
    obtain ⟨w, pl, d1, d2, d3, d4, d5, d6, d7⟩ := b3
    refine ⟨mx', mm', ?_, ?_, ⟨w, pl, d1, d2, d3, d4, d5, d6, d7⟩, b4, b5⟩
    · rw [jlt_f (by omega) (by omega), K4, b1, bq]; rfl
    · rw [if_pos (by rw [h6]), K4, b2, bq, X12_goesIn_b11, K0, d6, jeq_f (by omega) (by omega) (by omega), X12_goesIn_b22, K0, d6, jeq_f (by omega) (by omega) (by omega)]
  · left
    obtain ⟨a', b', C', K', v', mx', mm', n1, n2, n3, n4, n5, n6⟩ := h.nx hL htb
    refine ⟨a', b', C', K', v', mx', mm', by omega, by have := h.1.2.2.1 hK; omega, ?_, ?_, n4, n5.g, n6.g⟩
    · rw [jlt_t (by omega) (by omega), n2, bq]; rfl
    · rw [jeq_f h6 (by omega) (by omega), X12_goesIn_b11, K0, h.2.2.2.2, if_pos rfl, n3, bq, X12_goesIn_b22, K0, n4.2.2.2.2, if_pos rfl]; rfl
end
