/-! the reference: lists, bits -/
theorem m_listOf_loop {r : Ru} {x : Lf} {m : Mem} (hT : gi m 1 1 = nI (rT r)) (hr : rT r ≤ 14) {p : Nat} (hp : p < 8) (hs : ∀ t, t < rT r → gi m 1 (41 + 14 * p + t) = oN (lsn x p t)) (hv : ∀ t v, lsn x p t = some v → v < 2147483648) : ∀ n k, k ≤ rT r → rT r - k < n → X12_listOf_b4 n (nI p) (nI (bs k (fun t => has x p t))) (nI k) m = some (nI (bs (rT r) (fun t => has x p t)), m) := by
  intro n
  induction n with
  | zero => intro k _ h; omega
  | succ n ih =>
    intro k hk hn
    rw [X12_listOf_b4]
    rcases Nat.eq_or_lt_of_le hk with he | hl
    · subst he
      simp (disch := omega) only [chk_in, chk_tt, bnd_eq, lt_eq, ix_nI, ile_t, ile_f, ilt_t, ilt_f, ieq_t, ieq_f, nadd, nmul, nsub, nshl, nshl2, nor, nand, nandn, ↓n1, L0, L1, L2, L3, L4, L5, L6, L7, L8, L9, L10, L11, L12, L13, L14, L20, L24, L25, L32, L33, L40, L41, L60, L63, L64, L100, L112, L120, L128, L129, L153, L161, L162, L163, L255, L256, L900, L903, L999, L1000, L1195, L1196, L2000, L2096, L3000, L3001, L3002, L3003, L3004, L3005, L3006, L3007, L3008, hT]
    · have ih2 := ih (k + 1) (by omega) (by omega)
      simp (disch := omega) only [chk_in, chk_tt, bnd_eq, lt_eq, ix_nI, ile_t, ile_f, ilt_t, ilt_f, ieq_t, ieq_f, nadd, nmul, nsub, nshl, nshl2, nor, nand, nandn, ↓n1, L0, L1, L2, L3, L4, L5, L6, L7, L8, L9, L10, L11, L12, L13, L14, L20, L24, L25, L32, L33, L40, L41, L60, L63, L64, L100, L112, L120, L128, L129, L153, L161, L162, L163, L255, L256, L900, L903, L999, L1000, L1195, L1196, L2000, L2096, L3000, L3001, L3002, L3003, L3004, L3005, L3006, L3007, L3008, hT, hs k hl]
      cases hx : lsn x p k with
      | none =>
        rw [bs, show has x p k = false by rw [has, hx]; rfl] at ih2
        rw [no_t rfl]
        simpa using ih2
      | some v =>
        rw [bs, show has x p k = true by rw [has, hx]; rfl] at ih2
        rw [no_f rfl (hv k v hx)]
        simpa using ih2
theorem m_listOf {r : Ru} {x : Lf} {m : Mem} (hT : gi m 1 1 = nI (rT r)) (hr : rT r ≤ 14) {p : Nat} (hp : p < 8) (hs : ∀ t, t < rT r → gi m 1 (41 + 14 * p + t) = oN (lsn x p t)) (hv : ∀ t v, lsn x p t = some v → v < 2147483648) : X12_listOf (nI p) m = some (nI (ls r x p), m) :=
  m_listOf_loop hT hr hp hs hv FU 0 (by omega) (by unfold FU; omega)
