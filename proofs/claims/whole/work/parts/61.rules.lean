/-! rules, written and copied -/
def s01 (a c : Nat) : Prop := a ≤ c ∧ c ≤ a + 1
theorem gdl {cd : List Nat} {v i : Nat} (hi : i < cd.length) : (cd ++ [v]).getD i 0 = cd.getD i 0 := by
  rw [List.getD_eq_getElem?_getD, List.getD_eq_getElem?_getD, List.getElem?_append_left hi]
theorem gdr {cd : List Nat} {v : Nat} : (cd ++ [v]).getD cd.length 0 = v := by
  rw [List.getD_eq_getElem?_getD, List.getElem?_append_right (Nat.le_refl _)]
  simp
theorem c_add {m : Mem} {a v : Nat} {cd : List Nat} {w : Int32} (hw : w = ccode v) (h : LawC m a cd) (hl : cd.length < 900) : ∃ m2, X4_add a w m = some ((), m2) ∧ LawC m2 a (cd ++ [v]) ∧ Fr (s01 a) m m2 := by
  subst hw
  obtain ⟨h1, h2, h3⟩ := h
  rw [X4_add, h1, K900, jle_f hl (by omega), chk_in hl (by omega), ix_nI (by omega), lq, gsn (by omega), h1, lq, K1, nadd]
  refine ⟨_, rfl, ⟨?_, ?_, fun i hi => ?_⟩, (Fr.si (by unfold s01; omega)).tr (Fr.si (by unfold s01; omega))⟩
  · rw [gss, List.length_append]; rfl
  · rw [List.length_append]
    show cd.length + 1 ≤ 900
    omega
  · rw [List.length_append] at hi
    have hi : i < cd.length + 1 := hi
    rw [gsn (by omega)]
    by_cases he : i = cd.length
    · subst he
      rw [gss, gdr]
    · rw [gsi he, gdl (by omega)]
      exact h3 i (by omega)
theorem c_law0 {m : Mem} {a : Nat} : LawC (si m a 1 (nI 0)) a [] := ⟨gss, Nat.zero_le _, fun i hi => absurd hi (Nat.not_lt_zero _)⟩
def s36 (a c : Nat) : Prop := a + 3 ≤ c ∧ c ≤ a + 6
theorem LawC.f {m m2 : Mem} {a b : Nat} {cd : List Nat} {S : Nat → Prop} (h : LawC m b cd) (hf : Fr S m m2) (hb : ¬ S b) (hb1 : ¬ S (b + 1)) : LawC m2 b cd := h.fr (fun c h1 h2 j => by
  have hc : c = b ∨ c = b + 1 := by omega
  rcases hc with rfl | rfl
  · exact (hf _ hb j).1
  · exact (hf _ hb1 j).1)
theorem c_setFirst {m : Mem} {a : Nat} : ∃ m2, X8_setFirstLaws a m = some ((), m2) ∧ LawC m2 (a + 3) [1001, 1002, 2, 3002, 3001] ∧ LawC m2 (a + 5) [1] ∧ Fr (s36 a) m m2 := by
  obtain ⟨m1, a1, b1, c1⟩ := c_add (m := si m (a + 3) 1 (nI 0)) (a := a + 3) (v := 1001) (w := (-1) - 1) (by decide) c_law0 (by decide)
  obtain ⟨m2, a2, b2, c2⟩ := c_add (m := m1) (a := a + 3) (v := 1002) (w := (-1) - 2) (by decide) b1 (by decide)
  obtain ⟨m3, a3, b3, c3⟩ := c_add (m := m2) (a := a + 3) (v := 2) (w := 2) (by decide) b2 (by decide)
  obtain ⟨m4, a4, b4, c4⟩ := c_add (m := m3) (a := a + 3) (v := 3002) (w := -10) (by decide) b3 (by decide)
  obtain ⟨m5, a5, b5, c5⟩ := c_add (m := m4) (a := a + 3) (v := 3001) (w := -9) (by decide) b4 (by decide)
  obtain ⟨m6, a6, b6, c6⟩ := c_add (m := si m5 (a + 5) 1 (nI 0)) (a := a + 5) (v := 1) (w := 1) (by decide) c_law0 (by decide)
  have f0 : Fr (s36 a) m (si m (a + 3) 1 (nI 0)) := Fr.si (by unfold s36; omega)
  have g : ∀ {x y : Mem}, Fr (s01 (a + 3)) x y → Fr (s36 a) x y := fun h => h.mono (fun c q => by unfold s01 at q; unfold s36; omega)
  have f5 : Fr (s36 a) m5 (si m5 (a + 5) 1 (nI 0)) := Fr.si (by unfold s36; omega)
  have g6 : Fr (s36 a) (si m5 (a + 5) 1 (nI 0)) m6 := c6.mono (fun c q => by unfold s01 at q; unfold s36; omega)
  refine ⟨m6, ?_, ?_, b6, ((((((f0.tr (g c1)).tr (g c2)).tr (g c3)).tr (g c4)).tr (g c5)).tr f5).tr g6⟩
  · rw [X8_setFirstLaws, ← L0] at *
    simp only [lq, X4_ofTerm, bq, a1, a2, a3, a4, a5, a6]
  · have h5 : LawC (si m5 (a + 5) 1 (nI 0)) (a + 3) [1001, 1002, 2, 3002, 3001] := b5.fr (fun c q1 q2 j => gsn (by omega))
    exact h5.f (a := a) c6 (by unfold s01; omega) (by unfold s01; omega)
theorem c_lbecome {m : Mem} {a b : Nat} {cd : List Nat} (hab : a + 1 < b ∨ b + 1 < a) (h : LawC m b cd) : ∃ m2, X4_become a b m = some ((), m2) ∧ LawC m2 a cd ∧ Fr (s01 a) m m2 := by
  obtain ⟨h1, h2, h3⟩ := h
  have hz : ¬ nI cd.length < 0 := by rw [L0, nI_ltI (by omega) (by omega)]; omega
  have hc : decide (¬ (0 : Int32) < 0 ∧ ¬ (0 : Int32) < 0 ∧ ¬ (nI cd.length : Int32) < 0 ∧ ix 0 + ix (nI cd.length) ≤ 900 ∧ ix 0 + ix (nI cd.length) ≤ 900) = true := by
    rw [ix_nI (by omega), i0]
    exact decide_eq_true ⟨by decide, by decide, hz, by omega, by omega⟩
  rw [X4_become, h1, lq, gsn (by omega), h1, chk_tt hc, lq, ix_nI (by omega), i0]
  refine ⟨_, rfl, ⟨?_, h2, fun i hi => ?_⟩, (Fr.si (by unfold s01; omega)).tr (cpm_f (by unfold s01; omega))⟩
  · rw [gcn (by omega), gss]
  · rw [gcd' hi, gsn (by omega)]
    exact h3 i hi
def s06 (a c : Nat) : Prop := a ≤ c ∧ c ≤ a + 6
theorem c_rbecome {r : Ru} {m : Mem} {a b : Nat} (hT : rT r ≤ 14) (hP : rP r ≤ 8) (hab : a + 6 < b ∨ b + 6 < a) (h : CR r m b) : ∃ m2, X8_become a b m = some ((), m2) ∧ CR r m2 a ∧ Fr (s06 a) m m2 := by
  obtain ⟨h1, h2, h3, h4, h5, h6, h7, h8, h9⟩ := h
  rw [X8_become]
  simp (disch := omega) only [lq, gsn]
  rw [chk_tt (by decide), chk_tt (by decide), i0, i8, i14, h1, h2, h3, h4, h5]
  generalize hm7 : cpm (cpm (si (si (si (si (si m a 0 (nI (rT r))) a 1 (nI (rP r))) a 2 (nI (rbar r))) a 3 (nI (rroom r))) a 4 (nI (rlin r))) (b + 1) (a + 1) 0 0 14) (b + 2) (a + 2) 0 0 8 = m7
  have f7 : Fr (s06 a) m m7 := by
    rw [← hm7]
    exact ((((((Fr.si (by unfold s06; omega)).tr (Fr.si (by unfold s06; omega))).tr (Fr.si (by unfold s06; omega))).tr (Fr.si (by unfold s06; omega))).tr (Fr.si (by unfold s06; omega))).tr (cpm_f (by unfold s06; omega))).tr (cpm_f (by unfold s06; omega))
  have k : ∀ c, b ≤ c → c ≤ b + 6 → ∀ j, gi m7 c j = gi m c j := fun c q1 q2 j => (f7 c (by unfold s06; omega) j).1
  obtain ⟨m8, a1, a2, a3⟩ := c_lbecome (a := a + 3) (b := b + 3) (by omega) (h8.fr (fun c q1 q2 j => k c (by omega) (by omega) j))
  obtain ⟨m9, b1, b2, b3⟩ := c_lbecome (a := a + 5) (b := b + 5) (m := m8) (by omega) (h9.fr (fun c q1 q2 j => by rw [(a3 c (by unfold s01; omega) j).1, k c (by omega) (by omega)]))
  rw [a1, bq, b1, bq]
  have q : ∀ c, c ≤ a + 2 → ∀ j, gi m9 c j = gi m7 c j := fun c hc j => by rw [(b3 c (by unfold s01; omega) j).1, (a3 c (by unfold s01; omega) j).1]
  refine ⟨m9, rfl, ⟨?_, ?_, ?_, ?_, ?_, fun t ht => ?_, fun p hp => ?_, ?_, b2⟩, (f7.tr (a3.mono (fun c q => by unfold s01 at q; unfold s06; omega))).tr (b3.mono (fun c q => by unfold s01 at q; unfold s06; omega))⟩
  · rw [q a (by omega), ← hm7, gcn (by omega), gcn (by omega), gsi (by omega), gsi (by omega), gsi (by omega), gsi (by omega), gss]
  · rw [q a (by omega), ← hm7, gcn (by omega), gcn (by omega), gsi (by omega), gsi (by omega), gsi (by omega), gss]
  · rw [q a (by omega), ← hm7, gcn (by omega), gcn (by omega), gsi (by omega), gsi (by omega), gss]
  · rw [q a (by omega), ← hm7, gcn (by omega), gcn (by omega), gsi (by omega), gss]
  · rw [q a (by omega), ← hm7, gcn (by omega), gcn (by omega), gss]
  · rw [q (a + 1) (by omega), ← hm7, gcn (by omega), gcd' (by omega), gsn (by omega), gsn (by omega), gsn (by omega), gsn (by omega), gsn (by omega)]
    exact h6 t ht
  · rw [q (a + 2) (by omega), ← hm7, gcd' (by omega), gcn (by omega), gsn (by omega), gsn (by omega), gsn (by omega), gsn (by omega), gsn (by omega)]
    exact h7 p hp
  · exact a2.f (a := a) b3 (by unfold s01; omega) (by unfold s01; omega)
/-! new cells -/
theorem gnw {m : Mem} {a c j : Nat} (h : c ≠ a) : gi (nw m a) c j = gi m c j := by
  show (if c = a then 0 else m.1 c j) = _
  rw [if_neg h]; rfl
theorem gnz {m : Mem} {a j : Nat} : gi (nw m a) a j = 0 := by
  show (if a = a then 0 else m.1 a j) = _
  rw [if_pos rfl]
theorem glw {m : Mem} {a c j : Nat} (h : c ≠ a) : gl (nw m a) c j = gl m c j := by
  show (if c = a then 0 else m.2 c j) = _
  rw [if_neg h]; rfl
theorem nw_f {S : Nat → Prop} {m : Mem} {a : Nat} (h : S a) : Fr S m (nw m a) := fun c hc j => ⟨gnw (fun q => hc (q ▸ h)), glw (fun q => hc (q ▸ h))⟩
def s1d (a c : Nat) : Prop := a + 1 ≤ c ∧ c ≤ a + 13
theorem c_X8_init {m : Mem} {a : Nat} : ∃ m2, X8_init a m = some ((), m2) ∧ Fr (s06 a) m m2 ∧ LawC m2 (a + 3) [1001, 1002, 2, 3002, 3001] ∧ LawC m2 (a + 5) [1] ∧ gi m2 a 0 = gi m a 0 ∧ gi m2 a 1 = gi m a 1 ∧ gi m2 a 2 = 10 ∧ gi m2 a 3 = 14 ∧ gi m2 a 4 = gi m a 4 := by
  rw [X8_init, X4_init, bq, X4_init, bq]
  generalize hm3 : si (si (nw (nw (nw (nw (nw (nw m (a + 1)) (a + 2)) (a + 3)) (a + 3 + 1)) (a + 5)) (a + 5 + 1)) a 2 10) a 3 14 = m3
  have f3 : Fr (s06 a) m m3 := by
    rw [← hm3]
    exact (((((((nw_f (by unfold s06; omega)).tr (nw_f (by unfold s06; omega))).tr (nw_f (by unfold s06; omega))).tr (nw_f (by unfold s06; omega))).tr (nw_f (by unfold s06; omega))).tr (nw_f (by unfold s06; omega))).tr (Fr.si (by unfold s06; omega))).tr (Fr.si (by unfold s06; omega))
  have k : ∀ j, j ≠ 2 → j ≠ 3 → gi m3 a j = gi m a j := fun j h2 h3 => by
    rw [← hm3, gsi h3, gsi h2, gnw (by omega), gnw (by omega), gnw (by omega), gnw (by omega), gnw (by omega), gnw (by omega)]
  obtain ⟨m4, a1, a2, a3, a4⟩ := c_setFirst (m := m3) (a := a)
  have q : ∀ j, gi m4 a j = gi m3 a j := fun j => (a4 a (by unfold s36; omega) j).1
  rw [a1, bq]
  refine ⟨m4, rfl, f3.tr (a4.mono (fun c q => by unfold s36 at q; unfold s06; omega)), a2, a3, ?_, ?_, ?_, ?_, ?_⟩
  · rw [q, k 0 (by omega) (by omega)]
  · rw [q, k 1 (by omega) (by omega)]
  · rw [q, ← hm3, gsi (by omega), gss]
  · rw [q, ← hm3, gss]
  · rw [q, k 4 (by omega) (by omega)]
theorem c_X5_init {m : Mem} {a : Nat} : ∃ m2, X5_init a m = some ((), m2) ∧ Fr (s05 a) m m2 := by
  rw [X5_init]
  refine ⟨_, rfl, ?_⟩
  have h2 : s05 a (a + 2) := by unfold s05; omega
  exact (((((((((((((nw_f (by unfold s05; omega)).tr (nw_f (by unfold s05; omega))).tr (nw_f (by unfold s05; omega))).tr (nw_f (by unfold s05; omega))).tr (nw_f (by unfold s05; omega))).tr (Fr.si h2)).tr (Fr.si h2)).tr (Fr.si h2)).tr (Fr.si h2)).tr (Fr.si h2)).tr (Fr.si h2)).tr (Fr.si h2)).tr (Fr.si h2))
theorem c_X3_init {m : Mem} {a : Nat} : ∃ m2, X3_init a m = some ((), m2) ∧ Fr (s1d a) m m2 := by
  obtain ⟨m1, a1, a2, _⟩ := c_X8_init (m := nw m (a + 1)) (a := a + 1)
  obtain ⟨m2, b1, b2⟩ := c_X5_init (m := nw m1 (a + 8)) (a := a + 8)
  rw [X3_init, a1, bq, b1, bq]
  refine ⟨m2, rfl, (((nw_f (by unfold s1d; omega)).tr (a2.mono (fun c q => by unfold s06 at q; unfold s1d; omega))).tr (nw_f (by unfold s1d; omega))).tr (b2.mono (fun c q => by unfold s05 at q; unfold s1d; omega))⟩
