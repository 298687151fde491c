/-! laws -/
def kw (v : Int64) : Int32 := if lg_cmp v 1000000 ≤ 0 then (if 0 ≤ lg_cmp v (-1000000) then Int64.toInt32 v else (-1000000)) else 1000000
def jn (v : Nat) (a b : Int32) : Int32 := if v = 3000 then kw (Int32.toInt64 a + Int32.toInt64 b) else if v = 3001 then kw (Int32.toInt64 a - Int32.toInt64 b) else if v = 3002 then kw (Int32.toInt64 a * Int32.toInt64 b) else if v = 3003 then (if a = b then 1 else 0) else if v = 3004 then (if a < b then 1 else 0) else if v = 3005 then (if b < a then 1 else 0) else if v = 3006 then (if a = 1 ∧ b = 1 then 1 else 0) else (if a = 1 ∨ b = 1 then 1 else 0)
def stp (w : Nat → Nat) (v : Nat) (st : List Int32) : List Int32 := if v < 1000 then nI v :: st else if v < 3000 then nI (w (v - 1000)) :: st else if v = 3008 then (match st with
  | a :: s => (1 - a) :: s
  | [] => []) else (match st with
  | b :: a :: s => jn v a b :: s
  | s => s)
def evs (w : Nat → Nat) : List Nat → List Int32 → List Int32
  | [], st => st
  | v :: cd, st => evs w cd (stp w v st)
def okn (b : Bool) (v : Int32) : Prop := match b with
  | true => v = 0 ∨ v = 1
  | false => -1000000 ≤ v.toInt ∧ v.toInt ≤ 1000000
def okv : List Bool → List Int32 → Prop
  | [], [] => True
  | b :: bs, v :: vs => okn b v ∧ okv bs vs
  | _, _ => False
theorem okv_len : ∀ {ts : List Bool} {st : List Int32}, okv ts st → st.length = ts.length
  | [], [], _ => rfl
  | b :: bs, v :: vs, h => by
    have := okv_len h.2
    simp [this]
  | [], _ :: _, h => h.elim
  | _ :: _, [], h => h.elim
def tst (v : Nat) (ts ts2 : List Bool) : Prop := (v < 1000 ∧ ts2 = false :: ts) ∨ (1000 ≤ v ∧ v < 1007 ∧ ts2 = false :: ts) ∨ (v = 3008 ∧ ts2 = ts ∧ ∃ s, ts = true :: s) ∨ ((v = 3006 ∨ v = 3007) ∧ ∃ s, ts = true :: true :: s ∧ ts2 = true :: s) ∨ ((v = 3000 ∨ v = 3001 ∨ v = 3002) ∧ ∃ s, ts = false :: false :: s ∧ ts2 = false :: s) ∨ ((v = 3003 ∨ v = 3004 ∨ v = 3005) ∧ ∃ s, ts = false :: false :: s ∧ ts2 = true :: s)
theorem tyc_step {v : Nat} {cd : List Nat} {ts u : List Bool} (h : tyc (v :: cd) ts = some u) : ts.length < 20 ∧ ∃ ts2, tst v ts ts2 ∧ tyc cd ts2 = some u := by
  rw [tyc.eq_def] at h
  simp only at h
  by_cases h0 : ts.length < 20
  · refine ⟨h0, ?_⟩
    rw [if_pos h0] at h
    by_cases h1 : v < 1000
    · rw [if_pos h1] at h
      exact ⟨_, Or.inl ⟨h1, rfl⟩, h⟩
    · rw [if_neg h1] at h
      by_cases h2 : 1000 ≤ v ∧ v < 1007
      · rw [if_pos h2] at h
        exact ⟨_, Or.inr (Or.inl ⟨h2.1, h2.2, rfl⟩), h⟩
      · rw [if_neg h2] at h
        match ts, h with
        | true :: s, h =>
          simp only at h
          by_cases h3 : v = 3008
          · rw [if_pos h3] at h
            exact ⟨_, Or.inr (Or.inr (Or.inl ⟨h3, rfl, s, rfl⟩)), h⟩
          · rw [if_neg h3] at h
            match s, h with
            | true :: s2, h =>
              simp only at h
              by_cases h4 : v = 3006 ∨ v = 3007
              · rw [if_pos h4] at h
                exact ⟨_, Or.inr (Or.inr (Or.inr (Or.inl ⟨h4, s2, rfl, rfl⟩))), h⟩
              · rw [if_neg h4] at h; cases h
            | false :: s2, h => simp at h
            | [], h => simp at h
        | false :: false :: s, h =>
          simp only at h
          by_cases h3 : v = 3000 ∨ v = 3001 ∨ v = 3002
          · rw [if_pos h3] at h
            exact ⟨_, Or.inr (Or.inr (Or.inr (Or.inr (Or.inl ⟨h3, s, rfl, rfl⟩)))), h⟩
          · rw [if_neg h3] at h
            by_cases h4 : v = 3003 ∨ v = 3004 ∨ v = 3005
            · rw [if_pos h4] at h
              exact ⟨_, Or.inr (Or.inr (Or.inr (Or.inr (Or.inr ⟨h4, s, rfl, rfl⟩)))), h⟩
            · rw [if_neg h4] at h; cases h
        | false :: true :: s, h => simp at h
        | [false], h => simp at h
        | [], h => simp at h
  · rw [if_neg h0] at h; cases h
theorem kw_ok (v : Int64) : okn false (kw v) := by
  unfold okn kw
  simp only
  by_cases h1 : lg_cmp v 1000000 ≤ 0
  · rw [if_pos h1]
    by_cases h2 : 0 ≤ lg_cmp v (-1000000)
    · rw [if_pos h2]
      rw [lg_cmp_le, Int64.le_iff_toInt_le] at h1
      rw [lg_cmp_ge, Int64.le_iff_toInt_le] at h2
      have e1 : (1000000 : Int64).toInt = 1000000 := by decide
      have e2 : (-1000000 : Int64).toInt = -1000000 := by decide
      rw [Int64.toInt_toInt32, Int.bmod_def]
      omega
    · rw [if_neg h2]; decide
  · rw [if_neg h1]; decide
theorem if01 {c : Prop} [Decidable c] : okn true (if c then (1 : Int32) else 0) := by
  unfold okn
  by_cases h : c
  · rw [if_pos h]; exact Or.inr rfl
  · rw [if_neg h]; exact Or.inl rfl
theorem stp_ok {w : Nat → Nat} (hw : ∀ k, k < 7 → w k ≤ 1000000) {v : Nat} {ts ts2 : List Bool} {st : List Int32} (h : tst v ts ts2) (hs : okv ts st) : okv ts2 (stp w v st) := by
  rcases h with ⟨h1, rfl⟩ | ⟨h1, h2, rfl⟩ | ⟨h1, rfl, s, rfl⟩ | ⟨h1, s, rfl, rfl⟩ | ⟨h1, s, rfl, rfl⟩ | ⟨h1, s, rfl, rfl⟩
  · rw [stp.eq_def, if_pos h1]
    refine ⟨?_, hs⟩
    show _ ∧ _
    rw [tI (by omega)]
    omega
  · rw [stp.eq_def, if_neg (by omega), if_pos (by omega)]
    refine ⟨?_, hs⟩
    have := hw (v - 1000) (by omega)
    show _ ∧ _
    rw [tI (by omega)]
    omega
  · subst h1
    match st, hs with
    | a :: s2, hs =>
      refine ⟨?_, hs.2⟩
      rcases hs.1 with e | e <;> subst e
      · exact Or.inr (by decide)
      · exact Or.inl (by decide)
  · match st, hs with
    | a :: b :: s2, hs =>
      rcases h1 with e | e <;> subst e
      · exact ⟨if01, hs.2.2⟩
      · exact ⟨if01, hs.2.2⟩
  · match st, hs with
    | a :: b :: s2, hs =>
      rcases h1 with e | e | e <;> subst e
      · exact ⟨kw_ok _, hs.2.2⟩
      · exact ⟨kw_ok _, hs.2.2⟩
      · exact ⟨kw_ok _, hs.2.2⟩
  · match st, hs with
    | a :: b :: s2, hs =>
      rcases h1 with e | e | e <;> subst e
      · exact ⟨if01, hs.2.2⟩
      · exact ⟨if01, hs.2.2⟩
      · exact ⟨if01, hs.2.2⟩
theorem evs_ok {w : Nat → Nat} (hw : ∀ k, k < 7 → w k ≤ 1000000) {u : List Bool} : ∀ {cd : List Nat} {ts : List Bool} {st : List Int32}, tyc cd ts = some u → okv ts st → okv u (evs w cd st)
  | [], ts, st, h, hs => by
    rw [tyc.eq_def] at h
    simp only [Option.some.injEq] at h
    subst h
    exact hs
  | v :: cd, ts, st, h, hs => by
    obtain ⟨_, ts2, h2, h3⟩ := tyc_step h
    exact evs_ok (cd := cd) hw h3 (stp_ok hw h2 hs)
/-- a stack in a cell -/
def SK (c : Nat) (m : Mem) : List Int32 → Prop
  | [] => True
  | v :: st => gi m c st.length = v ∧ SK c m st
theorem SK.wr {c : Nat} {m : Mem} {j : Nat} {v : Int32} : ∀ {st : List Int32}, SK c m st → st.length ≤ j → SK c (si m c j v) st
  | [], _, _ => True.intro
  | a :: st, h, hl => by
    have hl2 : st.length + 1 ≤ j := hl
    refine ⟨?_, SK.wr h.2 (by omega)⟩
    rw [gsi (by omega)]
    exact h.1
theorem SK.push {c : Nat} {m : Mem} {v : Int32} {st : List Int32} (h : SK c m st) : SK c (si m c st.length v) (v :: st) := ⟨gss, h.wr (Nat.le_refl _)⟩
/-! the class -/
theorem c_join {v : Nat} {a b : Int32} {ts ts2 : List Bool} {st : List Int32} (h : tst v ts ts2) (hv : 3000 ≤ v) (hn : v ≠ 3008) (hs : okv ts (b :: a :: st)) (m : Mem) : ∃ u, X0_join (ccode v) (Int32.toInt64 a) (Int32.toInt64 b) m = some (u, m) ∧ X0_keepWithin u m = some (jn v a b, m) := by
  have kk : ∀ u : Int64, X0_keepWithin u m = some (kw u, m) := fun u => by
    unfold X0_keepWithin kw
    split <;> (try split) <;> rfl
  have k0 : X0_keepWithin 0 m = some (0, m) := by rw [kk]; congr 1
  have k1 : X0_keepWithin 1 m = some (1, m) := by rw [kk]; congr 1
  rcases h with ⟨h1, rfl⟩ | ⟨h1, h2, rfl⟩ | ⟨h1, rfl, s, rfl⟩ | ⟨h1, s, rfl, rfl⟩ | ⟨h1, s, rfl, rfl⟩ | ⟨h1, s, rfl, rfl⟩
  · omega
  · omega
  · omega
  · obtain ⟨hb, ha, _⟩ := hs
    rcases h1 with e | e <;> subst e
    · rcases ha with e | e <;> subst e <;> rcases hb with e | e <;> subst e <;> exact ⟨_, rfl, by first | exact k0 | exact k1⟩
    · rcases ha with e | e <;> subst e <;> rcases hb with e | e <;> subst e <;> exact ⟨_, rfl, by first | exact k0 | exact k1⟩
  · rcases h1 with e | e | e <;> subst e
    · exact ⟨_, rfl, kk _⟩
    · exact ⟨_, rfl, kk _⟩
    · exact ⟨_, rfl, kk _⟩
  · rcases h1 with e | e | e <;> subst e
    · have e : X0_join (ccode 3003) (Int32.toInt64 a) (Int32.toInt64 b) m = if lg_cmp (Int32.toInt64 a) (Int32.toInt64 b) = 0 then some (1, m) else some (0, m) := rfl
      rw [e]
      by_cases q : a = b
      · rw [if_pos (by rw [lg_cmp_eq, q])]
        exact ⟨_, rfl, by rw [k1]; unfold jn; simp [q]⟩
      · rw [if_neg (by rw [lg_cmp_eq, toI64_eq]; exact q)]
        exact ⟨_, rfl, by rw [k0]; unfold jn; simp [q]⟩
    · have e : X0_join (ccode 3004) (Int32.toInt64 a) (Int32.toInt64 b) m = if 0 ≤ lg_cmp (Int32.toInt64 a) (Int32.toInt64 b) then some (0, m) else some (1, m) := rfl
      rw [e]
      by_cases q : a < b
      · rw [if_neg (by rw [lg_cmp_ge, toI64_le, le_iff]; rw [lt_iff] at q; omega)]
        exact ⟨_, rfl, by rw [k1]; unfold jn; simp [q]⟩
      · rw [if_pos (by rw [lg_cmp_ge, toI64_le, le_iff]; rw [lt_iff] at q; omega)]
        exact ⟨_, rfl, by rw [k0]; unfold jn; simp [q]⟩
    · have e : X0_join (ccode 3005) (Int32.toInt64 a) (Int32.toInt64 b) m = if lg_cmp (Int32.toInt64 a) (Int32.toInt64 b) ≤ 0 then some (0, m) else some (1, m) := rfl
      rw [e]
      by_cases q : b < a
      · rw [if_neg (by rw [lg_cmp_le, toI64_le, le_iff]; rw [lt_iff] at q; omega)]
        exact ⟨_, rfl, by rw [k1]; unfold jn; simp [q]⟩
      · rw [if_pos (by rw [lg_cmp_le, toI64_le, le_iff]; rw [lt_iff] at q; omega)]
        exact ⟨_, rfl, by rw [k0]; unfold jn; simp [q]⟩
theorem ccode_lit {v : Nat} (h : v < 1000) : ccode v = nI v := by unfold ccode; rw [if_pos h]
theorem drop_get {cd : List Nat} {k v : Nat} {c2 : List Nat} (h : cd.drop k = v :: c2) : k < cd.length ∧ cd.getD k 0 = v ∧ cd.drop (k + 1) = c2 := by
  have hl : k < cd.length := by
    apply Classical.byContradiction
    intro q
    rw [List.drop_eq_nil_of_le (by omega)] at h
    cases h
  rw [List.drop_eq_getElem_cons hl] at h
  injection h with h1 h2
  refine ⟨hl, ?_, h2⟩
  rw [← h1, List.getD_eq_getElem?_getD, List.getElem?_eq_getElem hl]
  rfl
theorem SK.set {c : Nat} {m : Mem} {a v : Int32} {st : List Int32} (h : SK c m (a :: st)) : SK c (si m c st.length v) (v :: st) := ⟨gss, h.2.wr (Nat.le_refl _)⟩
theorem SK.set2 {c : Nat} {m : Mem} {a b v : Int32} {st : List Int32} (h : SK c m (b :: a :: st)) : SK c (si m c st.length v) (v :: st) := ⟨gss, h.2.2.wr (Nat.le_refl _)⟩
theorem nI_nlt7 {v : Nat} (h : v < 2147483648) : ¬ nI v < (-7 : Int32) := by
  rw [lt_iff, tI h, show (-7 : Int32).toInt = -7 by decide]
  omega
theorem nI_nlt0 {v : Nat} (h : v < 2147483648) : ¬ nI v < (0 : Int32) := by
  rw [lt_iff, tI h, zI]
  omega
theorem nI_n32 {v : Nat} (h : v < 32) : ¬ (32 : Int32) ≤ nI v := by
  rw [le_iff, tI (by omega), show (32 : Int32).toInt = 32 by decide]
  omega
theorem ccode_word {v : Nat} (h1 : 1000 ≤ v) (h2 : v < 1007) : ¬ ccode v < -7 ∧ ccode v < 0 ∧ (-1) - ccode v = nI (v - 1000) := by
  have : v = 1000 ∨ v = 1001 ∨ v = 1002 ∨ v = 1003 ∨ v = 1004 ∨ v = 1005 ∨ v = 1006 := by omega
  rcases this with h | h | h | h | h | h | h <;> subst h <;> decide
theorem ccode_bin {v : Nat} (h1 : 3000 ≤ v) (h2 : v < 3008) : ccode v < -7 ∧ ¬ ccode v = -14 := by
  have : v = 3000 ∨ v = 3001 ∨ v = 3002 ∨ v = 3003 ∨ v = 3004 ∨ v = 3005 ∨ v = 3006 ∨ v = 3007 := by omega
  rcases this with h | h | h | h | h | h | h | h <;> subst h <;> decide
theorem tst_bin {v : Nat} {ts ts2 : List Bool} {st : List Int32} (h : tst v ts ts2) (h1 : 3000 ≤ v) (h2 : v ≠ 3008) (hs : okv ts st) : v < 3008 ∧ ∃ b a s, st = b :: a :: s ∧ ∀ w, stp w v st = jn v a b :: s := by
  have k : ∀ {b1 b2 : Bool} {s : List Bool}, okv (b1 :: b2 :: s) st → ∃ b a s, st = b :: a :: s := by
    intro b1 b2 s hs
    match st, hs with
    | b :: a :: s, _ => exact ⟨b, a, s, rfl⟩
  have k2 : v < 3008 ∧ ∃ b a s, st = b :: a :: s := by
    rcases h with ⟨h1, rfl⟩ | ⟨h1, h2, rfl⟩ | ⟨h1, rfl, s, rfl⟩ | ⟨h1, s, rfl, rfl⟩ | ⟨h1, s, rfl, rfl⟩ | ⟨h1, s, rfl, rfl⟩
    · omega
    · omega
    · omega
    · exact ⟨by omega, k hs⟩
    · exact ⟨by omega, k hs⟩
    · exact ⟨by omega, k hs⟩
  obtain ⟨h3, b, a, s, rfl⟩ := k2
  exact ⟨h3, b, a, s, rfl, fun w => by rw [stp.eq_def, if_neg (by omega), if_neg (by omega), if_neg h2]⟩
theorem c_reckon_loop {m0 : Mem} {b : Nat} {w : Nat → Nat} {cd : List Nat} {u : Bool} (hb : b + 1 < 23) (hw : ∀ k, k < 7 → w k ≤ 1000000) (hw2 : ∀ k, k < 7 → gi m0 23 k = nI (w k)) (hL : LawC m0 b cd) : ∀ (c2 : List Nat) (n k : Nat) (ts : List Bool) (st : List Int32) (m : Mem), k ≤ cd.length → cd.drop k = c2 → c2.length < n → tyc c2 ts = some [u] → okv ts st → SK 24 m st → Fr (fun c => c = 24) m0 m → ∃ v m2, X0_reckon_b4 b n (nI st.length) (nI k) m = some (v, m2) ∧ evs w c2 st = [v] ∧ Fr (fun c => c = 24) m0 m2 := by
  intro c2
  induction c2 with
  | nil =>
    intro n k ts st m hk0 hd hn ht hs hk hf
    obtain ⟨l1, l2, l3⟩ := hL
    have hkl : cd.length = k := by
      have := congrArg List.length hd
      rw [List.length_drop] at this
      simp at this
      omega
    cases n with
    | zero => simp at hn
    | succ n =>
      rw [tyc.eq_def] at ht
      simp only [Option.some.injEq] at ht
      subst ht
      match st, hs, hk with
      | [a], hs, hk =>
        rw [X0_reckon_b4, (hf b (by omega) 1).1, l1, if_pos (by rw [hkl]; exact nI_le (by omega) (by omega)), chk_tt (by decide)]
        refine ⟨a, m, ?_, rfl, hf⟩
        have e : gi m 24 (ix 0) = a := hk.1
        rw [e]
  | cons v c2 ih =>
    intro n k ts st m hk0 hd hn ht hs hk hf
    obtain ⟨d1, d2, d3⟩ := drop_get hd
    obtain ⟨hlen, ts2, hst, ht2⟩ := tyc_step ht
    have hsl := okv_len hs
    have l1 := hL.1; have l2 := hL.2.1; have l3 := hL.2.2 k d1
    have ho := stp_ok hw hst hs
    cases n with
    | zero => simp at hn
    | succ n =>
      have hn2 : c2.length < n := by simp at hn; omega
      rw [d2, ← (hf (b + 1) (by omega) k).1] at l3
      rw [X0_reckon_b4, (hf b (by omega) 1).1, l1, if_neg (fun q => absurd ((nI_leI (by omega) (by omega)).mp q) (by omega)), chk_in (show k < 900 by omega) (by decide), lq, ix_nI (by omega), l3]
      have hs1 := hst
      rcases hs1 with ⟨h1, rfl⟩ | ⟨h1, h2, rfl⟩ | ⟨h1, rfl, s, rfl⟩ | ⟨h1, s, rfl, rfl⟩ | ⟨h1, s, rfl, rfl⟩ | ⟨h1, s, rfl, rfl⟩
      · rw [ccode_lit h1, if_neg (nI_nlt7 (by omega)), if_neg (nI_n32 (by omega)), if_neg (nI_nlt0 (by omega)), X0_reckon_b57]
        simp (disch := omega) only [nadn, gsn, gss, gsi, if_true, if_false, chk_in, chk_tt, bq, lq, ix_nI, jle_t, jle_f, jlt_t, jlt_f, jeq_t, jeq_f, nadd, nmul, nsub, nshl, nshl2, nor, nand, nandn, ↓kn1, K0, K1, K2, K3, K4, K5, K6, K7, K8, K9, K10, K11, K12, K13, K14, K20, K24, K25, K32, K33, K40, K41, K60, K63, K64, K100, K112, K120, K128, K129, K153, K161, K162, K163, K255, K256, K900, K903, K999, K1000, K1195, K1196, K2000, K2096, K3000, K3001, K3002, K3003, K3004, K3005, K3006, K3007, K3008]
        have es : stp w v st = nI v :: st := by rw [stp.eq_def, if_pos h1]
        rw [es] at ho
        have r := ih n (k + 1) _ _ (si m 24 st.length (nI v)) (by omega) d3 hn2 ht2 ho hk.push (hf.tr (Fr.si rfl))
        rw [evs, es]
        exact r
      · obtain ⟨q1, q2, q3⟩ := ccode_word h1 h2
        have q4 := hw2 (v - 1000) (by omega)
        rw [← (hf 23 (by decide) (v - 1000)).1] at q4
        rw [if_neg q1, if_neg (nI_n32 (by omega)), if_pos q2, q3, chk_in (by omega) (by decide), ix_nI (by omega), q4, X0_reckon_b57]
        simp (disch := omega) only [nadn, gsn, gss, gsi, if_true, if_false, chk_in, chk_tt, bq, lq, ix_nI, jle_t, jle_f, jlt_t, jlt_f, jeq_t, jeq_f, nadd, nmul, nsub, nshl, nshl2, nor, nand, nandn, ↓kn1, K0, K1, K2, K3, K4, K5, K6, K7, K8, K9, K10, K11, K12, K13, K14, K20, K24, K25, K32, K33, K40, K41, K60, K63, K64, K100, K112, K120, K128, K129, K153, K161, K162, K163, K255, K256, K900, K903, K999, K1000, K1195, K1196, K2000, K2096, K3000, K3001, K3002, K3003, K3004, K3005, K3006, K3007, K3008]
        have es : stp w v st = nI (w (v - 1000)) :: st := by rw [stp.eq_def, if_neg (by omega), if_pos (by omega)]
        rw [es] at ho
        have r := ih n (k + 1) _ _ (si m 24 st.length (nI (w (v - 1000)))) (by omega) d3 hn2 ht2 ho hk.push (hf.tr (Fr.si rfl))
        rw [evs, es]
        exact r
      · subst h1
        match st, hs, hk, ho, hsl with
        | a :: st, hs, hk, ho, hsl =>
          simp only [List.length_cons] at hsl hlen ⊢
          rw [if_pos (by decide), if_pos (by decide), if_neg (by rw [le_iff, tI (by omega), zI]; omega)]
          have e0 : gi m 24 st.length = a := hk.1
          simp (disch := omega) only [chk_in, lq, ix_nI, K1, nsub, Nat.add_sub_cancel, nadd, e0]
          have es : stp w 3008 (a :: st) = (nI 1 - a) :: st := rfl
          rw [es] at ho
          have r := ih n (k + 1) _ _ (si m 24 st.length (nI 1 - a)) (by omega) d3 hn2 ht2 ho hk.set (hf.tr (Fr.si rfl))
          rw [evs, es]
          exact r
      · obtain ⟨z1, b2, a2, s2, rfl, z2⟩ := tst_bin hst (by omega) (by omega) hs
        obtain ⟨y1, y2⟩ := ccode_bin (v := v) (by omega) z1
        obtain ⟨u2, j1, j2⟩ := c_join hst (by omega) (by omega) hs m
        simp only [List.length_cons] at hsl hlen ⊢
        rw [if_pos y1, if_neg y2, if_neg (by rw [le_iff, tI (by omega), show (1 : Int32).toInt = 1 by decide]; omega)]
        have e0 : gi m 24 (s2.length + 1) = b2 := hk.1
        have e1 : gi m 24 s2.length = a2 := hk.2.1
        simp (disch := omega) only [↓kn1, chk_in, lq, ix_nI, K1, nadn, nsub, Nat.add_sub_cancel, nadd, e0, e1, j1, j2, bq]
        have es := z2 w
        rw [es] at ho
        have r := ih n (k + 1) _ _ (si m 24 s2.length (jn v a2 b2)) (by omega) d3 hn2 ht2 ho hk.set2 (hf.tr (Fr.si rfl))
        rw [evs, es]
        exact r
      · obtain ⟨z1, b2, a2, s2, rfl, z2⟩ := tst_bin hst (by omega) (by omega) hs
        obtain ⟨y1, y2⟩ := ccode_bin (v := v) (by omega) z1
        obtain ⟨u2, j1, j2⟩ := c_join hst (by omega) (by omega) hs m
        simp only [List.length_cons] at hsl hlen ⊢
        rw [if_pos y1, if_neg y2, if_neg (by rw [le_iff, tI (by omega), show (1 : Int32).toInt = 1 by decide]; omega)]
        have e0 : gi m 24 (s2.length + 1) = b2 := hk.1
        have e1 : gi m 24 s2.length = a2 := hk.2.1
        simp (disch := omega) only [↓kn1, chk_in, lq, ix_nI, K1, nadn, nsub, Nat.add_sub_cancel, nadd, e0, e1, j1, j2, bq]
        have es := z2 w
        rw [es] at ho
        have r := ih n (k + 1) _ _ (si m 24 s2.length (jn v a2 b2)) (by omega) d3 hn2 ht2 ho hk.set2 (hf.tr (Fr.si rfl))
        rw [evs, es]
        exact r
      · obtain ⟨z1, b2, a2, s2, rfl, z2⟩ := tst_bin hst (by omega) (by omega) hs
        obtain ⟨y1, y2⟩ := ccode_bin (v := v) (by omega) z1
        obtain ⟨u2, j1, j2⟩ := c_join hst (by omega) (by omega) hs m
        simp only [List.length_cons] at hsl hlen ⊢
        rw [if_pos y1, if_neg y2, if_neg (by rw [le_iff, tI (by omega), show (1 : Int32).toInt = 1 by decide]; omega)]
        have e0 : gi m 24 (s2.length + 1) = b2 := hk.1
        have e1 : gi m 24 s2.length = a2 := hk.2.1
        simp (disch := omega) only [↓kn1, chk_in, lq, ix_nI, K1, nadn, nsub, Nat.add_sub_cancel, nadd, e0, e1, j1, j2, bq]
        have es := z2 w
        rw [es] at ho
        have r := ih n (k + 1) _ _ (si m 24 s2.length (jn v a2 b2)) (by omega) d3 hn2 ht2 ho hk.set2 (hf.tr (Fr.si rfl))
        rw [evs, es]
        exact r
theorem c_reckon {m : Mem} {b : Nat} {w : Nat → Nat} {cd : List Nat} {u : Bool} (hb : b + 1 < 23) (hw : ∀ k, k < 7 → w k ≤ 1000000) (hw2 : ∀ k, k < 7 → gi m 23 k = nI (w k)) (hL : LawC m b cd) (ht : tyc cd [] = some [u]) : ∃ v m2, X0_reckon b m = some (v, m2) ∧ evs w cd [] = [v] ∧ Fr (fun c => c = 24) m m2 :=
  c_reckon_loop hb hw hw2 hL cd FU 0 [] [] m (Nat.zero_le _) rfl (by have := hL.2.1; unfold FU; omega) ht True.intro True.intro Fr.rf
/-! the reference -/
theorem m_between {v : Nat} {a b : Int32} {ts ts2 : List Bool} {st : List Int32} (h : tst v ts ts2) (hv : 3000 ≤ v) (hn : v ≠ 3008) (hs : okv ts (b :: a :: st)) (m : Mem) : X12_between (nI v) a b m = some (jn v a b, m) := by
  have kk : ∀ u : Int64, X12_between_b42 u m = some (kw u, m) := fun u => by
    unfold X12_between_b42 kw
    split <;> (try split) <;> rfl
  rcases h with ⟨h1, rfl⟩ | ⟨h1, h2, rfl⟩ | ⟨h1, rfl, s, rfl⟩ | ⟨h1, s, rfl, rfl⟩ | ⟨h1, s, rfl, rfl⟩ | ⟨h1, s, rfl, rfl⟩
  · omega
  · omega
  · omega
  · obtain ⟨hb, ha, _⟩ := hs
    rcases h1 with e | e <;> subst e
    · rcases ha with e | e <;> subst e <;> rcases hb with e | e <;> subst e <;> rfl
    · rcases ha with e | e <;> subst e <;> rcases hb with e | e <;> subst e <;> rfl
  · rcases h1 with e | e | e <;> subst e
    · exact kk _
    · exact kk _
    · exact kk _
  · rcases h1 with e | e | e <;> subst e
    · have e : X12_between (nI 3003) a b m = if a = b then some (1, m) else some (0, m) := rfl
      rw [e]
      unfold jn
      by_cases q : a = b <;> simp [q]
    · have e : X12_between (nI 3004) a b m = if b ≤ a then some (0, m) else some (1, m) := rfl
      rw [e]
      unfold jn
      by_cases q : a < b
      · rw [if_neg (by rw [le_iff]; rw [lt_iff] at q; omega)]
        simp [q]
      · rw [if_pos (by rw [le_iff]; rw [lt_iff] at q; omega)]
        simp [q]
    · have e : X12_between (nI 3005) a b m = if a ≤ b then some (0, m) else some (1, m) := rfl
      rw [e]
      unfold jn
      by_cases q : b < a
      · rw [if_neg (by rw [le_iff]; rw [lt_iff] at q; omega)]
        simp [q]
      · rw [if_pos (by rw [le_iff]; rw [lt_iff] at q; omega)]
        simp [q]
theorem m_reckon_loop {m0 : Mem} {l f : Nat} {w : Nat → Nat} {cd : List Nat} {u : Bool} (hl : l < 2) (hw : ∀ k, k < 7 → w k ≤ 1000000) (hw2 : ∀ k, k < 7 → gi m0 5 k = nI (w k)) (l1 : gi m0 1 (9 + l) = nI cd.length) (l2 : gi m0 1 (7 + l) = nI f) (l3 : f + cd.length ≤ 900) (l4 : ∀ i, i < cd.length → gi m0 1 (1196 + f + i) = nI (cd.getD i 0)) : ∀ (c2 : List Nat) (n k : Nat) (ts : List Bool) (st : List Int32) (m : Mem), k ≤ cd.length → cd.drop k = c2 → c2.length < n → tyc c2 ts = some [u] → okv ts st → SK 6 m st → Fr (fun c => c = 6) m0 m → ∃ v m2, X12_reckons_b4 n (nI l) (nI st.length) (nI k) m = some (v, m2) ∧ evs w c2 st = [v] ∧ Fr (fun c => c = 6) m0 m2 := by
  intro c2
  induction c2 with
  | nil =>
    intro n k ts st m hk0 hd hn ht hs hk hf
    have hkl : cd.length = k := by
      have := congrArg List.length hd
      rw [List.length_drop] at this
      simp at this
      omega
    cases n with
    | zero => simp at hn
    | succ n =>
      rw [tyc.eq_def] at ht
      simp only [Option.some.injEq] at ht
      subst ht
      match st, hs, hk with
      | [a], hs, hk =>
        rw [← (hf 1 (by decide) _).1] at l1
        have e : gi m 6 0 = a := hk.1
        rw [X12_reckons_b4]
        simp (disch := omega) only [nadn, gsn, gss, gsi, if_true, if_false, chk_in, chk_tt, bq, lq, ix_nI, jle_t, jle_f, jlt_t, jlt_f, jeq_t, jeq_f, nadd, nmul, nsub, nshl, nshl2, nor, nand, nandn, ↓kn1, K0, K1, K2, K3, K4, K5, K6, K7, K8, K9, K10, K11, K12, K13, K14, K20, K24, K25, K32, K33, K40, K41, K60, K63, K64, K100, K112, K120, K128, K129, K153, K161, K162, K163, K255, K256, K900, K903, K999, K1000, K1195, K1196, K2000, K2096, K3000, K3001, K3002, K3003, K3004, K3005, K3006, K3007, K3008, l1, e]
        exact ⟨a, m, rfl, rfl, hf⟩
  | cons v c2 ih =>
    intro n k ts st m hk0 hd hn ht hs hk hf
    obtain ⟨d1, d2, d3⟩ := drop_get hd
    obtain ⟨hlen, ts2, hst, ht2⟩ := tyc_step ht
    have hsl := okv_len hs
    have l5 := l4 k d1
    have ho := stp_ok hw hst hs
    cases n with
    | zero => simp at hn
    | succ n =>
      have hn2 : c2.length < n := by simp at hn; omega
      rw [d2, ← (hf 1 (by decide) _).1] at l5
      have l6 := l1; have l7 := l2
      rw [← (hf 1 (by decide) _).1] at l6 l7
      rw [X12_reckons_b4]
      have hs1 := hst
      rcases hs1 with ⟨h1, rfl⟩ | ⟨h1, h2, rfl⟩ | ⟨h1, rfl, s, rfl⟩ | ⟨h1, s, rfl, rfl⟩ | ⟨h1, s, rfl, rfl⟩ | ⟨h1, s, rfl, rfl⟩
      · simp (disch := omega) only [nadn, gsn, gss, gsi, if_true, if_false, chk_in, chk_tt, bq, lq, ix_nI, jle_t, jle_f, jlt_t, jlt_f, jeq_t, jeq_f, nadd, nmul, nsub, nshl, nshl2, nor, nand, nandn, ↓kn1, K0, K1, K2, K3, K4, K5, K6, K7, K8, K9, K10, K11, K12, K13, K14, K20, K24, K25, K32, K33, K40, K41, K60, K63, K64, K100, K112, K120, K128, K129, K153, K161, K162, K163, K255, K256, K900, K903, K999, K1000, K1195, K1196, K2000, K2096, K3000, K3001, K3002, K3003, K3004, K3005, K3006, K3007, K3008, l5, l6, l7, X12_reckons_b76]
        have es : stp w v st = nI v :: st := by rw [stp.eq_def, if_pos h1]
        rw [es] at ho
        have r := ih n (k + 1) _ _ (si m 6 st.length (nI v)) (by omega) d3 hn2 ht2 ho hk.push (hf.tr (Fr.si rfl))
        rw [evs, es]
        exact r
      · have q4 := hw2 (v - 1000) (by omega)
        rw [← (hf 5 (by decide) (v - 1000)).1] at q4
        simp (disch := omega) only [nadn, gsn, gss, gsi, if_true, if_false, chk_in, chk_tt, bq, lq, ix_nI, jle_t, jle_f, jlt_t, jlt_f, jeq_t, jeq_f, nadd, nmul, nsub, nshl, nshl2, nor, nand, nandn, ↓kn1, K0, K1, K2, K3, K4, K5, K6, K7, K8, K9, K10, K11, K12, K13, K14, K20, K24, K25, K32, K33, K40, K41, K60, K63, K64, K100, K112, K120, K128, K129, K153, K161, K162, K163, K255, K256, K900, K903, K999, K1000, K1195, K1196, K2000, K2096, K3000, K3001, K3002, K3003, K3004, K3005, K3006, K3007, K3008, l5, l6, l7, X12_reckons_b76, q4]
        have es : stp w v st = nI (w (v - 1000)) :: st := by rw [stp.eq_def, if_neg (by omega), if_pos (by omega)]
        rw [es] at ho
        have r := ih n (k + 1) _ _ (si m 6 st.length (nI (w (v - 1000)))) (by omega) d3 hn2 ht2 ho hk.push (hf.tr (Fr.si rfl))
        rw [evs, es]
        exact r
      · subst h1
        match st, hs, hk, ho, hsl with
        | a :: st, hs, hk, ho, hsl =>
          simp only [List.length_cons] at hsl hlen ⊢
          have e0 : gi m 6 st.length = a := hk.1
          simp (disch := omega) only [nadn, gsn, gss, gsi, if_true, if_false, chk_in, chk_tt, bq, lq, ix_nI, jle_t, jle_f, jlt_t, jlt_f, jeq_t, jeq_f, nadd, nmul, nsub, nshl, nshl2, nor, nand, nandn, ↓kn1, K0, K1, K2, K3, K4, K5, K6, K7, K8, K9, K10, K11, K12, K13, K14, K20, K24, K25, K32, K33, K40, K41, K60, K63, K64, K100, K112, K120, K128, K129, K153, K161, K162, K163, K255, K256, K900, K903, K999, K1000, K1195, K1196, K2000, K2096, K3000, K3001, K3002, K3003, K3004, K3005, K3006, K3007, K3008, l5, l6, l7, Nat.add_sub_cancel, e0]
          have es : stp w 3008 (a :: st) = (nI 1 - a) :: st := rfl
          rw [es] at ho
          have r := ih n (k + 1) _ _ (si m 6 st.length (nI 1 - a)) (by omega) d3 hn2 ht2 ho hk.set (hf.tr (Fr.si rfl))
          rw [evs, es]
          exact r
      · obtain ⟨z1, b2, a2, s2, rfl, z2⟩ := tst_bin hst (by omega) (by omega) hs
        have j1 := m_between hst (by omega) (by omega) hs m
        simp only [List.length_cons] at hsl hlen ⊢
        have e0 : gi m 6 (s2.length + 1) = b2 := hk.1
        have e1 : gi m 6 s2.length = a2 := hk.2.1
        simp (disch := omega) only [nadn, gsn, gss, gsi, if_true, if_false, chk_in, chk_tt, bq, lq, ix_nI, jle_t, jle_f, jlt_t, jlt_f, jeq_t, jeq_f, nadd, nmul, nsub, nshl, nshl2, nor, nand, nandn, ↓kn1, K0, K1, K2, K3, K4, K5, K6, K7, K8, K9, K10, K11, K12, K13, K14, K20, K24, K25, K32, K33, K40, K41, K60, K63, K64, K100, K112, K120, K128, K129, K153, K161, K162, K163, K255, K256, K900, K903, K999, K1000, K1195, K1196, K2000, K2096, K3000, K3001, K3002, K3003, K3004, K3005, K3006, K3007, K3008, l5, l6, l7, Nat.add_sub_cancel, e0, e1, j1]
        have es := z2 w
        rw [es] at ho
        have r := ih n (k + 1) _ _ (si m 6 s2.length (jn v a2 b2)) (by omega) d3 hn2 ht2 ho hk.set2 (hf.tr (Fr.si rfl))
        rw [evs, es]
        exact r
      · obtain ⟨z1, b2, a2, s2, rfl, z2⟩ := tst_bin hst (by omega) (by omega) hs
        have j1 := m_between hst (by omega) (by omega) hs m
        simp only [List.length_cons] at hsl hlen ⊢
        have e0 : gi m 6 (s2.length + 1) = b2 := hk.1
        have e1 : gi m 6 s2.length = a2 := hk.2.1
        simp (disch := omega) only [nadn, gsn, gss, gsi, if_true, if_false, chk_in, chk_tt, bq, lq, ix_nI, jle_t, jle_f, jlt_t, jlt_f, jeq_t, jeq_f, nadd, nmul, nsub, nshl, nshl2, nor, nand, nandn, ↓kn1, K0, K1, K2, K3, K4, K5, K6, K7, K8, K9, K10, K11, K12, K13, K14, K20, K24, K25, K32, K33, K40, K41, K60, K63, K64, K100, K112, K120, K128, K129, K153, K161, K162, K163, K255, K256, K900, K903, K999, K1000, K1195, K1196, K2000, K2096, K3000, K3001, K3002, K3003, K3004, K3005, K3006, K3007, K3008, l5, l6, l7, Nat.add_sub_cancel, e0, e1, j1]
        have es := z2 w
        rw [es] at ho
        have r := ih n (k + 1) _ _ (si m 6 s2.length (jn v a2 b2)) (by omega) d3 hn2 ht2 ho hk.set2 (hf.tr (Fr.si rfl))
        rw [evs, es]
        exact r
      · obtain ⟨z1, b2, a2, s2, rfl, z2⟩ := tst_bin hst (by omega) (by omega) hs
        have j1 := m_between hst (by omega) (by omega) hs m
        simp only [List.length_cons] at hsl hlen ⊢
        have e0 : gi m 6 (s2.length + 1) = b2 := hk.1
        have e1 : gi m 6 s2.length = a2 := hk.2.1
        simp (disch := omega) only [nadn, gsn, gss, gsi, if_true, if_false, chk_in, chk_tt, bq, lq, ix_nI, jle_t, jle_f, jlt_t, jlt_f, jeq_t, jeq_f, nadd, nmul, nsub, nshl, nshl2, nor, nand, nandn, ↓kn1, K0, K1, K2, K3, K4, K5, K6, K7, K8, K9, K10, K11, K12, K13, K14, K20, K24, K25, K32, K33, K40, K41, K60, K63, K64, K100, K112, K120, K128, K129, K153, K161, K162, K163, K255, K256, K900, K903, K999, K1000, K1195, K1196, K2000, K2096, K3000, K3001, K3002, K3003, K3004, K3005, K3006, K3007, K3008, l5, l6, l7, Nat.add_sub_cancel, e0, e1, j1]
        have es := z2 w
        rw [es] at ho
        have r := ih n (k + 1) _ _ (si m 6 s2.length (jn v a2 b2)) (by omega) d3 hn2 ht2 ho hk.set2 (hf.tr (Fr.si rfl))
        rw [evs, es]
        exact r
theorem m_reckon {m : Mem} {l : Nat} {w : Nat → Nat} {cd : List Nat} {u : Bool} (hl : l < 2) (hw : ∀ k, k < 7 → w k ≤ 1000000) (hw2 : ∀ k, k < 7 → gi m 5 k = nI (w k)) (hL : MLaw m 1 0 l (some cd)) (ht : tyc cd [] = some [u]) : ∃ v m2, X12_reckons (nI l) m = some (v, m2) ∧ evs w cd [] = [v] ∧ Fr (fun c => c = 6) m m2 := by
  obtain ⟨_, l1, f, l2, l3, l4⟩ := hL
  rw [show 0 + 9 + l = 9 + l by omega] at l1
  rw [show 0 + 7 + l = 7 + l by omega] at l2
  exact m_reckon_loop hl hw hw2 l1 l2 l3 (fun i hi => by
    have := l4 i hi
    rwa [show 0 + 1196 + f + i = 1196 + f + i by omega] at this) cd FU 0 [] [] m (Nat.zero_le _) rfl (by unfold FU; omega) ht True.intro True.intro Fr.rf
