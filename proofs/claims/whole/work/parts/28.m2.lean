/-! what stands where a person, a thing, a number within bounds is asked for -/
theorem ct_ge (f : Nat → Bool) (n : Nat) : ∀ k, n ≤ k → ct (fun i => decide (i < n) && f i) k = ct f n := by
  intro k
  induction k with
  | zero =>
    intro h
    have : n = 0 := by omega
    subst this
    rfl
  | succ k ih =>
    intro h
    rcases Nat.eq_or_lt_of_le h with he | hl
    · subst he
      exact ct_cong (fun i hi => by simp [hi])
    · rw [ct, ih (by omega)]
      have : ¬ (k < n) := by omega
      simp [this]
theorem pcn_bs {f : Nat → Bool} {n : Nat} (h : n ≤ 14) : pcn (bs n f) = ct f n := by
  rw [pcn, ← ct_ge f n 14 h]
  exact ct_cong (fun i _ => bs_bit f n i)
theorem le_iff {a b : Int32} : a ≤ b ↔ a.toInt ≤ b.toInt := Int32.le_iff_toInt_le
theorem lt_iff {a b : Int32} : a < b ↔ a.toInt < b.toInt := Int32.lt_iff_toInt_lt
theorem tI {n : Nat} (h : n < 2147483648) : (nI n).toInt = n := nI_toInt (by omega)
theorem zI : (0 : Int32).toInt = 0 := by decide
def prs (k : Nat) (a : Int32) : Prop := ∃ n, n < k ∧ a = nI n
theorem prs_iff {k : Nat} (hk : k < 2147483648) (a : Int32) : prs k a ↔ (0 ≤ a ∧ a < nI k) := by
  constructor
  · intro ⟨n, hn, e⟩
    subst e
    exact ⟨by rw [L0]; exact nI_le (by omega) (by omega), nI_lt hn (by omega)⟩
  · intro ⟨h1, h2⟩
    rw [le_iff, zI] at h1
    rw [lt_iff, tI hk] at h2
    refine ⟨a.toInt.toNat, by omega, ?_⟩
    apply Int32.toInt_inj.mp
    rw [tI (by omega)]
    omega
theorem toI64_le {a b : Int32} : Int32.toInt64 a ≤ Int32.toInt64 b ↔ a ≤ b := by
  rw [Int64.le_iff_toInt_le, le_iff, Int32.toInt_toInt64, Int32.toInt_toInt64]
theorem toI64_lt {a b : Int32} : Int32.toInt64 a < Int32.toInt64 b ↔ a < b := by
  rw [Int64.lt_iff_toInt_lt, lt_iff, Int32.toInt_toInt64, Int32.toInt_toInt64]
theorem toI64_eq {a b : Int32} : Int32.toInt64 a = Int32.toInt64 b ↔ a = b := by
  rw [← Int64.toInt_inj, Int32.toInt_toInt64, Int32.toInt_toInt64, Int32.toInt_inj]
theorem within_t {a b c : Int64} (h1 : b ≤ a) (h2 : a ≤ c) (m : Mem) : X12_within a b c m = some (nI 1, m) := by
  rw [X12_within, if_neg (fun q => ?_), if_neg (fun q => ?_)]
  · rfl
  · rw [lg_cmp_gt, Int64.lt_iff_toInt_lt] at q
    rw [Int64.le_iff_toInt_le] at h2
    omega
  · rw [lg_cmp_lt, Int64.lt_iff_toInt_lt] at q
    rw [Int64.le_iff_toInt_le] at h1
    omega
theorem within_f {a b c : Int64} (h : ¬ (b ≤ a ∧ a ≤ c)) (m : Mem) : X12_within a b c m = some (nI 0, m) := by
  rw [X12_within]
  by_cases h1 : b ≤ a
  · rw [if_neg (fun q => ?_), if_pos ?_]
    · rfl
    · rw [lg_cmp_gt, Int64.lt_iff_toInt_lt]
      have h2 : ¬ a ≤ c := fun q => h ⟨h1, q⟩
      rw [Int64.le_iff_toInt_le] at h2
      omega
    · rw [lg_cmp_lt, Int64.lt_iff_toInt_lt] at q
      rw [Int64.le_iff_toInt_le] at h1
      omega
  · rw [if_pos ?_]
    · rfl
    · rw [lg_cmp_lt, Int64.lt_iff_toInt_lt]
      rw [Int64.le_iff_toInt_le] at h1
      omega
theorem le_m1 {a : Int32} {k : Nat} (hk : k < 2147483648) : a ≤ nI k - nI 1 ↔ a < nI k := by
  cases k with
  | zero =>
    rw [le_iff, lt_iff, show (nI 0 - nI 1).toInt = -1 by decide, tI (by omega)]
    omega
  | succ k =>
    rw [nsub (by omega), le_iff, lt_iff, tI (by omega), tI (by omega)]
    omega
theorem l64_0 : (0 : Int64) = Int32.toInt64 (nI 0) := by decide
/-- a number from 0 up to below k, as the reference asks -/
theorem wi_t {n k : Nat} (hk : k < 2147483648) (h : n < k) (m : Mem) : X12_within (Int32.toInt64 (nI n)) 0 (Int32.toInt64 (nI k - nI 1)) m = some (nI 1, m) :=
  within_t (by rw [l64_0, toI64_le]; exact nI_le (by omega) (by omega)) (by rw [toI64_le, le_m1 hk]; exact nI_lt h hk) m
theorem wj_t {n k : Nat} (h : n ≤ k) (hk : k < 2147483648) (m : Mem) : X12_within (Int32.toInt64 (nI n)) 0 (Int32.toInt64 (nI k)) m = some (nI 1, m) :=
  within_t (by rw [l64_0, toI64_le]; exact nI_le (by omega) (by omega)) (by rw [toI64_le]; exact nI_le h hk) m
theorem wi_f {a : Int32} {k : Nat} (hk : k < 2147483648) (h : ¬ prs k a) (m : Mem) : X12_within (Int32.toInt64 a) 0 (Int32.toInt64 (nI k - nI 1)) m = some (nI 0, m) := by
  apply within_f
  rw [l64_0, toI64_le, toI64_le, le_m1 hk]
  exact fun q => h ((prs_iff hk a).mpr q)
/-- what the reference holds -/
def IM (r : Ru) (x : Lf) (m : Mem) : Prop := MR r m 1 0 ∧ ML r x m 1 33
theorem IM.T {r : Ru} {x : Lf} {m : Mem} (h : IM r x m) : gi m 1 1 = nI (rT r) := h.1.2.1
theorem IM.P {r : Ru} {x : Lf} {m : Mem} (h : IM r x m) : gi m 1 2 = nI (rP r) := h.1.2.2.1
theorem IM.bar {r : Ru} {x : Lf} {m : Mem} (h : IM r x m) : gi m 1 3 = nI (rbar r) := h.1.2.2.2.1
theorem IM.room {r : Ru} {x : Lf} {m : Mem} (h : IM r x m) : gi m 1 4 = nI (rroom r) := h.1.2.2.2.2.1
theorem IM.lin {r : Ru} {x : Lf} {m : Mem} (h : IM r x m) : gi m 1 0 = nI (rlin r) := h.1.1
theorem IM.wan {r : Ru} {x : Lf} {m : Mem} (h : IM r x m) {t : Nat} (ht : t < rT r) : gi m 1 (11 + t) = nI (rwan r t) := by
  have e := h.1.2.2.2.2.2.1 t ht
  rwa [show 0 + 11 + t = 11 + t by omega] at e
theorem IM.tr {r : Ru} {x : Lf} {m : Mem} (h : IM r x m) {p : Nat} (hp : p < rP r) : gi m 1 (25 + p) = nI (rtr r p) := by
  have e := h.1.2.2.2.2.2.2.1 p hp
  rwa [show 0 + 25 + p = 25 + p by omega] at e
theorem IM.age {r : Ru} {x : Lf} {m : Mem} (h : IM r x m) {p : Nat} (hp : p < rP r) : gi m 1 (33 + p) = nI (lag x p) := h.2.1 p hp
theorem IM.sn {r : Ru} {x : Lf} {m : Mem} (h : IM r x m) {p t : Nat} (hp : p < rP r) (ht : t < rT r) : gi m 1 (41 + 14 * p + t) = oN (lsn x p t) := h.2.2.1 p t hp ht
theorem IM.wed {r : Ru} {x : Lf} {m : Mem} (h : IM r x m) {p : Nat} (hp : p < rP r) : gi m 1 (153 + p) = oN (lmt x p) := h.2.2.2.1 p hp
theorem IM.yr {r : Ru} {x : Lf} {m : Mem} (h : IM r x m) : gi m 1 161 = nI (lyr x) := h.2.2.2.2
theorem MLaw.fr {m m2 : Mem} {c o k : Nat} {cd : Option (List Nat)} (h : MLaw m c o k cd) (hf : ∀ j, gi m2 c j = gi m c j) : MLaw m2 c o k cd := by
  cases cd with
  | none => exact (hf _).trans h
  | some cd =>
    obtain ⟨h1, h2, f, h3, h4, h5⟩ := h
    exact ⟨(hf _).trans h1, (hf _).trans h2, f, (hf _).trans h3, h4, fun i hi => (hf _).trans (h5 i hi)⟩
theorem IM.fr {r : Ru} {x : Lf} {m m2 : Mem} (h : IM r x m) (hf : ∀ j, gi m2 1 j = gi m 1 j) : IM r x m2 := by
  obtain ⟨⟨h1, h2, h3, h4, h5, h6, h7, h8, h9⟩, h10, h11, h12, h13⟩ := h
  exact ⟨⟨(hf _).trans h1, (hf _).trans h2, (hf _).trans h3, (hf _).trans h4, (hf _).trans h5, fun t ht => (hf _).trans (h6 t ht), fun p hp => (hf _).trans (h7 p hp), h8.fr hf, h9.fr hf⟩, fun p hp => (hf _).trans (h10 p hp), fun p t hp ht => (hf _).trans (h11 p t hp ht), fun p hp => (hf _).trans (h12 p hp), (hf _).trans h13⟩
/-- rules and a life of good shape -/
def GX (r : Ru) (x : Lf) : Prop := WR r ∧ WL r x 900000
theorem GX.T {r : Ru} {x : Lf} (h : GX r x) : rT r ≤ 14 := h.1.1
theorem GX.P {r : Ru} {x : Lf} (h : GX r x) : rP r ≤ 8 := h.1.2.1
theorem GX.bar {r : Ru} {x : Lf} (h : GX r x) : rbar r ≤ 999 := h.1.2.2.1
theorem GX.rm1 {r : Ru} {x : Lf} (h : GX r x) : 1 ≤ rroom r := h.1.2.2.2.1
theorem GX.rm2 {r : Ru} {x : Lf} (h : GX r x) : rroom r ≤ 14 := h.1.2.2.2.2.1
theorem GX.lin {r : Ru} {x : Lf} (h : GX r x) : rlin r ≤ 900 := h.1.2.2.2.2.2.1
theorem GX.wan {r : Ru} {x : Lf} (h : GX r x) {t : Nat} (ht : t < rT r) : rwan r t ≤ 99 := h.1.2.2.2.2.2.2.1 t ht
theorem GX.tr {r : Ru} {x : Lf} (h : GX r x) {p : Nat} (hp : p < rP r) : rtr r p < 2 ^ rT r := h.1.2.2.2.2.2.2.2.1 p hp
theorem GX.tr14 {r : Ru} {x : Lf} (h : GX r x) {p : Nat} (hp : p < rP r) : rtr r p < 16384 := Nat.lt_of_lt_of_le (h.tr hp) (Nat.pow_le_pow_right (by decide) h.T : 2 ^ rT r ≤ 2 ^ 14)
theorem GX.tg {r : Ru} {x : Lf} (h : GX r x) : tyc (egood r) [] = some [false] := h.1.2.2.2.2.2.2.2.2.1
theorem GX.tm {r : Ru} {x : Lf} (h : GX r x) : rmay r = none ∨ tyc (emay r) [] = some [true] := h.1.2.2.2.2.2.2.2.2.2
theorem GX.age {r : Ru} {x : Lf} (h : GX r x) {p : Nat} (hp : p < rP r) : lag x p ≤ 900000 := h.2.1 p hp
theorem GX.yr {r : Ru} {x : Lf} (h : GX r x) : lyr x ≤ 900000 := h.2.2.1
theorem GX.sn {r : Ru} {x : Lf} (h : GX r x) {p t v : Nat} (hv : lsn x p t = some v) : v ≤ 900000 := h.2.2.2.1 p t v hv
theorem GX.mt {r : Ru} {x : Lf} (h : GX r x) {p q : Nat} (hp : p < rP r) (hq : lmt x p = some q) : q < rP r ∧ q ≠ p ∧ lmt x q = some p := h.2.2.2.2 p q hp hq
theorem m_listOf_loop {r : Ru} {x : Lf} {m : Mem} (g : GX r x) (h : IM r x m) {p : Nat} (hp : p < rP r) : ∀ n k, k ≤ rT r → rT r - k < n → X12_listOf_b4 n (nI p) (nI (bs k (fun t => has x p t))) (nI k) m = some (nI (ls r x p), m) := by
  have hT := g.T; have hP := g.P
  intro n
  induction n with
  | zero => intro k _ h; omega
  | succ n ih =>
    intro k hk hn
    rw [X12_listOf_b4]
    rcases Nat.eq_or_lt_of_le hk with he | hl
    · subst he
      simp (disch := omega) only [nadn, gsn, gss, gsi, if_true, if_false, chk_in, chk_tt, bq, lq, ix_nI, jle_t, jle_f, jlt_t, jlt_f, jeq_t, jeq_f, nadd, nmul, nsub, nshl, nshl2, nor, nand, nandn, ↓kn1, K0, K1, K2, K3, K4, K5, K6, K7, K8, K9, K10, K11, K12, K13, K14, K20, K24, K25, K32, K33, K40, K41, K60, K63, K64, K100, K112, K120, K128, K129, K153, K161, K162, K163, K255, K256, K900, K903, K999, K1000, K1195, K1196, K2000, K2096, K3000, K3001, K3002, K3003, K3004, K3005, K3006, K3007, K3008, h.T]
      rfl
    · have ih2 := ih (k + 1) (by omega) (by omega)
      simp (disch := omega) only [nadn, gsn, gss, gsi, if_true, if_false, chk_in, chk_tt, bq, lq, ix_nI, jle_t, jle_f, jlt_t, jlt_f, jeq_t, jeq_f, nadd, nmul, nsub, nshl, nshl2, nor, nand, nandn, ↓kn1, K0, K1, K2, K3, K4, K5, K6, K7, K8, K9, K10, K11, K12, K13, K14, K20, K24, K25, K32, K33, K40, K41, K60, K63, K64, K100, K112, K120, K128, K129, K153, K161, K162, K163, K255, K256, K900, K903, K999, K1000, K1195, K1196, K2000, K2096, K3000, K3001, K3002, K3003, K3004, K3005, K3006, K3007, K3008, h.T, h.sn hp hl]
      cases hx : lsn x p k with
      | none =>
        rw [bs, show has x p k = false by rw [has, hx]; rfl] at ih2
        rw [no_t rfl]
        simpa using ih2
      | some v =>
        rw [bs, show has x p k = true by rw [has, hx]; rfl] at ih2
        have := g.sn hx
        rw [no_f rfl (by omega)]
        simpa using ih2
theorem m_listOf {r : Ru} {x : Lf} {m : Mem} (g : GX r x) (h : IM r x m) {p : Nat} (hp : p < rP r) : X12_listOf (nI p) m = some (nI (ls r x p), m) :=
  m_listOf_loop g h hp FU 0 (by omega) (by have := g.T; unfold FU; omega)
theorem m_loathers_loop {r : Ru} {x : Lf} {m : Mem} (g : GX r x) (h : IM r x m) {t : Nat} (ht : t < rT r) : ∀ n k, k ≤ rP r → rP r - k < n → X12_loathers_b4 n (nI t) (nI (bs k (fun p => has x p t))) (nI k) m = some (nI (wh r x t), m) := by
  have hT := g.T; have hP := g.P
  intro n
  induction n with
  | zero => intro k _ h; omega
  | succ n ih =>
    intro k hk hn
    rw [X12_loathers_b4]
    rcases Nat.eq_or_lt_of_le hk with he | hl
    · subst he
      simp (disch := omega) only [nadn, gsn, gss, gsi, if_true, if_false, chk_in, chk_tt, bq, lq, ix_nI, jle_t, jle_f, jlt_t, jlt_f, jeq_t, jeq_f, nadd, nmul, nsub, nshl, nshl2, nor, nand, nandn, ↓kn1, K0, K1, K2, K3, K4, K5, K6, K7, K8, K9, K10, K11, K12, K13, K14, K20, K24, K25, K32, K33, K40, K41, K60, K63, K64, K100, K112, K120, K128, K129, K153, K161, K162, K163, K255, K256, K900, K903, K999, K1000, K1195, K1196, K2000, K2096, K3000, K3001, K3002, K3003, K3004, K3005, K3006, K3007, K3008, h.P]
      rfl
    · have ih2 := ih (k + 1) (by omega) (by omega)
      simp (disch := omega) only [nadn, gsn, gss, gsi, if_true, if_false, chk_in, chk_tt, bq, lq, ix_nI, jle_t, jle_f, jlt_t, jlt_f, jeq_t, jeq_f, nadd, nmul, nsub, nshl, nshl2, nor, nand, nandn, ↓kn1, K0, K1, K2, K3, K4, K5, K6, K7, K8, K9, K10, K11, K12, K13, K14, K20, K24, K25, K32, K33, K40, K41, K60, K63, K64, K100, K112, K120, K128, K129, K153, K161, K162, K163, K255, K256, K900, K903, K999, K1000, K1195, K1196, K2000, K2096, K3000, K3001, K3002, K3003, K3004, K3005, K3006, K3007, K3008, h.P, h.sn hl ht]
      cases hx : lsn x k t with
      | none =>
        rw [bs, show has x k t = false by rw [has, hx]; rfl] at ih2
        rw [no_t rfl]
        simpa using ih2
      | some v =>
        rw [bs, show has x k t = true by rw [has, hx]; rfl] at ih2
        have := g.sn hx
        rw [no_f rfl (by omega)]
        simpa using ih2
theorem m_loathers {r : Ru} {x : Lf} {m : Mem} (g : GX r x) (h : IM r x m) {t : Nat} (ht : t < rT r) : X12_loathers (nI t) m = some (nI (wh r x t), m) :=
  m_loathers_loop g h ht FU 0 (by omega) (by have := g.P; unfold FU; omega)
/-- who are a thing -/
def ai (r : Ru) (t : Nat) : Nat := bs (rP r) (fun p => (rtr r p).testBit t)
theorem m_areIt_loop {r : Ru} {x : Lf} {m : Mem} (g : GX r x) (h : IM r x m) {t : Nat} (ht : t < rT r) : ∀ n k, k ≤ rP r → rP r - k < n → X12_areIt_b4 n (nI t) (nI (bs k (fun p => (rtr r p).testBit t))) (nI k) m = some (nI (ai r t), m) := by
  have hT := g.T; have hP := g.P
  intro n
  induction n with
  | zero => intro k _ h; omega
  | succ n ih =>
    intro k hk hn
    rw [X12_areIt_b4]
    rcases Nat.eq_or_lt_of_le hk with he | hl
    · subst he
      simp (disch := omega) only [nadn, gsn, gss, gsi, if_true, if_false, chk_in, chk_tt, bq, lq, ix_nI, jle_t, jle_f, jlt_t, jlt_f, jeq_t, jeq_f, nadd, nmul, nsub, nshl, nshl2, nor, nand, nandn, ↓kn1, K0, K1, K2, K3, K4, K5, K6, K7, K8, K9, K10, K11, K12, K13, K14, K20, K24, K25, K32, K33, K40, K41, K60, K63, K64, K100, K112, K120, K128, K129, K153, K161, K162, K163, K255, K256, K900, K903, K999, K1000, K1195, K1196, K2000, K2096, K3000, K3001, K3002, K3003, K3004, K3005, K3006, K3007, K3008, h.P]
      rfl
    · have ih2 := ih (k + 1) (by omega) (by omega)
      have hb := g.tr14 hl
      simp (disch := omega) only [nadn, gsn, gss, gsi, if_true, if_false, chk_in, chk_tt, bq, lq, ix_nI, jle_t, jle_f, jlt_t, jlt_f, jeq_t, jeq_f, nadd, nmul, nsub, nshl, nshl2, nor, nand, nandn, ↓kn1, K0, K1, K2, K3, K4, K5, K6, K7, K8, K9, K10, K11, K12, K13, K14, K20, K24, K25, K32, K33, K40, K41, K60, K63, K64, K100, K112, K120, K128, K129, K153, K161, K162, K163, K255, K256, K900, K903, K999, K1000, K1195, K1196, K2000, K2096, K3000, K3001, K3002, K3003, K3004, K3005, K3006, K3007, K3008, h.P, h.tr hl, isIn_e]
      by_cases hx : (rtr r k).testBit t = true
      · rw [bs, hx] at ih2
        simp (disch := omega) only [hx, if_true, jeq_f]
        simpa using ih2
      · have hx : (rtr r k).testBit t = false := by simpa using hx
        rw [bs, hx] at ih2
        simpa [hx] using ih2
theorem m_areIt {r : Ru} {x : Lf} {m : Mem} (g : GX r x) (h : IM r x m) {t : Nat} (ht : t < rT r) : X12_areIt (nI t) m = some (nI (ai r t), m) :=
  m_areIt_loop g h ht FU 0 (by omega) (by have := g.P; unfold FU; omega)
/-- how rare -/
def ra (r : Ru) (x : Lf) (t : Nat) : Nat := rP r - pcn (wh r x t) + 1
theorem wh_pc {r : Ru} (x : Lf) (t : Nat) (h : rP r ≤ 8) : pcn (wh r x t) ≤ rP r := by
  rw [wh, pcn_bs (by omega)]
  exact ct_le _ _
theorem m_rareOf {r : Ru} {x : Lf} {m : Mem} (g : GX r x) (h : IM r x m) {t : Nat} (ht : t < rT r) : X12_rareOf (nI t) m = some (nI (ra r x t), m) := by
  have hw := wh_lt g.P x t
  have hc := wh_pc x t g.P
  have hP := g.P
  rw [X12_rareOf]
  simp (disch := omega) only [nadn, gsn, gss, gsi, if_true, if_false, chk_in, chk_tt, bq, lq, ix_nI, jle_t, jle_f, jlt_t, jlt_f, jeq_t, jeq_f, nadd, nmul, nsub, nshl, nshl2, nor, nand, nandn, ↓kn1, K0, K1, K2, K3, K4, K5, K6, K7, K8, K9, K10, K11, K12, K13, K14, K20, K24, K25, K32, K33, K40, K41, K60, K63, K64, K100, K112, K120, K128, K129, K153, K161, K162, K163, K255, K256, K900, K903, K999, K1000, K1195, K1196, K2000, K2096, K3000, K3001, K3002, K3003, K3004, K3005, K3006, K3007, K3008, h.P, m_loathers g h ht, m_bitsOf]
  rfl
def su (f : Nat → Nat) : Nat → Nat
  | 0 => 0
  | n + 1 => su f n + f n
theorem su_le {f : Nat → Nat} {B : Nat} : ∀ {n : Nat}, (∀ i, i < n → f i ≤ B) → su f n ≤ B * n
  | 0, _ => Nat.zero_le _
  | n + 1, h => by
    have h1 := su_le (n := n) (fun i hi => h i (by omega))
    have h2 := h n (by omega)
    show su f n + f n ≤ B * (n + 1)
    rw [Nat.mul_succ]
    omega
theorem su_cong {f g : Nat → Nat} : ∀ {n : Nat}, (∀ i, i < n → f i = g i) → su f n = su g n
  | 0, _ => rfl
  | n + 1, h => by
    show su f n + f n = su g n + g n
    rw [su_cong (fun i hi => h i (by omega)), h n (by omega)]
def ras (r : Ru) (x : Lf) (s k : Nat) : Nat := su (fun t => if s.testBit t then ra r x t else 0) k
theorem ra_le {r : Ru} (h : rP r ≤ 8) (x : Lf) (t : Nat) : ra r x t ≤ 9 := by
  unfold ra
  omega
theorem ras_le {r : Ru} (h : rP r ≤ 8) (x : Lf) (s : Nat) {k : Nat} (hk : k ≤ 14) : ras r x s k ≤ 126 := by
  have h1 : ras r x s k ≤ 9 * k := su_le (fun i _ => by
    have := ra_le h x i
    split <;> omega)
  omega
theorem m_rareOfAll_loop {r : Ru} {x : Lf} {m : Mem} (g : GX r x) (h : IM r x m) {s : Nat} (hs : s < 2147483648) : ∀ n k, k ≤ rT r → rT r - k < n → X12_rareOfAll_b4 n (nI s) (nI (ras r x s k)) (nI k) m = some (nI (ras r x s (rT r)), m) := by
  have hT := g.T; have hP := g.P
  intro n
  induction n with
  | zero => intro k _ h; omega
  | succ n ih =>
    intro k hk hn
    rw [X12_rareOfAll_b4]
    rcases Nat.eq_or_lt_of_le hk with he | hl
    · subst he
      simp (disch := omega) only [nadn, gsn, gss, gsi, if_true, if_false, chk_in, chk_tt, bq, lq, ix_nI, jle_t, jle_f, jlt_t, jlt_f, jeq_t, jeq_f, nadd, nmul, nsub, nshl, nshl2, nor, nand, nandn, ↓kn1, K0, K1, K2, K3, K4, K5, K6, K7, K8, K9, K10, K11, K12, K13, K14, K20, K24, K25, K32, K33, K40, K41, K60, K63, K64, K100, K112, K120, K128, K129, K153, K161, K162, K163, K255, K256, K900, K903, K999, K1000, K1195, K1196, K2000, K2096, K3000, K3001, K3002, K3003, K3004, K3005, K3006, K3007, K3008, h.T]
    · have ih2 := ih (k + 1) (by omega) (by omega)
      simp (disch := omega) only [nadn, gsn, gss, gsi, if_true, if_false, chk_in, chk_tt, bq, lq, ix_nI, jle_t, jle_f, jlt_t, jlt_f, jeq_t, jeq_f, nadd, nmul, nsub, nshl, nshl2, nor, nand, nandn, ↓kn1, K0, K1, K2, K3, K4, K5, K6, K7, K8, K9, K10, K11, K12, K13, K14, K20, K24, K25, K32, K33, K40, K41, K60, K63, K64, K100, K112, K120, K128, K129, K153, K161, K162, K163, K255, K256, K900, K903, K999, K1000, K1195, K1196, K2000, K2096, K3000, K3001, K3002, K3003, K3004, K3005, K3006, K3007, K3008, h.T, isIn_e]
      by_cases hx : s.testBit k = true
      · rw [ras, su, if_pos hx] at ih2
        simp (disch := omega) only [hx, if_true, jeq_f, m_rareOf g h hl, bq, lq, nadd]
        exact ih2
      · have hx : s.testBit k = false := by simpa using hx
        rw [ras, su, hx] at ih2
        simpa [hx, ras] using ih2
theorem m_rareOfAll {r : Ru} {x : Lf} {m : Mem} (g : GX r x) (h : IM r x m) {s : Nat} (hs : s < 2147483648) : X12_rareOfAll (nI s) m = some (nI (ras r x s (rT r)), m) :=
  m_rareOfAll_loop g h hs FU 0 (by omega) (by have := g.T; unfold FU; omega)
theorem m_isPerson_t {r : Ru} {x : Lf} {m : Mem} (g : GX r x) (h : IM r x m) {p : Nat} (hp : p < rP r) : X12_isPerson (Int32.toInt64 (nI p)) m = some (nI 1, m) := by
  have hP := g.P
  rw [X12_isPerson]
  simp (disch := omega) only [nadn, gsn, gss, gsi, if_true, if_false, chk_in, chk_tt, bq, lq, ix_nI, jle_t, jle_f, jlt_t, jlt_f, jeq_t, jeq_f, nadd, nmul, nsub, nshl, nshl2, nor, nand, nandn, ↓kn1, K0, K1, K2, K3, K4, K5, K6, K7, K8, K9, K10, K11, K12, K13, K14, K20, K24, K25, K32, K33, K40, K41, K60, K63, K64, K100, K112, K120, K128, K129, K153, K161, K162, K163, K255, K256, K900, K903, K999, K1000, K1195, K1196, K2000, K2096, K3000, K3001, K3002, K3003, K3004, K3005, K3006, K3007, K3008, h.P, wj_t]
  exact chk_tt (by decide)
theorem m_isPerson_f {r : Ru} {x : Lf} {m : Mem} (g : GX r x) (h : IM r x m) {a : Int32} (ha : ¬ prs (rP r) a) : X12_isPerson (Int32.toInt64 a) m = some (nI 0, m) := by
  have hP := g.P
  rw [X12_isPerson]
  simp (disch := first | exact ha | omega) only [nadn, gsn, gss, gsi, if_true, if_false, chk_in, chk_tt, bq, lq, ix_nI, jle_t, jle_f, jlt_t, jlt_f, jeq_t, jeq_f, nadd, nmul, nsub, nshl, nshl2, nor, nand, nandn, ↓kn1, K0, K1, K2, K3, K4, K5, K6, K7, K8, K9, K10, K11, K12, K13, K14, K20, K24, K25, K32, K33, K40, K41, K60, K63, K64, K100, K112, K120, K128, K129, K153, K161, K162, K163, K255, K256, K900, K903, K999, K1000, K1195, K1196, K2000, K2096, K3000, K3001, K3002, K3003, K3004, K3005, K3006, K3007, K3008, h.P, wi_f]
  exact chk_tt (by decide)
theorem m_isThing_t {r : Ru} {x : Lf} {m : Mem} (g : GX r x) (h : IM r x m) {p : Nat} (hp : p < rT r) : X12_isThing (Int32.toInt64 (nI p)) m = some (nI 1, m) := by
  have hP := g.T
  rw [X12_isThing]
  simp (disch := omega) only [nadn, gsn, gss, gsi, if_true, if_false, chk_in, chk_tt, bq, lq, ix_nI, jle_t, jle_f, jlt_t, jlt_f, jeq_t, jeq_f, nadd, nmul, nsub, nshl, nshl2, nor, nand, nandn, ↓kn1, K0, K1, K2, K3, K4, K5, K6, K7, K8, K9, K10, K11, K12, K13, K14, K20, K24, K25, K32, K33, K40, K41, K60, K63, K64, K100, K112, K120, K128, K129, K153, K161, K162, K163, K255, K256, K900, K903, K999, K1000, K1195, K1196, K2000, K2096, K3000, K3001, K3002, K3003, K3004, K3005, K3006, K3007, K3008, h.T, wj_t]
  exact chk_tt (by decide)
theorem m_isThing_f {r : Ru} {x : Lf} {m : Mem} (g : GX r x) (h : IM r x m) {a : Int32} (ha : ¬ prs (rT r) a) : X12_isThing (Int32.toInt64 a) m = some (nI 0, m) := by
  have hP := g.T
  rw [X12_isThing]
  simp (disch := first | exact ha | omega) only [nadn, gsn, gss, gsi, if_true, if_false, chk_in, chk_tt, bq, lq, ix_nI, jle_t, jle_f, jlt_t, jlt_f, jeq_t, jeq_f, nadd, nmul, nsub, nshl, nshl2, nor, nand, nandn, ↓kn1, K0, K1, K2, K3, K4, K5, K6, K7, K8, K9, K10, K11, K12, K13, K14, K20, K24, K25, K32, K33, K40, K41, K60, K63, K64, K100, K112, K120, K128, K129, K153, K161, K162, K163, K255, K256, K900, K903, K999, K1000, K1195, K1196, K2000, K2096, K3000, K3001, K3002, K3003, K3004, K3005, K3006, K3007, K3008, h.T, wi_f]
  exact chk_tt (by decide)
/-- two people -/
def tw (k : Nat) (a b : Int32) : Prop := ∃ p q, p < k ∧ q < k ∧ p ≠ q ∧ a = nI p ∧ b = nI q
theorem m_areTwo_t {r : Ru} {x : Lf} {m : Mem} (g : GX r x) (h : IM r x m) {p q : Nat} (hp : p < rP r) (hq : q < rP r) (hn : p ≠ q) : X12_areTwo (Int32.toInt64 (nI p)) (Int32.toInt64 (nI q)) m = some (nI 1, m) := by
  have hP := g.P
  rw [X12_areTwo]
  simp (disch := omega) only [nadn, gsn, gss, gsi, if_true, if_false, chk_in, chk_tt, bq, lq, ix_nI, jle_t, jle_f, jlt_t, jlt_f, jeq_t, jeq_f, nadd, nmul, nsub, nshl, nshl2, nor, nand, nandn, ↓kn1, K0, K1, K2, K3, K4, K5, K6, K7, K8, K9, K10, K11, K12, K13, K14, K20, K24, K25, K32, K33, K40, K41, K60, K63, K64, K100, K112, K120, K128, K129, K153, K161, K162, K163, K255, K256, K900, K903, K999, K1000, K1195, K1196, K2000, K2096, K3000, K3001, K3002, K3003, K3004, K3005, K3006, K3007, K3008, m_isPerson_t g h hp, m_isPerson_t g h hq]
  rw [if_neg (fun e => ?_)]
  rw [← L0, lg_cmp_eq, toI64_eq] at e
  exact hn (nI_inj (by omega) (by omega) e)
theorem m_areTwo_f {r : Ru} {x : Lf} {m : Mem} (g : GX r x) (h : IM r x m) {a b : Int32} (hn : ¬ tw (rP r) a b) : X12_areTwo (Int32.toInt64 a) (Int32.toInt64 b) m = some (nI 0, m) := by
  have hP := g.P
  rw [X12_areTwo]
  by_cases ha : prs (rP r) a
  · obtain ⟨p, hp, rfl⟩ := ha
    by_cases hb : prs (rP r) b
    · obtain ⟨q, hq, rfl⟩ := hb
      have e : p = q := Classical.byContradiction (fun e => hn ⟨p, q, hp, hq, e, rfl, rfl⟩)
      subst e
      simp (disch := omega) only [nadn, gsn, gss, gsi, if_true, if_false, chk_in, chk_tt, bq, lq, ix_nI, jle_t, jle_f, jlt_t, jlt_f, jeq_t, jeq_f, nadd, nmul, nsub, nshl, nshl2, nor, nand, nandn, ↓kn1, K0, K1, K2, K3, K4, K5, K6, K7, K8, K9, K10, K11, K12, K13, K14, K20, K24, K25, K32, K33, K40, K41, K60, K63, K64, K100, K112, K120, K128, K129, K153, K161, K162, K163, K255, K256, K900, K903, K999, K1000, K1195, K1196, K2000, K2096, K3000, K3001, K3002, K3003, K3004, K3005, K3006, K3007, K3008, m_isPerson_t g h hp]
      rw [if_pos]
      rw [← L0, lg_cmp_eq]
    · simp (disch := omega) only [nadn, gsn, gss, gsi, if_true, if_false, chk_in, chk_tt, bq, lq, ix_nI, jle_t, jle_f, jlt_t, jlt_f, jeq_t, jeq_f, nadd, nmul, nsub, nshl, nshl2, nor, nand, nandn, ↓kn1, K0, K1, K2, K3, K4, K5, K6, K7, K8, K9, K10, K11, K12, K13, K14, K20, K24, K25, K32, K33, K40, K41, K60, K63, K64, K100, K112, K120, K128, K129, K153, K161, K162, K163, K255, K256, K900, K903, K999, K1000, K1195, K1196, K2000, K2096, K3000, K3001, K3002, K3003, K3004, K3005, K3006, K3007, K3008, m_isPerson_t g h hp, m_isPerson_f g h hb]
  · simp (disch := omega) only [nadn, gsn, gss, gsi, if_true, if_false, chk_in, chk_tt, bq, lq, ix_nI, jle_t, jle_f, jlt_t, jlt_f, jeq_t, jeq_f, nadd, nmul, nsub, nshl, nshl2, nor, nand, nandn, ↓kn1, K0, K1, K2, K3, K4, K5, K6, K7, K8, K9, K10, K11, K12, K13, K14, K20, K24, K25, K32, K33, K40, K41, K60, K63, K64, K100, K112, K120, K128, K129, K153, K161, K162, K163, K255, K256, K900, K903, K999, K1000, K1195, K1196, K2000, K2096, K3000, K3001, K3002, K3003, K3004, K3005, K3006, K3007, K3008, m_isPerson_f g h ha]
