/-! deeds of a tray -/
def wm (r : Ru) (x : Lf) (p q : Nat) : Nat := if p < rP r ∧ q < rP r ∧ p ≠ q then (if lmt x p = some q then 0 else if lmt x p = none ∧ lmt x q = none then (if my r x p q then 0 else 3) else 2) else 1
def em (x : Lf) (p q : Nat) : Lf := if lmt x p = some q then spl x p q else mry x p q
def wc (r : Ru) (p q : Nat) : Nat := if p < rP r ∧ q < rP r ∧ p ≠ q then 0 else 1
theorem wm_lt (r : Ru) (x : Lf) (p q : Nat) : wm r x p q < 5 := by
  unfold wm
  repeat' split
  all_goals omega
theorem ntw {k p q : Nat} (hk : k < 2147483648) (hp : p < 2147483648) (hq : q < 2147483648) (h : ¬ (p < k ∧ q < k ∧ p ≠ q)) : ¬ tw k (nI p) (nI q) := fun ⟨a, b, h1, h2, h3, e1, e2⟩ => by
  have e1 := nI_inj hp (by omega) e1
  have e2 := nI_inj hq (by omega) e2
  subst e1 e2
  exact h ⟨h1, h2, h3⟩
def sA (a c : Nat) : Prop := s16 a c ∨ s24 c
theorem fA16 {a : Nat} {m m2 : Mem} (h : Fr (s16 a) m m2) : Fr (sA a) m m2 := h.mono (fun _ q => Or.inl q)
theorem fA46 {a : Nat} {m m2 : Mem} (h : Fr (s46 a) m m2) : Fr (sA a) m m2 := h.mono (fun _ q => Or.inl (s46_16 q))
theorem fA24 {a : Nat} {m m2 : Mem} (h : Fr s24 m m2) : Fr (sA a) m m2 := h.mono (fun _ q => Or.inr q)
theorem wm_1 {r : Ru} {x : Lf} {p q : Nat} (h : ¬ (p < rP r ∧ q < rP r ∧ p ≠ q)) : wm r x p q = 1 := by rw [wm, if_neg h]
theorem wm_2 {r : Ru} {x : Lf} {p q : Nat} (h : p < rP r ∧ q < rP r ∧ p ≠ q) (hn : ¬ lmt x p = some q) (h2 : ¬ (lmt x p = none ∧ lmt x q = none)) : wm r x p q = 2 := by rw [wm, if_pos h, if_neg hn, if_neg h2]
theorem wm_3 {r : Ru} {x : Lf} {p q : Nat} (h : p < rP r ∧ q < rP r ∧ p ≠ q) (hn : ¬ lmt x p = some q) (h2 : lmt x p = none ∧ lmt x q = none) (hy : ¬ my r x p q = true) : wm r x p q = 3 := by rw [wm, if_pos h, if_neg hn, if_pos h2, if_neg hy]
theorem wm_0 {r : Ru} {x : Lf} {p q : Nat} (h : p < rP r ∧ q < rP r ∧ p ≠ q) (hn : ¬ lmt x p = some q) (h2 : lmt x p = none ∧ lmt x q = none) (hy : my r x p q = true) : wm r x p q = 0 := by rw [wm, if_pos h, if_neg hn, if_pos h2, if_pos hy]
theorem wm_s {r : Ru} {x : Lf} {p q : Nat} (h : p < rP r ∧ q < rP r ∧ p ≠ q) (hn : lmt x p = some q) : wm r x p q = 0 := by rw [wm, if_pos h, if_pos hn]
theorem c_attMb {r : Ru} {x : Lf} {m : Mem} {a : Nat} (ha : 25 ≤ a) (g : GX r x) (h : IC r x m a) {p q : Nat} (hp : p < 2147483648) (hq : q < 2147483648) (hs : p < rP r ∧ q < rP r ∧ p ≠ q → ¬ lmt x p = some q) : ∃ m2, X10_attemptMarriage_b32 a (nI p) (nI q) m = some (nI (wm r x p q), m2) ∧ IC r (if wm r x p q = 0 then em x p q else x) m2 a ∧ Fr (sA a) m m2 := by
  have hP := g.P
  rw [X10_attemptMarriage_b32, X10_whyNotMarry, kn1, K0, K1, K2, K3]
  by_cases ht : p < rP r ∧ q < rP r ∧ p ≠ q
  · have hne := hs ht
    obtain ⟨h1, h2, h3⟩ := ht
    have ht : p < rP r ∧ q < rP r ∧ p ≠ q := ⟨h1, h2, h3⟩
    have c1 := h.mate h1; have c2 := h.mate h2
    rw [c_areTwo_t g h h1 h2 h3, bq, jeq_f (by omega) (by omega) (by omega), chk_in (by omega) (by omega), ix_nI (by omega), c1]
    cases hmp : lmt x p with
    | some u =>
      have hu := (g.mt h1 hmp).1
      rw [oN_some, jm_f (by omega), bq, jeq_f (by omega) (by omega) (by omega), wm_2 ht hne (fun e => by rw [hmp] at e; cases e.1), if_neg (by omega)]
      exact ⟨m, rfl, h, Fr.rf⟩
    | none =>
      rw [oN_none, jm_t, chk_in (by omega) (by omega), ix_nI (by omega), c2]
      cases hmq : lmt x q with
      | some u =>
        have hu := (g.mt h2 hmq).1
        rw [oN_some, jm_f (by omega), bq, jeq_f (by omega) (by omega) (by omega), wm_2 ht hne (fun e => by rw [hmq] at e; cases e.2), if_neg (by omega)]
        exact ⟨m, rfl, h, Fr.rf⟩
      | none =>
        obtain ⟨m1, e1, f1⟩ := c_isAllowed ha g h h1 h2
        rw [oN_none, jm_t, e1, bq]
        by_cases hy : my r x p q = true
        · obtain ⟨m2, l1, l2, l3⟩ := c_marry ha hP (h.f24 ha f1) h1 h2
          rw [if_pos hy, jeq_f (by omega) (by omega) (by omega), bq, jeq_t rfl, l1, bq, wm_0 ht hne ⟨hmp, hmq⟩ hy, if_pos rfl, em, if_neg hne]
          exact ⟨m2, rfl, l2, (fA24 f1).tr (fA16 l3)⟩
        · rw [if_neg hy, jeq_t rfl, bq, jeq_f (by omega) (by omega) (by omega), wm_3 ht hne ⟨hmp, hmq⟩ hy, if_neg (by omega)]
          exact ⟨m1, rfl, h.f24 ha f1, fA24 f1⟩
  · have hz := ntw (by omega) hp hq ht
    rw [c_areTwo_f g h hz, bq, jeq_t rfl, bq, jeq_f (by omega) (by omega) (by omega), wm_1 ht, if_neg (by omega)]
    exact ⟨m, rfl, h, Fr.rf⟩
theorem c_attM {r : Ru} {x : Lf} {m : Mem} {a : Nat} (ha : 25 ≤ a) (g : GX r x) (h : IC r x m a) {p q : Nat} (hp : p < 2147483648) (hq : q < 2147483648) : ∃ m2, X10_attemptMarriage a (nI p) (nI q) m = some (nI (wm r x p q), m2) ∧ IC r (if wm r x p q = 0 then em x p q else x) m2 a ∧ Fr (sA a) m m2 := by
  have hP := g.P
  rw [X10_attemptMarriage, K0]
  by_cases ht : p < rP r ∧ q < rP r ∧ p ≠ q
  · obtain ⟨h1, h2, h3⟩ := ht
    have c1 := h.mate h1
    rw [c_areTwo_t g h h1 h2 h3, bq, jeq_f (by omega) (by omega) (by omega), chk_in (by omega) (by omega), ix_nI (by omega), c1]
    by_cases hm : lmt x p = some q
    · obtain ⟨m2, e1, e2, e3⟩ := c_split ha hP h h1 h2 hm
      have hw0 : wm r x p q = 0 := by rw [wm, if_pos (show p < rP r ∧ q < rP r ∧ p ≠ q from ⟨h1, h2, h3⟩), if_pos hm]
      rw [hm, oN_some, if_pos rfl, e1, bq, hw0, if_pos rfl, em, if_pos hm]
      exact ⟨m2, rfl, e2, fA16 e3⟩
    · rw [if_neg (fun e => hm ?_)]
      · exact c_attMb ha g h hp hq (fun _ => hm)
      · cases hmp : lmt x p with
        | none => rw [hmp] at e; exact absurd e.symm (nI_ne_m1 hq)
        | some u =>
          have hu := (g.mt h1 hmp).1
          rw [hmp] at e
          rw [nI_inj (by omega) hq e]
  · rw [c_areTwo_f g h (ntw (by omega) hp hq ht), bq, jeq_t rfl]
    exact c_attMb ha g h hp hq (fun q => absurd q ht)
theorem c_attT {r : Ru} {x : Lf} {m : Mem} {a : Nat} (ha : 25 ≤ a) (g : GX r x) (h : IC r x m a) {p t : Nat} (hp : p < 2147483648) (ht : t < 2147483648) : ∃ m2, X10_attemptTaking a (nI p) (nI t) m = some (nI (wt r x p t), m2) ∧ IC r (if wt r x p t = 0 then tgv x p t else x) m2 a ∧ Fr (sA a) m m2 := by
  have hl := wt_lt r x p t
  rw [X10_attemptTaking, c_whyNotTake g h hp ht, bq, K0]
  by_cases h0 : wt r x p t = 0
  · have hr : p < rP r ∧ t < rT r := by
      unfold wt at h0
      split at h0
      · assumption
      · omega
    obtain ⟨m2, e1, e2, e3⟩ := c_takeOrGive ha g h hr.1 hr.2
    rw [jeq_t h0, e1, bq, if_pos h0]
    exact ⟨m2, rfl, e2, fA46 e3⟩
  · rw [jeq_f h0 (by omega) (by omega), if_neg h0]
    exact ⟨m, rfl, h, Fr.rf⟩
theorem c_attC {r : Ru} {x : Lf} {m : Mem} {a : Nat} (ha : 25 ≤ a) (g : GX r x) (h : IC r x m a) {p q : Nat} (hp : p < 2147483648) (hq : q < 2147483648) : ∃ m2, X10_attemptCopy a (nI p) (nI q) m = some (nI (wc r p q), m2) ∧ IC r (if wc r p q = 0 then cpy x p q else x) m2 a ∧ Fr (sA a) m m2 := by
  have hP := g.P
  rw [X10_attemptCopy, wc]
  by_cases ht : p < rP r ∧ q < rP r ∧ p ≠ q
  · obtain ⟨m2, e1, e2, e3⟩ := c_copyList ha g h ht.1 ht.2.1 ht.2.2
    rw [if_pos ht, c_areTwo_t g h ht.1 ht.2.1 ht.2.2, bq, K0, jeq_f (by omega) (by omega) (by omega), e1, bq, if_pos rfl]
    exact ⟨m2, rfl, e2, fA46 e3⟩
  · rw [if_neg ht, c_areTwo_f g h (ntw (by omega) hp hq ht), bq, K0, jeq_t rfl, if_neg (by omega)]
    exact ⟨m, rfl, h, Fr.rf⟩
def num (v : Int64) : Option Nat := if 0 ≤ v ∧ v < 3000 then some v.toInt.toNat else none
theorem num_some {v : Int64} {n : Nat} (h : num v = some n) : n < 3000 ∧ v = Int32.toInt64 (nI n) := by
  rw [num] at h
  split at h
  · rename_i hq
    injection h with h
    rw [Int64.le_iff_toInt_le, Int64.lt_iff_toInt_lt, show (0 : Int64).toInt = 0 by decide, show (3000 : Int64).toInt = 3000 by decide] at hq
    refine ⟨by omega, ?_⟩
    apply Int64.toInt_inj.mp
    rw [Int32.toInt_toInt64, tI (by omega)]
    omega
  · cases h
def wN (r : Ru) (x : Lf) (n : Nat) : Nat := if n < 1000 then wm r x (n % 1000 / 100) (n % 100) else if n < 2000 then wt r x (n % 1000 / 100) (n % 100) else wc r (n % 1000 / 100) (n % 100)
def eN (x : Lf) (n : Nat) : Lf := if n < 1000 then em x (n % 1000 / 100) (n % 100) else if n < 2000 then tgv x (n % 1000 / 100) (n % 100) else cpy x (n % 1000 / 100) (n % 100)
def wV (r : Ru) (x : Lf) (v : Int64) : Nat := if v = -1 then 0 else match num v with
  | none => 1
  | some n => wN r x n
def eV (r : Ru) (x : Lf) (v : Int64) : Lf := if v = -1 then yrf r x else match num v with
  | none => x
  | some n => eN x n
theorem wc_lt (r : Ru) (p q : Nat) : wc r p q < 5 := by
  unfold wc
  split <;> omega
theorem wV_lt (r : Ru) (x : Lf) (v : Int64) : wV r x v < 5 := by
  unfold wV
  split
  · omega
  · split
    · omega
    · unfold wN
      split
      · exact wm_lt _ _ _ _
      · split
        · exact wt_lt _ _ _ _
        · exact wc_lt _ _ _
theorem WL.xv {r : Ru} {x : Lf} {B : Nat} {v : Int64} (h : WL r x B) (h0 : wV r x v = 0) : WL r (eV r x v) (B + 1) := by
  unfold wV at h0
  unfold eV
  by_cases hv : v = -1
  · rw [if_pos hv]
    exact h.xf
  · rw [if_neg hv] at h0 ⊢
    cases hn : num v with
    | none => rw [hn] at h0; exact absurd h0 (show ¬ (1 : Nat) = 0 by omega)
    | some n =>
      rw [hn] at h0
      have h1 := h.mono (Nat.le_succ B)
      simp only at h0 ⊢
      unfold wN at h0
      unfold eN
      split at h0
      · rename_i q
        rw [if_pos q]
        unfold wm at h0
        unfold em
        split at h0
        · rename_i q2
          split at h0
          · rename_i q3
            rw [if_pos q3]
            exact h1.xs q2.1 q3
          · rename_i q3
            rw [if_neg q3]
            split at h0
            · rename_i q4
              exact h1.xm q2.1 q2.2.1 q2.2.2 q4.1 q4.2
            · omega
        · omega
      · rename_i q
        rw [if_neg q]
        split
        · exact h1.xg _ _
        · exact h1.xc _ _
theorem lt3 {v : Int64} : lg_cmp v 3000 < 0 ↔ v < 3000 := lg_cmp_lt _ _
theorem c_attempt {r : Ru} {x : Lf} {m : Mem} {a B : Nat} {v : Int64} (ha : 25 ≤ a) (g : GX r x) (hB : WL r x B) (hb : B + 1 ≤ 900000) (h : IC r x m a) : ∃ m2, X10_attempt a v m = some (nI (wV r x v), m2) ∧ IC r (if wV r x v = 0 then eV r x v else x) m2 a ∧ Fr (sA a) m m2 := by
  rw [X10_attempt, wV, eV]
  by_cases hv : v = -1
  · obtain ⟨m2, e1, e2, e3⟩ := c_passYear ha g hB hb h
    rw [if_pos ((lg_cmp_eq _ _).mpr hv), e1, bq, if_pos hv, if_pos hv, if_pos rfl]
    exact ⟨m2, rfl, e2, fA16 e3⟩
  · rw [if_neg (fun q => hv ((lg_cmp_eq _ _).mp q)), if_neg hv, if_neg hv]
    cases hn : num v with
    | none =>
      have hq : ¬ (0 ≤ v ∧ v < 3000) := fun q => by rw [num, if_pos q] at hn; cases hn
      simp only
      refine ⟨m, ?_, h, Fr.rf⟩
      by_cases h1 : v < 0
      · rw [if_pos ((lg_cmp_lt _ _).mpr h1)]; rfl
      · rw [if_neg (fun q => h1 ((lg_cmp_lt _ _).mp q)), if_neg (fun q => hq ⟨?_, (lg_cmp_lt _ _).mp q⟩)]
        · rfl
        · rw [Int64.lt_iff_toInt_lt] at h1
          rw [Int64.le_iff_toInt_le]
          omega
    | some n =>
      obtain ⟨n1, rfl⟩ := num_some hn
      obtain ⟨d1, d2, d3, d4⟩ := dnum n n1
      have hq : 0 ≤ Int32.toInt64 (nI n) ∧ Int32.toInt64 (nI n) < 3000 := by
        rw [num] at hn
        split at hn
        · assumption
        · cases hn
      simp only
      rw [if_neg (fun q => by
        have := (lg_cmp_lt _ _).mp q
        rw [Int64.lt_iff_toInt_lt] at this
        have h2 := hq.1
        rw [Int64.le_iff_toInt_le] at h2
        omega), if_pos ((lg_cmp_lt _ _).mpr hq.2), d64 n1, lq, K1000, K100, d1, lq, d2, lq, d3, wN, eN, K0, K1]
      by_cases a1 : n < 1000
      · obtain ⟨m2, e1, e2, e3⟩ := c_attM ha g h (p := n % 1000 / 100) (q := n % 100) (by omega) (by omega)
        rw [jeq_t (by omega), e1, bq, if_pos a1, if_pos a1]
        exact ⟨m2, rfl, e2, e3⟩
      · rw [jeq_f (by omega) (by omega) (by omega), if_neg a1, if_neg a1]
        by_cases a2 : n < 2000
        · obtain ⟨m2, e1, e2, e3⟩ := c_attT ha g h (p := n % 1000 / 100) (t := n % 100) (by omega) (by omega)
          rw [jeq_t (by omega), e1, bq, if_pos a2, if_pos a2]
          exact ⟨m2, rfl, e2, e3⟩
        · obtain ⟨m2, e1, e2, e3⟩ := c_attC ha g h (p := n % 1000 / 100) (q := n % 100) (by omega) (by omega)
          rw [jeq_f (by omega) (by omega) (by omega), e1, bq, if_neg a2, if_neg a2]
          exact ⟨m2, rfl, e2, e3⟩
/-! the reference -/
theorem m_why2 {r : Ru} {x : Lf} {m : Mem} (g : GX r x) (h : IM r x m) {n p q : Nat} (hn : n < 3000) (hp : p < 2147483648) (hq : q < 2147483648) : ∃ m2, X12_whyNot_b112 (nI n) (nI p) (nI q) m = some (nI (if n < 2000 then wm r x p q else wc r p q), m2) ∧ Fr s56 m m2 := by
  have hP := g.P
  rw [X12_whyNot_b112, kn1, K0, K2000, K1, K2, K3]
  by_cases ht : p < rP r ∧ q < rP r ∧ p ≠ q
  · obtain ⟨h1, h2, h3⟩ := ht
    have ht : p < rP r ∧ q < rP r ∧ p ≠ q := ⟨h1, h2, h3⟩
    have d1 := h.wed h1; have d2 := h.wed h2
    rw [m_areTwo_t g h h1 h2 h3, bq, jeq_f (by omega) (by omega) (by omega)]
    by_cases hn2 : n < 2000
    · rw [jle_f hn2 (by omega), if_pos hn2, K153]
      simp (disch := omega) only [chk_in, ix_nI, nadd, d1, d2]
      by_cases hm : lmt x p = some q
      · rw [hm, oN_some, if_pos rfl, wm_s ht hm]
        exact ⟨m, rfl, Fr.rf⟩
      · cases hmp : lmt x p with
        | some u =>
          have hu := (g.mt h1 hmp).1
          have huq : u ≠ q := fun e => hm (by rw [hmp, e])
          rw [oN_some, jeq_f huq (by omega) (by omega), jm_f (by omega), wm_2 ht hm (fun e => by rw [hmp] at e; cases e.1)]
          exact ⟨m, rfl, Fr.rf⟩
        | none =>
          have hno : ¬ NO = nI q := fun e => nI_ne_m1 (by omega) e.symm
          rw [oN_none, if_neg hno, jm_t]
          cases hmq : lmt x q with
          | some u =>
            have hu := (g.mt h2 hmq).1
            rw [oN_some, jm_f (by omega), wm_2 ht hm (fun e => by rw [hmq] at e; cases e.2)]
            exact ⟨m, rfl, Fr.rf⟩
          | none =>
            obtain ⟨m1, e1, f1⟩ := m_mayWed g h h1 h2
            rw [oN_none, jm_t, e1, bq]
            by_cases hy : my r x p q = true
            · rw [if_pos hy, jeq_f (by omega) (by omega) (by omega), wm_0 ht hm ⟨hmp, hmq⟩ hy]
              exact ⟨m1, rfl, f1⟩
            · rw [if_neg hy, jeq_t rfl, wm_3 ht hm ⟨hmp, hmq⟩ hy]
              exact ⟨m1, rfl, f1⟩
    · rw [jle_t (by omega) (by omega), if_neg hn2, wc, if_pos ht]
      exact ⟨m, rfl, Fr.rf⟩
  · rw [m_areTwo_f g h (ntw (by omega) hp hq ht), bq, jeq_t rfl, wm_1 ht, wc, if_neg ht]
    refine ⟨m, ?_, Fr.rf⟩
    split <;> rfl
theorem within_num {v : Int64} (h : ¬ v = -1) (m : Mem) : X12_within v 0 2999 m = some (nI (if (num v).isSome then 1 else 0), m) := by
  rw [num]
  by_cases hq : 0 ≤ v ∧ v < 3000
  · rw [if_pos hq]
    refine within_t hq.1 ?_ m
    have h2 := hq.2
    rw [Int64.lt_iff_toInt_lt, show (3000 : Int64).toInt = 3000 by decide] at h2
    rw [Int64.le_iff_toInt_le, show (2999 : Int64).toInt = 2999 by decide]
    omega
  · rw [if_neg hq]
    refine within_f (fun q => hq ⟨q.1, ?_⟩) m
    have h2 := q.2
    rw [Int64.le_iff_toInt_le, show (2999 : Int64).toInt = 2999 by decide] at h2
    rw [Int64.lt_iff_toInt_lt, show (3000 : Int64).toInt = 3000 by decide]
    omega
theorem m_whyNot {r : Ru} {x : Lf} {m : Mem} (g : GX r x) (h : IM r x m) (v : Int64) : ∃ m2, X12_whyNot v m = some (nI (wV r x v), m2) ∧ Fr s56 m m2 := by
  by_cases hv : v = -1
  · rw [X12_whyNot, if_pos ((lg_cmp_eq _ _).mpr hv), wV, if_pos hv]
    exact ⟨m, rfl, Fr.rf⟩
  · rw [wV, if_neg hv]
    cases hn : num v with
    | none =>
      rw [X12_whyNot, if_neg (fun q => hv ((lg_cmp_eq _ _).mp q)), within_num hv, hn, bq]
      exact ⟨m, rfl, Fr.rf⟩
    | some n =>
      obtain ⟨n1, e⟩ := num_some hn
      simp only
      rw [wN]
      by_cases a1 : n < 1000
      · obtain ⟨d1, d2, d3, d4⟩ := dnum n n1
        obtain ⟨m2, e1, e2⟩ := m_why2 g h (n := n) (p := n % 1000 / 100) (q := n % 100) n1 (by omega) (by omega)
        rw [if_pos (by omega)] at e1
        rw [X12_whyNot, if_neg (fun q => hv ((lg_cmp_eq _ _).mp q)), within_num hv, hn, bq, if_neg (show ¬ nI (if (some n).isSome then 1 else 0) = 0 from show ¬ nI 1 = 0 by decide), e, d64 n1, lq, K100, K10, d4, lq, d2, lq, K1000, jlt_t a1 (by omega), if_pos a1]
        exact ⟨m2, e1, e2⟩
      · rw [if_neg a1]
        by_cases a2 : n < 2000
        · rw [if_pos a2, e]
          exact ⟨m, m_whyT g h (by omega) a2, Fr.rf⟩
        · obtain ⟨d1, d2, d3, d4⟩ := dnum n n1
          obtain ⟨m2, e1, e2⟩ := m_why2 g h (n := n) (p := n % 1000 / 100) (q := n % 100) n1 (by omega) (by omega)
          rw [if_neg a2] at e1
          rw [X12_whyNot, if_neg (fun q => hv ((lg_cmp_eq _ _).mp q)), within_num hv, hn, bq, if_neg (show ¬ nI (if (some n).isSome then 1 else 0) = 0 from show ¬ nI 1 = 0 by decide), e, d64 n1, lq, K100, K10, d4, lq, d2, lq, K1000, jlt_f (by omega) (by omega), K2000, jle_t (by omega) (by omega), if_neg a2]
          exact ⟨m2, e1, e2⟩
theorem m_does {r : Ru} {x : Lf} {m : Mem} {B : Nat} {v : Int64} (g : GX r x) (hB : WL r x B) (hb : B + 1 ≤ 900000) (h : IM r x m) (h0 : wV r x v = 0) : ∃ m2, X12_does (Int64.toInt32 v) m = some ((), m2) ∧ IM r (eV r x v) m2 ∧ FL s8 m m2 := by
  have hT := g.T; have hP := g.P
  unfold wV at h0
  unfold eV
  by_cases hv : v = -1
  · obtain ⟨m2, e1, e2, e3⟩ := m_yrf (y2 := NO) g hB hb h
    rw [if_pos hv, hv, X12_does, lq, lq, if_pos (by decide), kn1, e1, bq]
    exact ⟨m2, rfl, e2, e3⟩
  · rw [if_neg hv] at h0 ⊢
    cases hn : num v with
    | none => rw [hn] at h0; exact absurd h0 (show ¬ (1 : Nat) = 0 by omega)
    | some n =>
      obtain ⟨n1, e⟩ := num_some hn
      rw [hn] at h0
      simp only at h0 ⊢
      rw [e, d64 n1]
      unfold wN at h0
      unfold eN
      by_cases a1 : n < 1000
      · rw [if_pos a1] at h0 ⊢
        obtain ⟨d1, d2, d3, d4⟩ := dnum n n1
        unfold wm at h0
        unfold em
        split at h0
        · rename_i q2
          have d0 := h.wed q2.1
          rw [X12_does, K100, K10, d4, lq, d2, lq, kn1, jm_f (by omega), K2000, jlt_t (by omega) (by omega), K1000, jlt_t a1 (by omega), K153]
          simp (disch := omega) only [nadd, chk_in, ix_nI, d0]
          split at h0
          · rename_i q3
            obtain ⟨m2, e1, e2, e3⟩ := m_parts hT hP h q2.1 q2.2.1 q3
            rw [q3, oN_some, if_pos rfl, e1, bq, if_pos rfl]
            exact ⟨m2, rfl, e2, e3⟩
          · rename_i q3
            obtain ⟨m2, e1, e2, e3⟩ := m_weds hT hP h q2.1 q2.2.1
            split at h0
            · rename_i q4
              rw [q4.1, oN_none, if_neg (fun e => nI_ne_m1 (by omega) e.symm), e1, bq, if_neg (fun e => by cases e)]
              exact ⟨m2, rfl, e2, e3⟩
            · omega
        · omega
      · rw [if_neg a1] at h0 ⊢
        by_cases a2 : n < 2000
        · rw [if_pos a2] at h0 ⊢
          have hr : n % 1000 / 100 < rP r ∧ n % 100 < rT r := by
            unfold wt at h0
            split at h0
            · assumption
            · omega
          exact m_doesT g h (by omega) a2 hr.1 hr.2
        · rw [if_neg a2] at h0 ⊢
          have hr : n % 1000 / 100 < rP r ∧ n % 100 < rP r ∧ n % 1000 / 100 ≠ n % 100 := by
            unfold wc at h0
            split at h0
            · assumption
            · omega
          exact m_doesC g h (by omega) n1 hr.1 hr.2.1 hr.2.2
