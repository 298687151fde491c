/-! bureau -/
theorem CI.bu {s : Sg} {e : Nat} {ib : Nat → Nat} {N : Nat} {m m2 : Mem} {R : Ru} {X : Lf} {H : List Lf} {w pl : Int32} (hc : CI s e ib N m) (f1 : ∀ c, ¬ scx c → ¬ (2 ≤ c ∧ c ≤ 8) → ¬ (26 ≤ c ∧ c ≤ 31) → ¬ (40 ≤ c ∧ c ≤ 89) → c ≠ 0 → c ≠ 39 → ∀ j, gi m2 c j = gi m c j ∧ gl m2 c j = gl m c j) (h01 : gi m2 0 1 = nI 0) (hok : okl (gi m2 39 3) = true) (hx : IC R X m2 25) (hh : Hs R H e m2) (h8 : gi m2 39 8 = w) (h9 : gi m2 39 9 = pl) : CI ((0, sTp s), R, X, H, sIm s, sT s, (w, pl)) e ib N m2 := by
  obtain ⟨⟨a1, a2⟩, a3, _, ⟨a8, a9, a10⟩, a11, a12, a13⟩ := hc
  have k : ∀ c, ¬ scx c → ¬ (2 ≤ c ∧ c ≤ 8) → ¬ (26 ≤ c ∧ c ≤ 31) → ¬ (40 ≤ c ∧ c ≤ 89) → c ≠ 0 → c ≠ 39 → ∀ j, gi m2 c j = gi m c j := fun c x y z u v t j => (f1 c x y z u v t j).1
  refine ⟨⟨h01, fun i hi => absurd hi (Nat.not_lt_zero _)⟩, hx, hh, ⟨⟨hok, fun j hj => (k 108 (by unfold scx; omega) (by omega) (by omega) (by omega) (by omega) (by omega) j).trans (a8.2 j hj)⟩, h8, h9⟩, fun i hi => ?_, a12, fun i hi => ⟨(k 108 (by unfold scx; omega) (by omega) (by omega) (by omega) (by omega) (by omega) i).trans (a13 i hi).1, fun y hy => ?_⟩⟩
  · have q := a11 i hi
    show match sT s i with
      | none => gi m2 (100 + 2 * i) 0 = nI 0
      | some t => gi m2 (100 + 2 * i) 0 = nI 1 ∧ gi m2 (100 + 2 * i) 1 = nI t.2.1 ∧ gi m2 (100 + 2 * i) 2 = nI t.1 ∧ ∀ j, j < t.2.1 → gl m2 (101 + 2 * i) j = t.2.2 j
    cases ht : sT s i with
    | none =>
      rw [ht] at q
      exact (k _ (by unfold scx; omega) (by omega) (by omega) (by omega) (by omega) (by omega) _).trans q
    | some t =>
      rw [ht] at q
      exact ⟨(k _ (by unfold scx; omega) (by omega) (by omega) (by omega) (by omega) (by omega) _).trans q.1, (k _ (by unfold scx; omega) (by omega) (by omega) (by omega) (by omega) (by omega) _).trans q.2.1, (k _ (by unfold scx; omega) (by omega) (by omega) (by omega) (by omega) (by omega) _).trans q.2.2.1, fun j hj => ((f1 _ (by unfold scx; omega) (by omega) (by omega) (by omega) (by omega) (by omega) _).2).trans (q.2.2.2 j hj)⟩
  · have hy2 : sIm s i = some y := hy
    have q := (a13 i hi).2 y hy2
    have hb := (a12.1 i hi).2.1 (by rw [hy2]; rfl)
    exact ⟨q.1.fr (fun c h1 h2 j => k c (by unfold scx; omega) (by omega) (by omega) (by omega) (by omega) (by omega) j), q.2.fr (fun c h1 h2 j => k c (by unfold scx; omega) (by omega) (by omega) (by omega) (by omega) (by omega) j)⟩
theorem MI.bu {s : Sg} {m m2 : Mem} {R : Ru} {X : Lf} {H : List Lf} {w pl : Int32} (hw : ∀ i y, i < 2 → sIm s i = some y → WR y.1) (hm : MI s m) (f1 : ∀ c, ¬ scm c → c ≠ 0 → c ≠ 1 → ∀ j, gi m2 c j = gi m c j ∧ gl m2 c j = gl m c j) (f2 : ∀ j, 2096 ≤ j → gi m2 1 j = gi m 1 j) (h05 : gi m2 0 5 = nI 0) (hx : IM R X m2) (hh : Mh R H m2) (h8 : gi m2 0 13 = w) (h9 : gi m2 0 14 = pl) : MI ((0, sTp s), R, X, H, sIm s, sT s, (w, pl)) m2 := by
  obtain ⟨⟨a1, a2⟩, a3, _, ⟨a6, a7⟩, a8, a9⟩ := hm
  have k : ∀ c, ¬ scm c → c ≠ 0 → c ≠ 1 → ∀ j, gi m2 c j = gi m c j := fun c x y z j => (f1 c x y z j).1
  refine ⟨⟨h05, fun i hi => absurd hi (Nat.not_lt_zero _)⟩, hx, hh, ⟨h8, h9⟩, fun i hi => ?_, fun i hi => ?_⟩
  · have q := a8 i hi
    show match sT s i with
      | none => gi m2 14 i = NO
      | some t => gi m2 14 i = nI t.1 ∧ gi m2 15 i = nI t.2.1 ∧ ∀ l, l < t.2.1 → gl m2 16 (40 * i + l) = t.2.2 l
    cases ht : sT s i with
    | none =>
      rw [ht] at q
      exact (k 14 (by unfold scm; omega) (by omega) (by omega) _).trans q
    | some t =>
      rw [ht] at q
      exact ⟨(k 14 (by unfold scm; omega) (by omega) (by omega) _).trans q.1, (k 15 (by unfold scm; omega) (by omega) (by omega) _).trans q.2.1, fun j hj => ((f1 16 (by unfold scm; omega) (by omega) (by omega) _).2).trans (q.2.2 j hj)⟩
  · have q := a9 i hi
    show match sIm s i with
      | none => gi m2 2 i = nI 0
      | some y => gi m2 2 i = nI 1 ∧ MR y.1 m2 1 (2096 * (i + 1)) ∧ ML y.1 y.2 m2 1 (2096 * (i + 1) + 33)
    cases ht : sIm s i with
    | none =>
      rw [ht] at q
      exact (k 2 (by unfold scm; omega) (by omega) (by omega) _).trans q
    | some y =>
      rw [ht] at q
      have hwy := hw i y hi ht
      exact ⟨(k 2 (by unfold scm; omega) (by omega) (by omega) _).trans q.1, q.2.1.fo (fun j hj => f2 j (by omega)), q.2.2.tr hwy.1 hwy.2.1 (fun j hj => f2 _ (by omega))⟩
theorem m_bur_loop {m : Mem} : ∀ n k, k ≤ 2096 → 2096 - k < n → X12_bureau_b144 n (nI k) (cq m 4 0 1 0 k) = some (gi m 4 0, cq m 4 0 1 0 2096) := by
  intro n
  induction n with
  | zero => intro k _ h; omega
  | succ n ih =>
    intro k hk hn
    rw [X12_bureau_b144, K2096]
    rcases Nat.eq_or_lt_of_le hk with he | hl
    · subst he
      rw [jle_t (by omega) (by omega), K0, chk_in (by omega) (by omega), ix_nI (by omega), gi_cq, if_pos (by omega)]
    · have e : gi (cq m 4 0 1 0 k) 4 k = gi m 4 (0 + k) := by rw [gi_cq, if_neg (by omega), Nat.zero_add]
      rw [jle_f (by omega) (by omega), chk_in (by omega) (by omega), chk_in (by omega) (by omega), ix_nI (by omega), lq, e, cq_s _ _ _ _ _ _ _ (by omega), K1, nadd]
      exact ih (k + 1) (by omega) (by omega)
def lfO (ag li : Nat → Nat) : Lf := (ag, fun _ => none, fun p t => if (li p).testBit t then some 0 else none, 0)
theorem has_lfO (ag li : Nat → Nat) (p t : Nat) : has (lfO ag li) p t = (li p).testBit t := by
  show (if (li p).testBit t then some 0 else none : Option Nat).isSome = _
  cases (li p).testBit t <;> rfl
theorem wl_lfO {r : Ru} {ag li : Nat → Nat} {B : Nat} (h : TWl r ag li) (hB : 99 ≤ B) : WL r (lfO ag li) B := by
  refine ⟨fun p hp => Nat.le_trans (h.2.1 p hp) hB, Nat.zero_le _, fun p t v hv => ?_, fun p q hp hq => by cases hq⟩
  have hv : (if (li p).testBit t then some 0 else none : Option Nat) = some v := hv
  split at hv
  · injection hv with hv; omega
  · cases hv
theorem cl_lfO {r : Ru} {ag li : Nat → Nat} {m : Mem} (hW : TWl r ag li) (h : TC r ag li m) : CL r (lfO ag li) m 16 := by
  obtain ⟨c0, d1, d2, d3, d4, d5, d6⟩ := h
  have hP := hW.1.2.1
  have hT := hW.1.1
  refine ⟨d1, d2, fun p hp => d3 p (by omega), fun p hp => ?_, fun t ht => ?_, fun p t v hp ht hv => ?_⟩
  · rw [d4 p (by omega), ls]
    congr 1
    have : (fun t => has (lfO ag li) p t) = fun t => (li p).testBit t := funext (fun t => has_lfO ag li p t)
    rw [this, bs_of (hW.2.2.1 p)]
  · rw [d5 t (by omega), wh]
    congr 1
    apply Nat.eq_of_testBit_eq
    intro i
    rw [bs_bit, bs_bit, has_lfO]
    by_cases h1 : i < rP r
    · have : i < 8 := by omega
      simp [h1, this]
    · rw [hW.2.2.2 i (by omega)]
      simp
  · have hv : (if (li p).testBit t then some 0 else none : Option Nat) = some v := hv
    cases hb : (li p).testBit t with
    | false => rw [hb] at hv; cases hv
    | true =>
      rw [hb] at hv
      injection hv with hv
      rw [d6 p t (by omega) (by omega) hb, hv]
theorem im_lfO {r : Ru} {ag li : Nat → Nat} {N : Nat} {m m2 : Mem} (hW : TWl r ag li) (hN : N ≤ 900) (h : TM r ag li N m) (hf : ∀ j, j < 2096 → gi m2 1 j = gi m 4 j) : IM r (lfO ag li) m2 := by
  obtain ⟨a1, a2, a3, a4, a5, a6, a7, a8, a9, b1, b2, b3, b4, b5, b6⟩ := h
  have hP := hW.1.2.1
  have hT := hW.1.1
  have law : ∀ k (o : Option (List Nat)), k < 2 → LawN m k N o → MLaw m2 1 0 k o := by
    intro k o hk hl
    cases o with
    | none =>
      show gi m2 1 (0 + 5 + k) = nI 0
      rw [Nat.zero_add, hf _ (by omega)]; exact hl
    | some cd =>
      obtain ⟨l1, l2, f, l3, l4, l5⟩ := hl
      refine ⟨?_, ?_, f, ?_, by omega, fun i hi => ?_⟩
      · rw [Nat.zero_add, hf _ (by omega)]; exact l1
      · rw [Nat.zero_add, hf _ (by omega)]; exact l2
      · rw [Nat.zero_add, hf _ (by omega)]; exact l3
      · rw [Nat.zero_add, hf _ (by omega)]; exact l5 i hi
  refine ⟨⟨(hf _ (by omega)).trans a1, (hf _ (by omega)).trans a2, (hf _ (by omega)).trans a3, (hf _ (by omega)).trans a4, (hf _ (by omega)).trans a5, fun t ht => ?_, fun p hp => ?_, law 0 _ (by omega) a8, law 1 _ (by omega) a9⟩, fun p hp => ?_, fun p t hp ht => ?_, fun p hp => ?_, ?_⟩
  · rw [Nat.zero_add, hf _ (by omega)]; exact a6 t ht
  · rw [Nat.zero_add, hf _ (by omega)]; exact a7 p hp
  · rw [hf _ (by omega)]; exact b1 p hp
  · rw [hf _ (by omega), show 33 + 8 + 14 * p + t = 41 + 14 * p + t by omega, b2 p t (by omega) (by omega)]
    show _ = oN (if (li p).testBit t then some 0 else none)
    cases (li p).testBit t <;> rfl
  · rw [hf _ (by omega), show 33 + 120 + p = 153 + p by omega, b3 p (by omega)]
    rfl
  · rw [hf _ (by omega)]; exact b4
theorem ws_bu {s : Sg} {k : Nat} {R : Ru} {X : Lf} {H : List Lf} {w pl : Int32} (hk : k < 512) (hw : WS s k) (hR : WR R) (hX : WL R X (bd (k + 1))) (hl : H.length ≤ 8) (hH : ∀ i, i < H.length → WL R (hg H i) (bd (k + 1))) : WS ((0, sTp s), R, X, H, sIm s, sT s, (w, pl)) (k + 1) := by
  obtain ⟨h1, h2, h3, h4, h5, h6, h7, h8, h9⟩ := hw.mono (k := k + 1) (by omega) (by omega)
  exact ⟨h1, Nat.zero_le _, fun i hi => absurd hi (Nat.not_lt_zero _), hR, hX, hl, hH, h8, h9⟩
