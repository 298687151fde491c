/-! an image is made -/
theorem lld {p : Nat → Bool} : ∀ (l : List (Option Nat)) (j b : Nat), l.all (fun o => match o with | none => true | some b => p b) = true → l.getD j none = some b → p b = true
  | [], j, b, _, h => by simp at h
  | o :: l, 0, b, ha, h => by
    have h : o = some b := by simpa using h
    subst h
    simp at ha
    exact ha.1
  | o :: l, j + 1, b, ha, h => by
    simp only [List.all_cons, Bool.and_eq_true] at ha
    exact lld l j b ha.2 (by simpa using h)
theorem lll {p : Nat → Bool} : ∀ (l : List (List (Option Nat))) (k j b : Nat), l.all (fun l => l.all (fun o => match o with | none => true | some b => p b)) = true → (l.getD k []).getD j none = some b → p b = true
  | [], k, j, b, _, h => by simp at h
  | x :: l, 0, j, b, ha, h => by
    simp only [List.all_cons, Bool.and_eq_true] at ha
    exact lld x j b ha.1 (by simpa using h)
  | x :: l, k + 1, j, b, ha, h => by
    simp only [List.all_cons, Bool.and_eq_true] at ha
    exact lll l k j b ha.2 (by simpa using h)
theorem rx_lt {N k j b : Nat} (hN : N = 109 ∨ N = 123) (hk : k < N) (h : RX k j = some b) : b < N := by
  rw [RX] at h
  by_cases h1 : k < 109
  · rw [if_pos h1] at h
    have := lll (p := fun b => decide (b < 109)) rxT k j b (by decide) h
    have := of_decide_eq_true this
    omega
  · rw [if_neg h1] at h
    cases hd : (riT.getD ((k - 109) % 14) []).getD j none with
    | none => rw [hd] at h; cases h
    | some d =>
      rw [hd] at h
      have h : k - (k - 109) % 14 + d = b := by injection h
      have := lll (p := fun b => decide (b < 14)) riT ((k - 109) % 14) j d (by decide) hd
      have := of_decide_eq_true this
      omega
def fok (c j : Nat) : Bool := fK c j == 0 || fK c j == 1
theorem l01 : ∀ (l : List Nat) (j : Nat), l.all (fun v => v == 0 || v == 1) = true → l.getD j 0 = 0 ∨ l.getD j 0 = 1
  | [], j, _ => Or.inl (by simp)
  | v :: l, 0, h => by
    simp at h
    simpa using h.1
  | v :: l, j + 1, h => by
    simp only [List.all_cons, Bool.and_eq_true] at h
    simpa using l01 l j h.2
theorem fk01 {c : Nat} (hc : c ≠ 7) (hc2 : c < 13) (j : Nat) : fK c j = 0 ∨ fK c j = 1 := by
  have h : ∀ c, c < 13 → c ≠ 7 → (fKT.getD c []).all (fun v => v == 0 || v == 1) = true := by decide
  exact l01 _ j (h c hc2 hc)
def shok (x : Sh) : Bool := match x with
  | .inl c => decide (c ≠ 7 ∧ c < 13)
  | .inr q => decide (q.1 < 6)
theorem cdd_no {x : Sh} (h : shok x = true) (j : Nat) : ¬ cdd x j := by
  cases x with
  | inl c =>
    have h := of_decide_eq_true (show decide (c ≠ 7 ∧ c < 13) = true from h)
    intro q
    rcases fk01 h.1 h.2 j with e | e
    · exact q.1 e
    · exact q.2 e
  | inr q =>
    have h := of_decide_eq_true (show decide (q.1 < 6) = true from h)
    intro q2
    exact q2 h
theorem sx_ok : ∀ k, k < 123 → k ≠ 39 → k ≠ 108 → shok (SX k) = true := by decide +kernel
theorem fk7 {j : Nat} (h : j ≠ 3) : fK 7 j = 0 ∨ fK 7 j = 1 := by
  have h2 : ∀ j, j < 10 → j ≠ 3 → fK 7 j = 0 ∨ fK 7 j = 1 := by decide
  by_cases hj : j < 10
  · exact h2 j hj h
  · left
    rw [fK]
    show List.getD [1, 1, 1, 2, 0, 0, 0, 0, 0, 0] j 0 = 0
    rw [List.getD_eq_getElem?_getD, List.getElem?_eq_none (by simp; omega)]
    rfl
theorem dcr_n {n b : Nat} (hn : n < 1000) (h : dcr (nI n) = some b) : b = n := by
  rw [dcr] at h
  split at h
  · cases h
  · injection h with h
    rw [← h]
    exact nI_clamp (by omega)
theorem nk_ok {s : Sg} {e : Nat} {ib : Nat → Nat} {N : Nat} {m : Mem} (hc : CI s e ib N m) (hN : N = 109 ∨ N = 123) : NK SX N RX m := by
  intro k hk
  refine ⟨fun j b h => rx_lt hN hk h, fun j b hd h => ?_⟩
  obtain ⟨_, _, _, ⟨z8, _, _⟩, _, z12, z13⟩ := hc
  by_cases h39 : k = 39
  · subst h39
    by_cases h3 : j = 3
    · subst h3
      rcases of_decide_eq_true z8.1 with q | q
      · rw [q, show (12 : Int32) = nI 12 from rfl] at h
        have := dcr_n (by omega) h
        omega
      · rw [q, show (14 : Int32) = nI 14 from rfl] at h
        have := dcr_n (by omega) h
        omega
    · have hd : ¬ fK 7 j = 0 ∧ ¬ fK 7 j = 1 := hd
      rcases fk7 h3 with q | q
      · exact absurd q hd.1
      · exact absurd q hd.2
  · by_cases h108 : k = 108
    · subst h108
      by_cases hj : j < 2
      · have q := (z13 j hj).1
        have q2 := (z12.1 j hj).2.2
        rw [q] at h
        have := dcr_n (by omega) h
        omega
      · rw [z8.2 j (by omega)] at h
        have := dcr_n (by omega) h
        omega
    · exact absurd hd (cdd_no (sx_ok k (by omega) h39 h108) j)
theorem CI.img {s : Sg} {e : Nat} {ib : Nat → Nat} {N N2 : Nat} {m m2 : Mem} {i B : Nat} (hi : i < 2) (hc : CI s e ib N m) (hB : B = 109 ∨ B = 123) (hf : ∀ c, c ≠ 108 → ¬ (B ≤ c ∧ c ≤ B + 13) → ∀ j, gi m2 c j = gi m c j ∧ gl m2 c j = gl m c j) (h8 : gi m2 108 i = nI B) (h8o : ∀ j, j ≠ i → gi m2 108 j = gi m 108 j) (hcb : Cib (sImg s i (sR s, sX s)) (fun j => if j = i then B else ib j) N2) (hr : CR (sR s) m2 (B + 1)) (hx : CL (sR s) (sX s) m2 (B + 8)) : CI (sImg s i (sR s, sX s)) e (fun j => if j = i then B else ib j) N2 m2 := by
  obtain ⟨⟨z1, z2⟩, z3, ⟨z4, z5, z6, z7⟩, ⟨z8, z9, z10⟩, z11, z12, z13⟩ := hc
  have kk : ∀ c, c < 108 → ∀ j, gi m2 c j = gi m c j ∧ gl m2 c j = gl m c j := fun c h j => hf c (by omega) (by omega) j
  refine ⟨⟨(kk 0 (by omega) 1).1.trans z1, fun j hj => (kk 1 (by omega) j).1.trans (z2 j hj)⟩, z3.fr (fun c hc j => (kk c (by omega) j).1), ⟨z4, (kk 40 (by omega) 1).1.trans z5, (kk 40 (by omega) 2).1.trans z6, fun j hj => (z7 j hj).fr (fun c h1 h2 l => (kk c (by omega) l).1)⟩, ⟨⟨by rw [(kk 39 (by omega) 3).1]; exact z8.1, fun j hj => (h8o j (by omega)).trans (z8.2 j hj)⟩, (kk 39 (by omega) 8).1.trans z9, (kk 39 (by omega) 9).1.trans z10⟩, fun j hj => ?_, hcb, fun j hj => ⟨?_, fun u hu => ?_⟩⟩
  · have q := z11 j hj
    show match sT s j with
      | none => gi m2 (100 + 2 * j) 0 = nI 0
      | some t => gi m2 (100 + 2 * j) 0 = nI 1 ∧ gi m2 (100 + 2 * j) 1 = nI t.2.1 ∧ gi m2 (100 + 2 * j) 2 = nI t.1 ∧ ∀ l, l < t.2.1 → gl m2 (101 + 2 * j) l = t.2.2 l
    cases ht : sT s j with
    | none =>
      rw [ht] at q
      exact (kk _ (by omega) _).1.trans q
    | some t =>
      rw [ht] at q
      exact ⟨(kk _ (by omega) _).1.trans q.1, (kk _ (by omega) _).1.trans q.2.1, (kk _ (by omega) _).1.trans q.2.2.1, fun l hl => (kk _ (by omega) _).2.trans (q.2.2.2 l hl)⟩
  · show gi m2 108 j = nI (if j = i then B else ib j)
    by_cases hji : j = i
    · rw [if_pos hji, hji]; exact h8
    · rw [if_neg hji, h8o j hji]; exact (z13 j hj).1
  · have hu : (if j = i then some (sR s, sX s) else sIm s j) = some u := hu
    show CR u.1 m2 ((if j = i then B else ib j) + 1) ∧ CL u.1 u.2 m2 ((if j = i then B else ib j) + 8)
    by_cases hji : j = i
    · rw [if_pos hji] at hu ⊢
      injection hu with hu
      subst hu
      exact ⟨hr, hx⟩
    · rw [if_neg hji] at hu ⊢
      have q := (z13 j hj).2 u hu
      have hb := (z12.1 j hj).2.1 (by rw [hu]; rfl)
      have hne : ib j ≠ B := fun e => by
        have hq := hcb.2.1
        have hq : (if 0 = i then B else ib 0) = (if 1 = i then B else ib 1) → (if 0 = i then B else ib 0) = 0 := hq
        have hi2 : i = 0 ∨ i = 1 := by omega
        rcases hi2 with rfl | rfl
        · have : j = 1 := by omega
          subst this
          rw [if_pos rfl, if_neg (by omega)] at hq
          omega
        · have : j = 0 := by omega
          subst this
          rw [if_neg (by omega), if_pos rfl] at hq
          omega
      exact ⟨q.1.fr (fun c h1 h2 l => (hf c (by omega) (by omega) l).1), q.2.fr (fun c h1 h2 l => (hf c (by omega) (by omega) l).1)⟩
theorem MI.img {s : Sg} {m : Mem} {i k : Nat} (hi : i < 2) (hw : WS s k) (hm : MI s m) : MI (sImg s i (sR s, sX s)) (si (cq m 1 0 1 (2096 * (i + 1)) 2096) 2 i (nI 1)) := by
  have g := hw.gx
  have hT := g.T; have hP := g.P
  obtain ⟨⟨z1, z2⟩, z3, ⟨z4, z5⟩, ⟨z6, z7⟩, z8, z9⟩ := hm
  have kk : ∀ c, c ≠ 1 → c ≠ 2 → ∀ j, gi (si (cq m 1 0 1 (2096 * (i + 1)) 2096) 2 i (nI 1)) c j = gi m c j := fun c h1 h2 j => by rw [gsn h2, gi_cq, if_neg (fun q => h1 q.1)]
  have k1 : ∀ j, ¬ (2096 * (i + 1) ≤ j ∧ j < 2096 * (i + 1) + 2096) → gi (si (cq m 1 0 1 (2096 * (i + 1)) 2096) 2 i (nI 1)) 1 j = gi m 1 j := fun j hj => by rw [gsn (by omega), gi_cq, if_neg (by omega)]
  have k2 : ∀ j, j < 2096 → gi (si (cq m 1 0 1 (2096 * (i + 1)) 2096) 2 i (nI 1)) 1 (2096 * (i + 1) + j) = gi m 1 (0 + j) := fun j hj => by
    rw [gsn (by omega), gi_cq, if_pos (by omega)]
    exact gix (by omega)
  refine ⟨⟨(kk 0 (by omega) (by omega) 5).trans z1, fun j hj => (kk 3 (by omega) (by omega) j).trans (z2 j hj)⟩, ⟨z3.1.tr hT hP (fun j hj => k1 _ (by omega)), z3.2.tr hT hP (fun j hj => k1 _ (by omega))⟩, ⟨(k1 162 (by omega)).trans z4, fun j hj => (z5 j hj).tr hT hP (fun l hl => k1 _ ?_)⟩, ⟨(kk 0 (by omega) (by omega) 13).trans z6, (kk 0 (by omega) (by omega) 14).trans z7⟩, fun j hj => ?_, fun j hj => ?_⟩
  · have := hw.2.2.2.2.2.1
    have hj : j < (sH s).length := hj
    omega
  · have q := z8 j hj
    show match sT s j with
      | none => gi (si (cq m 1 0 1 (2096 * (i + 1)) 2096) 2 i (nI 1)) 14 j = NO
      | some t => gi (si (cq m 1 0 1 (2096 * (i + 1)) 2096) 2 i (nI 1)) 14 j = nI t.1 ∧ gi (si (cq m 1 0 1 (2096 * (i + 1)) 2096) 2 i (nI 1)) 15 j = nI t.2.1 ∧ ∀ l, l < t.2.1 → gl m 16 (40 * j + l) = t.2.2 l
    cases ht : sT s j with
    | none =>
      rw [ht] at q
      exact (kk 14 (by omega) (by omega) _).trans q
    | some t =>
      rw [ht] at q
      exact ⟨(kk 14 (by omega) (by omega) _).trans q.1, (kk 15 (by omega) (by omega) _).trans q.2.1, q.2.2⟩
  · have q := z9 j hj
    show match (if j = i then some (sR s, sX s) else sIm s j) with
      | none => gi (si (cq m 1 0 1 (2096 * (i + 1)) 2096) 2 i (nI 1)) 2 j = nI 0
      | some y => gi (si (cq m 1 0 1 (2096 * (i + 1)) 2096) 2 i (nI 1)) 2 j = nI 1 ∧ MR y.1 (si (cq m 1 0 1 (2096 * (i + 1)) 2096) 2 i (nI 1)) 1 (2096 * (j + 1)) ∧ ML y.1 y.2 (si (cq m 1 0 1 (2096 * (i + 1)) 2096) 2 i (nI 1)) 1 (2096 * (j + 1) + 33)
    by_cases hji : j = i
    · subst hji
      rw [if_pos rfl]
      exact ⟨gss, z3.1.tr hT hP k2, z3.2.tr hT hP (fun l hl => by rw [show 2096 * (j + 1) + 33 + l = 2096 * (j + 1) + (33 + l) by omega, k2 _ (by omega)]; exact gix (by omega))⟩
    · rw [if_neg hji]
      cases ht : sIm s j with
      | none =>
        rw [ht] at q
        rw [gsi hji, gi_cq, if_neg (by omega)]
        exact q
      | some u =>
        rw [ht] at q
        have hwu := (hw.2.2.2.2.2.2.2.1 j u hj ht).1
        refine ⟨?_, q.2.1.tr hwu.1 hwu.2.1 (fun l hl => k1 _ (by omega)), q.2.2.tr hwu.1 hwu.2.1 (fun l hl => k1 _ (by omega))⟩
        rw [gsi hji, gi_cq, if_neg (by omega)]
        exact q.1
theorem c_image_b {r : Ru} {x : Lf} {m : Mem} {N i B : Nat} (hi : i < 2) (hT : rT r ≤ 14) (hP : rP r ≤ 8) (hB : B = 109 ∨ B = 123) (h8 : gi m 108 i = nI B) (ho : oki N (nI B) = true) (h : IC r x m 25) : ∃ m2, X11_image_b32 N (nI i) m = some (nI 0, m2) ∧ CR r m2 (B + 1) ∧ CL r x m2 (B + 8) ∧ Fr (s1d B) m m2 := by
  obtain ⟨m1, a1, a2, a3⟩ := c_rbecome (a := B + 1) (b := 2) hT hP (by omega) h.1
  obtain ⟨m2, b1, b2, b3⟩ := c_become (a := B + 8) (b := 26) (m := m1) hT hP (by omega) (h.2.fr (fun c q1 q2 j => (a3 c (by unfold s06; omega) j).1))
  have h8' : gi m1 108 i = nI B := by rw [(a3 108 (by unfold s06; omega) i).1]; exact h8
  have hne : ¬ B = 0 := by omega
  rw [X11_image_b32, K0]
  simp (disch := omega) only [chk_in, ix_nI, h8]
  rw [jeq_f hne (by omega) (by omega), chk_tt ho, lq, a1, bq, h8', jeq_f hne (by omega) (by omega), chk_tt ho, lq, ix_nI (by omega), b1, bq]
  exact ⟨m2, rfl, a2.fr (fun c q1 q2 j => (b3 c (by unfold s05; omega) j).1), b2, (a3.mono (fun c q => by unfold s06 at q; unfold s1d; omega)).tr (b3.mono (fun c q => by unfold s05 at q; unfold s1d; omega))⟩
theorem WS.img {s : Sg} {i k : Nat} (hw : WS s k) : WS (sImg s i (sR s, sX s)) k := by
  obtain ⟨z1, z2, z3, z4, z5, z6, z7, z8, z9⟩ := hw
  refine ⟨z1, z2, z3, z4, z5, z6, z7, fun j y hj hy => ?_, z9⟩
  have hy : (if j = i then some (sR s, sX s) else sIm s j) = some y := hy
  by_cases hji : j = i
  · rw [if_pos hji] at hy
    injection hy with hy
    subst hy
    exact ⟨z4, z5⟩
  · rw [if_neg hji] at hy
    exact z8 j y hj hy
theorem St_image_ok : St_image Rel := by
  intro k N mx mm hk ⟨s, e, ib, hw, hc, hm⟩ a
  have g := hw.gx
  have hT := g.T; have hP := g.P
  have hm0 := hm.th
  have fin : Rel (k + 1) N mx (si mm 0 0 (nI 0)) := Rel.rd hk hw hc hm FX.rf FM.th
  have hw1 : WS s (k + 1) := hw.mono (by omega) (by omega)
  by_cases ha : prs 2 a
  · obtain ⟨i, hi, rfl⟩ := ha
    have l1 := m_image_loop (m := si mm 0 0 (nI 0)) hi FU 0 (by omega) (by unfold FU; omega)
    rw [cq_z] at l1
    have hm2 : X12_image (nI i) mm = some (nI 0, si (cq (si mm 0 0 (nI 0)) 1 0 1 (2096 * (i + 1)) 2096) 2 i (nI 1)) := by
      rw [X12_image, K0, lq, wk_t l64_1 (by omega) (by omega), bq, jeq_f (by omega) (by omega) (by omega), l1]
    have c1 := (hc.2.2.2.2.2.2 i hi).1
    have hcb := hc.2.2.2.2.2.1
    have hi2 : i = 0 ∨ i = 1 := by omega
    cases hs : sIm s i with
    | some y =>
      left
      obtain ⟨o1, o2⟩ := oki_t hcb hi (by rw [hs]; rfl)
      obtain ⟨mx2, a1, a2, a3, a4⟩ := c_image_b hi hT hP o2 c1 o1 hc.2.1
      refine ⟨nI 0, mx2, _, ?_, hm2, sImg s i (sR s, sX s), e, _, hw1.img, hc.img hi o2 (fun c q1 q2 j => a4 c (by unfold s1d; omega) j) (by rw [(a4 108 (by unfold s1d; omega) i).1]; exact c1) (fun j hj => (a4 108 (by unfold s1d; omega) j).1) ?_ a2 a3, hm0.img hi hw⟩
      · rw [X11_image, c_isImage_t hi, bq, K0, jeq_f (by omega) (by omega) (by omega)]
        simp (disch := omega) only [chk_in, ix_nI, c1]
        rw [jeq_f (by omega) (by omega) (by omega), chk_tt o1, lq]
        exact a1
      · have eb : (fun j => if j = i then ib i else ib j) = ib := by
          funext j
          split
          · rename_i q; rw [q]
          · rfl
        rw [eb]
        refine ⟨fun j hj => ⟨fun hn => ?_, fun hn => ?_, (hcb.1 j hj).2.2⟩, hcb.2.1, hcb.2.2⟩
        · have hn : (if j = i then some (sR s, sX s) else sIm s j) = none := hn
          by_cases hji : j = i
          · rw [if_pos hji] at hn; cases hn
          · rw [if_neg hji] at hn; exact (hcb.1 j hj).1 hn
        · have hn : (if j = i then some (sR s, sX s) else sIm s j).isSome = true := hn
          by_cases hji : j = i
          · rw [hji]; exact o2
          · rw [if_neg hji] at hn; exact (hcb.1 j hj).2.1 hn
    | none =>
      right
      have hz := (hcb.1 i hi).1 hs
      have hN : N = 109 ∨ N = 123 := by
        obtain ⟨_, _, h3⟩ := hcb
        rcases hi2 with rfl | rfl <;> omega
      have ho : ib (1 - i) = 0 ∨ ib (1 - i) = 109 := by
        obtain ⟨_, _, h3⟩ := hcb
        rcases hi2 with rfl | rfl
        · show ib 1 = 0 ∨ ib 1 = 109; omega
        · show ib 0 = 0 ∨ ib 0 = 109; omega
      have ho2 : (N = 109 ∧ ib (1 - i) = 0) ∨ (N = 123 ∧ ib (1 - i) = 109) := by
        obtain ⟨_, _, h3⟩ := hcb
        rcases hi2 with rfl | rfl
        · show (N = 109 ∧ ib 1 = 0) ∨ (N = 123 ∧ ib 1 = 109); omega
        · show (N = 109 ∧ ib 0 = 0) ∨ (N = 123 ∧ ib 0 = 109); omega
      refine ⟨hN, nk_ok hc hN, ?_⟩
      obtain ⟨mx1, a1, a2⟩ := c_X3_init (m := nw mx N) (a := N)
      have f1 : ∀ c, ¬ (N ≤ c ∧ c ≤ N + 13) → ∀ j, gi mx1 c j = gi mx c j ∧ gl mx1 c j = gl mx c j := fun c h j => ⟨by rw [(a2 c (by unfold s1d; omega) j).1, gnw (by omega)], by rw [(a2 c (by unfold s1d; omega) j).2, glw (by omega)]⟩
      have ok2 : oki (N + 14) (nI N) = true := by
        rcases hN with rfl | rfl <;> decide
      have ic3 : IC (sR s) (sX s) (si mx1 108 i (nI N)) 25 := hc.2.1.fr (fun c q j => by rw [gsn (by omega), (f1 c (by omega) j).1])
      obtain ⟨mx2, b1, b2, b3, b4⟩ := c_image_b (N := N + 14) (m := si mx1 108 i (nI N)) hi hT hP hN gss ok2 ic3
      have c0 : gi mx 108 i = 0 := by rw [c1, hz]; rfl
      refine ⟨nI 0, mx2, _, ?_, hm2, sImg s i (sR s, sX s), e, _, hw1.img, hc.img (N2 := N + 14) hi hN (fun c q1 q2 j => ?_) (by rw [(b4 108 (by unfold s1d; omega) i).1, gss]) (fun j hj => ?_) ?_ b2 b3, hm0.img hi hw⟩
      · rw [X11_imageN, c_isImage_t hi, bq, if_neg (by decide), chk_in hi (by omega), ix_nI (by omega), chk_tt (decide_eq_true c0), a1, bq, lq]
        exact b1
      · exact ⟨by rw [(b4 c (by unfold s1d; omega) j).1, gsn q1, (f1 c q2 j).1], by rw [(b4 c (by unfold s1d; omega) j).2]; exact (f1 c q2 j).2⟩
      · rw [(b4 108 (by unfold s1d; omega) j).1, gsi hj, (f1 108 (by omega) j).1]
      · refine ⟨fun j hj => ⟨fun hn => ?_, fun hn => ?_, ?_⟩, ?_, ?_⟩
        · have hn : (if j = i then some (sR s, sX s) else sIm s j) = none := hn
          show (if j = i then N else ib j) = 0
          by_cases hji : j = i
          · rw [if_pos hji] at hn; cases hn
          · rw [if_neg hji] at hn ⊢; exact (hcb.1 j hj).1 hn
        · have hn : (if j = i then some (sR s, sX s) else sIm s j).isSome = true := hn
          show (if j = i then N else ib j) = 109 ∨ (if j = i then N else ib j) = 123
          by_cases hji : j = i
          · rw [if_pos hji]; exact hN
          · rw [if_neg hji] at hn ⊢; exact (hcb.1 j hj).2.1 hn
        · show (if j = i then N else ib j) < N + 14
          have := (hcb.1 j hj).2.2
          split <;> omega
        · show (if 0 = i then N else ib 0) = (if 1 = i then N else ib 1) → (if 0 = i then N else ib 0) = 0
          rcases hi2 with rfl | rfl
          · rw [if_pos rfl, if_neg (by omega)]
            have ho2 : (N = 109 ∧ ib 1 = 0) ∨ (N = 123 ∧ ib 1 = 109) := ho2
            omega
          · rw [if_neg (by omega), if_pos rfl]
            have ho2 : (N = 109 ∧ ib 0 = 0) ∨ (N = 123 ∧ ib 0 = 109) := ho2
            omega
        · show (N + 14 = 109 ∧ (if 0 = i then N else ib 0) = 0 ∧ (if 1 = i then N else ib 1) = 0) ∨ (N + 14 = 123 ∧ (((if 0 = i then N else ib 0) = 109 ∧ (if 1 = i then N else ib 1) = 0) ∨ ((if 0 = i then N else ib 0) = 0 ∧ (if 1 = i then N else ib 1) = 109))) ∨ (N + 14 = 137 ∧ (if 0 = i then N else ib 0) ≠ 0 ∧ (if 1 = i then N else ib 1) ≠ 0)
          rcases hi2 with rfl | rfl
          · rw [if_pos rfl, if_neg (by omega)]
            have ho2 : (N = 109 ∧ ib 1 = 0) ∨ (N = 123 ∧ ib 1 = 109) := ho2
            omega
          · rw [if_neg (by omega), if_pos rfl]
            have ho2 : (N = 109 ∧ ib 0 = 0) ∨ (N = 123 ∧ ib 0 = 109) := ho2
            omega
  · left
    refine ⟨-2, mx, si mm 0 0 (nI 0), ?_, ?_, fin⟩
    · rw [X11_image, c_isImage_f ha, bq, K0, jeq_t rfl]
    · rw [X12_image, K0, lq, wk_f l64_1 ha (by omega), bq, jeq_t rfl]
