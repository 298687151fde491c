/-! fib on both sides -/
def sfb (c : Nat) : Prop := c = 23 ∨ c = 24 ∨ c = 96 ∨ c = 97 ∨ c = 98
theorem efl_lt {r : Ru} {x : Lf} (g : GX r x) (p q t : Nat) : efl r x p q t < 1000000 := by
  have gy : GX r (fbx x p (2 ^ t)) := g.mk (g.2.xb) (Nat.le_refl _)
  have a := ww1_le g p q; have b := ww2_le r x p q
  have c := ww1_le gy p q; have d := ww2_le r (fbx x p (2 ^ t)) p q
  rw [efl]
  split <;> omega
def SK0 (r : Ru) (x : Lf) (p q F k : Nat) (m : Mem) : Prop := IC r x m 25 ∧ gi m 96 1 = nI p ∧ gi m 96 2 = nI q ∧ gi m 96 3 = nI F ∧ ∀ t, t < k → gi m 97 t = nI (efl r x p q t) ∧ gi m 98 t = nI (alk F (efl r x p q) t)
theorem c_fewest0 {r : Ru} {x : Lf} {p q : Nat} (g : GX r x) (hp : p < rP r) (hq : q < rP r) (hn : p ≠ q) : ∀ fu k m, 14 - k < fu → k ≤ 14 → SK0 r x p q (fre r x p) k m → ∃ m2, Fr sfb m m2 ∧ ((X1_fewest_b48 fu (nI k) m = some (NO, m2) ∧ ∀ B, ¬ Oks (fre r x p) (okA r x p q) B) ∨ ∃ A, Bst (fre r x p) (okA r x p q) A ∧ X1_fewest_b48 fu (nI k) m = some (nI (pcn A), m2) ∧ gi m2 96 6 = nI A) := by
  have hT := g.T
  have h14 : (2 : Nat) ^ rT r ≤ 2 ^ 14 := Nat.pow_le_pow_right (by decide) hT
  have hFl := @fre_lt r x p
  have hc := pcn_le (fre r x p)
  intro fu
  induction fu with
  | zero => intro k m h; omega
  | succ fu ih =>
    intro k m hf hle h
    rw [X1_fewest_b48, K14]
    rcases Nat.eq_or_lt_of_le hle with he | hl
    · subst he
      rw [jle_t (by omega) (by omega), h.2.2.2.1, bitc (by omega), bq, K0]
      obtain ⟨m2, f2, r2⟩ := c_fewest_loop g hp hq hn FU 0 m (by unfold FU; omega) (by omega) ⟨h.1, h.2.1, h.2.2.1, h.2.2.2.1, fun t ht => (h.2.2.2.2 t ht).2⟩ (fun B _ => Nat.zero_le _)
      exact ⟨m2, f2.mono (fun c q => by unfold s96 at q; unfold sfb; omega), r2⟩
    · rw [jle_f (by omega) (by omega)]
      obtain ⟨m1, e1, f1⟩ := c_effect g h.1 hp hq hn h.2.1 h.2.2.1 hl
      have hic : IC r x m1 25 := h.1.f24 (by decide) (f1.mono (fun c q => Or.inl q))
      have v : ∀ c, c ≠ 23 → ∀ j, gi m1 c j = gi m c j := fun c hc j => (f1 c (by unfold s23; omega) j).1
      rw [e1, bq, chk_in (by omega) (by omega), lq, ix_nI (by omega), c_alike (F := fre r x p) (ef := efl r x p q) (by omega) hl (by rw [gsn (by omega), v 96 (by omega), h.2.2.2.1]) (fun u hu => by
        by_cases e : u = k
        · subst e; rw [gss]
        · rw [gsi (by omega), v 97 (by omega)]; exact (h.2.2.2.2 u (by omega)).1) (fun u _ => efl_lt g p q u), bq, chk_in (by omega) (by omega), lq, K1, nadd]
      obtain ⟨m2, f2, r2⟩ := ih (k + 1) (si (si m1 97 k (nI (efl r x p q k))) 98 k (nI (alk (fre r x p) (efl r x p q) k))) (by omega) (by omega) ⟨(hic.si (by decide) (by decide) _ _).si (by decide) (by decide) _ _, by rw [gsn (by omega), gsn (by omega), v 96 (by omega), h.2.1], by rw [gsn (by omega), gsn (by omega), v 96 (by omega), h.2.2.1], by rw [gsn (by omega), gsn (by omega), v 96 (by omega), h.2.2.2.1], fun t ht => by
        by_cases e : t = k
        · subst e; exact ⟨by rw [gsn (by omega), gss], by rw [gss]⟩
        · have := h.2.2.2.2 t (by omega)
          exact ⟨by rw [gsn (by omega), gsi (by omega), v 97 (by omega)]; exact this.1, by rw [gsi (by omega), gsn (by omega), v 98 (by omega)]; exact this.2⟩⟩
      exact ⟨m2, (f1.mono (fun c q => by unfold s23 at q; unfold sfb; omega)).tr (((Fr.si (by unfold sfb; omega)).tr (Fr.si (by unfold sfb; omega))).tr f2), r2⟩
theorem c_fewest {r : Ru} {x : Lf} {m : Mem} {p q : Nat} (g : GX r x) (h : IC r x m 25) (hp : p < rP r) (hq : q < rP r) (hn : p ≠ q) : ∃ m2, Fr sfb m m2 ∧ ((X1_fewest (nI p) (nI q) m = some (NO, m2) ∧ ∀ B, ¬ Oks (fre r x p) (okA r x p q) B) ∨ ∃ A, Bst (fre r x p) (okA r x p q) A ∧ X1_fewest (nI p) (nI q) m = some (nI (pcn A), m2) ∧ gi m2 96 6 = nI A) := by
  have hT := g.T; have hP := g.P
  have h2 : IC r x (si (si m 96 1 (nI p)) 96 2 (nI q)) 25 := (h.si (by decide) (by decide) _ _).si (by decide) (by decide) _ _
  have c1 : gi (si (si m 96 1 (nI p)) 96 2 (nI q)) 29 p = _ := h2.list hp
  have hp2 : 1 ≤ 2 ^ rT r := Nat.one_le_two_pow
  rw [X1_fewest, lq, lq, gsi (by omega), gss, chk_in (by omega) (by omega), lq, h2.T, kn1, K1, nshl (by omega), nsub hp2, ix_nI (by omega), c1, nandn, K0]
  obtain ⟨m2, f2, r2⟩ := c_fewest0 g hp hq hn FU 0 (si (si (si m 96 1 (nI p)) 96 2 (nI q)) 96 3 (nI (fre r x p))) (by unfold FU; omega) (by omega) ⟨h2.si (by decide) (by decide) _ _, by rw [gsi (by omega), gsi (by omega), gss], by rw [gsi (by omega), gss], by rw [gss], fun t ht => by omega⟩
  exact ⟨m2, (((Fr.si (by unfold sfb; omega)).tr (Fr.si (by unfold sfb; omega))).tr (Fr.si (by unfold sfb; omega))).tr f2, r2⟩
/-- the reference: a state to which it comes back -/
def MS (s : Sg) (m : Mem) : Prop := MI s m ∧ ML (sR s) (sX s) m 13 0
theorem back2 {s : Sg} {k : Nat} {m1 m2 : Mem} {y : Lf} {S : Nat → Prop} (hw : WS s k) (hm : MS s m1) (hy : IM (sR s) y m2) (f2 : FL S m1 m2) (hS : ∀ c, S c → c = 5 ∨ c = 6 ∨ c = 8) : ∃ m3, X12_isAhead m2 = some ((), m3) ∧ MS s m3 := by
  have g := hw.gx
  have h13 := hm.2.fr (m2 := m2) (fun j => (f2.1 13 (fun q => by have := hS 13 q; omega) (by omega) j).1)
  obtain ⟨m3, e1, e2, e3⟩ := m_isAhead g.T g.P hy h13
  obtain ⟨m4, e4, e5⟩ := back hw hm.1 hm.2 Fr.rf hy f2 hS
  rw [e1] at e4
  injection e4 with e4
  injection e4 with _ e4
  subst e4
  exact ⟨m3, e1, e5, h13.fr (fun j => (e3.1 13 (fun q => q.elim) (by omega) j).1)⟩
theorem fbx_0 (x : Lf) (p : Nat) : fbx x p 0 = x := by
  obtain ⟨a, b, c, d⟩ := x
  show (a, b, (fun i t => if i = p ∧ (0 : Nat).testBit t = true then some 0 else c i t), d) = (a, b, c, d)
  have : (fun i t => if i = p ∧ (0 : Nat).testBit t = true then some 0 else c i t) = c := by
    funext i t
    rw [if_neg (by simp)]
  rw [this]
theorem fbx_s {x : Lf} {p A k : Nat} (h : A.testBit k = true) : fbx x p (A &&& (2 ^ (k + 1) - 1)) = st (fbx x p (A &&& (2 ^ k - 1))) p k (some 0) := by
  show (lag x, lmt x, _, lyr x) = (lag x, lmt x, _, lyr x)
  have : (fun i t => if i = p ∧ (A &&& (2 ^ (k + 1) - 1)).testBit t = true then some 0 else lsn x i t) = (fun i t => if i = p ∧ t = k then some 0 else lsn (fbx x p (A &&& (2 ^ k - 1))) i t) := by
    funext i t
    rw [lsn_fbx, Nat.testBit_and, Nat.testBit_and, Nat.testBit_two_pow_sub_one, Nat.testBit_two_pow_sub_one]
    by_cases hi : i = p
    · by_cases ht : t = k
      · subst ht; simp [hi, h]
      · by_cases hl : t < k
        · have : t < k + 1 := by omega
          simp [hi, ht, hl, this]
        · have : ¬ t < k + 1 := by omega
          simp [hi, ht, hl, this]
    · simp [hi]
  rw [this]
theorem fbx_n {x : Lf} {p A k : Nat} (h : A.testBit k = false) : A &&& (2 ^ (k + 1) - 1) = A &&& (2 ^ k - 1) := Nat.eq_of_testBit_eq (fun t => by
  rw [Nat.testBit_and, Nat.testBit_and, Nat.testBit_two_pow_sub_one, Nat.testBit_two_pow_sub_one]
  by_cases ht : t = k
  · subst ht; simp [h]
  · by_cases hl : t < k
    · have : t < k + 1 := by omega
      simp [hl, this]
    · have : ¬ t < k + 1 := by omega
      simp [hl, this])
theorem m_fib_in {s : Sg} {kk : Nat} {m0 : Mem} (hw : WS s kk) (hm : MS s m0) {p q A : Nat} (hp : p < rP (sR s)) (hq : q < rP (sR s)) (hA : A < 2 ^ rT (sR s)) (k46 : Int32 → Int32 → Int32 → Int32 → Int32 → Int32 → Mem → Option (Int32 × Mem)) (c L its : Int32) : ∀ n k m, k ≤ rT (sR s) → rT (sR s) - k < n → IM (sR s) (fbx (sX s) p (A &&& (2 ^ k - 1))) m → FL (fun c => c = 5 ∨ c = 6 ∨ c = 8) m0 m → ∃ m3, MS s m3 ∧ X12_fib_b92 k46 n (nI p) (nI q) c L its (nI A) (nI k) m = k46 (nI p) (nI q) c L (if okA (sR s) (sX s) p q A then nI A else its) (nI (A + 1)) m3 := by
  have g := hw.gx
  have hT := g.T; have hP := g.P
  have h14 : (2 : Nat) ^ rT (sR s) ≤ 2 ^ 14 := Nat.pow_le_pow_right (by decide) hT
  intro n
  induction n with
  | zero => intro k m _ h; omega
  | succ n ih =>
    intro k m hk hn h hf
    rw [X12_fib_b92, K1, chk_in (by omega) (by omega), ix_nI (by omega), h.T]
    rcases Nat.eq_or_lt_of_le hk with he | hl
    · subst he
      have eA : A &&& (2 ^ rT (sR s) - 1) = A := Nat.and_two_pow_sub_one_of_lt_two_pow hA
      rw [eA] at h
      have gy : GX (sR s) (fbx (sX s) p A) := g.mk (g.2.xb) (Nat.le_refl _)
      obtain ⟨m1, e1, f1⟩ := m_goodOf gy h hp hq
      obtain ⟨m3, e3, h3⟩ := back2 hw hm (h.f56 f1) (hf.tr (fl56 f1)) (fun c q => q)
      rw [jle_t (by omega) (by omega), e1, bq, K3, chk_in (by omega) (by omega), ix_nI (by omega), (h.f56 f1).bar, e3, bq, bq, nadd, okA]
      refine ⟨m3, h3, ?_⟩
      by_cases hl : gd (sR s) (fbx (sX s) p A) p q < nI (rbar (sR s))
      · rw [if_pos hl, decide_eq_false (fun z => z hl)]
        rfl
      · rw [if_neg hl, decide_eq_true hl]
        rfl
    · rw [jle_f (by omega) (by omega), isIn_e (by omega) (by omega), bq, K0, nadd]
      cases hb : A.testBit k with
      | false =>
        rw [if_pos (show nI (if false = true then 1 else 0) = nI 0 by decide)]
        exact ih (k + 1) m (by omega) (by omega) (by rw [fbx_n (x := sX s) (p := p) hb]; exact h) hf
      | true =>
        rw [if_neg (show ¬ nI (if true = true then 1 else 0) = nI 0 by decide), K41, K14, nmul, nadd, nadd, chk_in (by omega) (by omega), lq, ix_nI (by omega)]
        refine ih (k + 1) _ (by omega) (by omega) ?_ (hf.tr (FL.s1 (by omega) (by omega)))
        rw [fbx_s hb]
        exact h.wst hT hP hp hl (some 0)
/-- the best among the sets below S -/
def Bto (F : Nat) (ok : Nat → Bool) (S : Nat) : Option Nat → Prop
  | none => ∀ B, B < S → ¬ Oks F ok B
  | some A => A < S ∧ Oks F ok A ∧ ∀ B, B < S → Oks F ok B → pcn A < pcn B ∨ (pcn A = pcn B ∧ A ≤ B)
def fans (c : Nat) : Option Nat → Int32
  | none => NO
  | some A => if c = 1 then nI A else nI (pcn A)
theorem m_fib_out {s : Sg} {kk : Nat} (hw : WS s kk) {p q c : Nat} (hc : c < 2) (hp : p < rP (sR s)) (hq : q < rP (sR s)) : ∀ n S b m, S ≤ 2 ^ rT (sR s) → 2 ^ rT (sR s) - S < n → MS s m → Bto (fre (sR s) (sX s) p) (okA (sR s) (sX s) p q) S b → ∃ m3 b2, MS s m3 ∧ Bto (fre (sR s) (sX s) p) (okA (sR s) (sX s) p q) (2 ^ rT (sR s)) b2 ∧ X12_fib_b46 n (nI p) (nI q) (nI c) (nI (ls (sR s) (sX s) p)) (oN b) (nI S) m = some (fans c b2, m3) := by
  have g := hw.gx
  have hT := g.T; have hP := g.P
  have h14 : (2 : Nat) ^ rT (sR s) ≤ 2 ^ 14 := Nat.pow_le_pow_right (by decide) hT
  have hL := ls_lt hT (sX s) p
  have inner := fun (n S : Nat) (b : Option Nat) (m : Mem) (hS : S < 2 ^ rT (sR s)) (hm : MS s m) => m_fib_in hw hm hp hq hS (X12_fib_b46 n) (nI c) (nI (ls (sR s) (sX s) p)) (oN b) FU 0 m (by omega) (by unfold FU; omega) (by
    rw [show S &&& (2 ^ 0 - 1) = 0 by simp, fbx_0]; exact hm.1.2.1) FL.rf
  intro n
  induction n with
  | zero => intro S b m _ h; omega
  | succ n ih =>
    intro S b m hS hn hm hb
    have h := hm.1.2.1
    rw [X12_fib_b46, kn1, K1, chk_in (by omega) (by omega), ix_nI (by omega), h.T, nshl (by omega)]
    rcases Nat.eq_or_lt_of_le hS with he | hl
    · subst he
      rw [jle_t (by omega) (by omega)]
      refine ⟨m, b, hm, hb, ?_⟩
      cases b with
      | none => rw [oN_none, jm_t]; rfl
      | some A =>
        have hA : A < 2 ^ rT (sR s) := hb.1
        rw [oN_some, jm_f (by omega), m_bitsOf (by omega), bq, fans]
        by_cases h1 : c = 1
        · rw [if_pos (by rw [h1]), if_pos h1]
        · rw [jeq_f h1 (by omega) (by omega), if_neg h1]
    · rw [jle_f (by omega) (by omega), nand, K0, nadd]
      have hs : S &&& ls (sR s) (sX s) p = 0 ↔ ∀ i, S.testBit i = true → (fre (sR s) (sX s) p).testBit i = true := by
        constructor
        · intro z i hi
          rw [fre_bit hT]
          have : (S &&& ls (sR s) (sX s) p).testBit i = false := by rw [z]; simp
          rw [Nat.testBit_and, hi] at this
          have hiT := bit_lt hl hi
          simp [hiT]
          simpa using this
        · intro z
          apply Nat.eq_of_testBit_eq
          intro i
          rw [Nat.testBit_and]
          cases hi : S.testBit i with
          | false => simp
          | true =>
            have := z i hi
            rw [fre_bit hT] at this
            simp at this
            simp [this.2]
      have hlt : S &&& ls (sR s) (sX s) p < 16384 := Nat.lt_of_le_of_lt Nat.and_le_left (by omega)
      by_cases hz : S &&& ls (sR s) (sX s) p = 0
      · rw [if_pos (by rw [hz])]
        have hsub := hs.mp hz
        have go : ∀ m', MS s m' → (∀ A, b = some A → pcn S < pcn A) → ∃ m3 b2, MS s m3 ∧ Bto (fre (sR s) (sX s) p) (okA (sR s) (sX s) p q) (2 ^ rT (sR s)) b2 ∧ X12_fib_b92 (X12_fib_b46 n) FU (nI p) (nI q) (nI c) (nI (ls (sR s) (sX s) p)) (oN b) (nI S) (nI 0) m' = some (fans c b2, m3) := by
          intro m' hm' hlt
          obtain ⟨m3, h3, e3⟩ := inner n S b m' hl hm'
          rw [e3]
          by_cases ho : okA (sR s) (sX s) p q S = true
          · rw [if_pos ho]
            refine ih (S + 1) (some S) m3 (by omega) (by omega) h3 ⟨by omega, ⟨hsub, ho⟩, fun B hB hOB => ?_⟩
            by_cases e : B = S
            · subst e; exact Or.inr ⟨rfl, Nat.le_refl _⟩
            · cases b with
              | none => exact absurd hOB (hb B (by omega))
              | some A =>
                have := hb.2.2 B (by omega) hOB
                have := hlt A rfl
                exact Or.inl (by omega)
          · rw [if_neg ho]
            refine ih (S + 1) b m3 (by omega) (by omega) h3 ?_
            cases b with
            | none =>
              intro B hB hOB
              by_cases e : B = S
              · subst e; exact ho hOB.2
              · exact hb B (by omega) hOB
            | some A =>
              refine ⟨by have := hb.1; omega, hb.2.1, fun B hB hOB => ?_⟩
              by_cases e : B = S
              · subst e; exact absurd hOB.2 ho
              · exact hb.2.2 B (by omega) hOB
        cases hbb : b with
        | none =>
          rw [oN_none, jm_t]
          have := go m hm (fun A hA => by rw [hbb] at hA; cases hA)
          rw [hbb] at this
          exact this
        | some A =>
          have hA : A < S ∧ Oks (fre (sR s) (sX s) p) (okA (sR s) (sX s) p q) A ∧ ∀ B, B < S → Oks (fre (sR s) (sX s) p) (okA (sR s) (sX s) p q) B → pcn A < pcn B ∨ (pcn A = pcn B ∧ A ≤ B) := by rw [hbb] at hb; exact hb
          have q1 := pcn_le S; have q2 := pcn_le A
          rw [oN_some, jm_f (by omega), m_bitsOf (by omega), bq, m_bitsOf (by omega), bq]
          by_cases hlt : pcn S < pcn A
          · rw [jlt_t hlt (by omega)]
            have := go m hm (fun A' hA' => by rw [hbb] at hA'; injection hA' with hA'; rw [← hA']; exact hlt)
            rw [hbb] at this
            exact this
          · rw [jlt_f (by omega) (by omega)]
            refine ih (S + 1) (some A) m (by omega) (by omega) hm ⟨by omega, hA.2.1, fun B hB hOB => ?_⟩
            by_cases e : B = S
            · subst e
              by_cases e2 : pcn A = pcn B
              · exact Or.inr ⟨e2, by omega⟩
              · exact Or.inl (by omega)
            · exact hA.2.2 B (by omega) hOB
      · rw [jeq_f hz (by omega) (by omega)]
        refine ih (S + 1) b m (by omega) (by omega) hm ?_
        have no : ¬ Oks (fre (sR s) (sX s) p) (okA (sR s) (sX s) p q) S := fun z => hz (hs.mpr z.1)
        cases b with
        | none =>
          intro B hB hOB
          by_cases e : B = S
          · subst e; exact no hOB
          · exact hb B (by omega) hOB
        | some A =>
          refine ⟨by have := hb.1; omega, hb.2.1, fun B hB hOB => ?_⟩
          by_cases e : B = S
          · subst e; exact absurd hOB no
          · exact hb.2.2 B (by omega) hOB
theorem St_fib_ok : St_fib Rel := by
  intro k N mx mm hk ⟨s, e, ib, hw, hc, hm⟩ a b c
  have g := hw.gx
  have hT := g.T; have hP := g.P
  have h := hc.2.1
  have hm0 := hm.th
  have hi := hm0.2.1
  have fin : Rel (k + 1) N mx (si mm 0 0 (nI 0)) := Rel.rd hk hw hc hm FX.rf FM.th
  rw [X11_fib, X12_fib, kn1, K0, lq]
  by_cases ha : tw (rP (sR s)) a b
  · obtain ⟨p, q, hp, hq, hn, rfl, rfl⟩ := ha
    rw [c_areTwo_t g h hp hq hn, bq, m_areTwo_t g hi hp hq hn, bq, jeq_f (by omega) (by omega) (by omega), jeq_f (by omega) (by omega) (by omega)]
    by_cases hz : prs 2 c
    · obtain ⟨o, ho, rfl⟩ := hz
      rw [c_isEither_t ho, bq, wk_t l64_1 (by omega) (by omega), bq, jeq_f (by omega) (by omega) (by omega), jeq_f (by omega) (by omega) (by omega)]
      obtain ⟨mm2, b3, b4, b5⟩ := m_keepsAhead hT hP hi
      have hms : MS s mm2 := ⟨hm0.fm (z13 b5), b4⟩
      have h14 : (2 : Nat) ^ rT (sR s) ≤ 2 ^ 14 := Nat.pow_le_pow_right (by decide) hT
      obtain ⟨mm3, b2, c1, c2, c3⟩ := m_fib_out hw (c := o) ho hp hq FU 0 none mm2 (Nat.zero_le _) (by unfold FU; omega) hms (fun B hB => by omega)
      rw [oN_none] at c3
      rw [m_listOf g hi hp, bq, b3, bq, c3]
      obtain ⟨mx2, f2, r2⟩ := c_fewest g h hp hq hn
      have hc2 : CI s e ib N mx2 := hc.fx (f2.fx (fun c q => by unfold sfb at q; unfold scx; omega))
      have hsub : ∀ B, Oks (fre (sR s) (sX s) p) (okA (sR s) (sX s) p q) B → B < 2 ^ rT (sR s) := fun B hB => sub_ltT fre_lt hB.1
      refine ⟨fans o b2, mx2, mm3, ?_, rfl, s, e, ib, hw.mono (by omega) (by omega), hc2, c1.1⟩
      rcases r2 with ⟨r3, r4⟩ | ⟨A, r3, r4, r5⟩
      · have : b2 = none := by
          cases b2 with
          | none => rfl
          | some A => exact absurd c2.2.1 (r4 A)
        rw [this, r3, bq, jm_t]
        rfl
      · have : b2 = some A := by
          cases b2 with
          | none => exact absurd r3.1 (c2 A (hsub A r3.1))
          | some A' =>
            have : Bst (fre (sR s) (sX s) p) (okA (sR s) (sX s) p q) A' := ⟨c2.2.1, fun B hB => c2.2.2 B (hsub B hB) hB⟩
            rw [this.uq r3]
        have hA := hsub A r3.1
        have hpc := pcn_le A
        rw [this, r4, bq, jm_f (by omega), r5, fans]
        by_cases h0 : o = 0
        · rw [if_pos (by rw [h0]), if_neg (by omega)]
        · rw [jeq_f h0 (by omega) (by omega), if_pos (show o = 1 by omega)]
    · rw [c_isEither_f hz, bq, wk_f l64_1 hz (by omega), bq, jeq_t rfl, jeq_t rfl]
      exact ⟨_, _, _, rfl, rfl, fin⟩
  · rw [c_areTwo_f g h ha, bq, m_areTwo_f g hi ha, bq, jeq_t rfl, jeq_t rfl]
    exact ⟨_, _, _, rfl, rfl, fin⟩
