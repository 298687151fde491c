/-! struck, and by years -/
theorem z13 {m m2 : Mem} (h : Fr (fun c => c = 13) m m2) : FM m m2 := h.fm (fun c q => by unfold scm; omega)
/-- ahead: back to what was -/
theorem back {s : Sg} {k : Nat} {m m1 m2 : Mem} {y : Lf} {S : Nat → Prop} (hw : WS s k) (hm : MI s m) (h13 : ML (sR s) (sX s) m1 13 0) (f1 : Fr (fun c => c = 13) m m1) (hy : IM (sR s) y m2) (f2 : FL S m1 m2) (hS : ∀ c, S c → c = 5 ∨ c = 6 ∨ c = 8) : ∃ m3, X12_isAhead m2 = some ((), m3) ∧ MI s m3 := by
  have g := hw.gx
  have hT := g.T; have hP := g.P
  obtain ⟨m3, e1, e2, e3⟩ := m_isAhead hT hP hy (h13.fr (fun j => (f2.1 13 (fun q => by have := hS 13 q; omega) (by omega) j).1))
  refine ⟨m3, e1, ?_⟩
  have h1 : FMH m m3 := ((z13 f1).mh.tr (f2.mh (fun c q => by have := hS c q; unfold scm; omega))).tr (e3.mh (fun c q => q.elim))
  have h2 : Mh (sR s) (sH s) m3 := ((Mh.fl (S := fun c => c = 13) hT hP hm.2.2.1 (f1.fl (by decide))).fl hT hP f2).fl hT hP e3
  exact hm.lh (fun i y hi hy => (hw.2.2.2.2.2.2.2.1 i y hi hy).1) h1 e2 h2
theorem fl56 {m m2 : Mem} (h : Fr s56 m m2) : FL (fun c => c = 5 ∨ c = 6 ∨ c = 8) m m2 := (h.fl (by unfold s56; omega)).mono (fun c q => by unfold s56 at q; omega)
theorem fl8 {m m2 : Mem} (h : FL s8 m m2) : FL (fun c => c = 5 ∨ c = 6 ∨ c = 8) m m2 := h.mono (fun c q => by unfold s8 at q; omega)
def str (x : Lf) (p q t : Nat) : Lf := st (st x p t none) q t none
theorem str_ly {r : Ru} {x : Lf} {p q t : Nat} (hp : p < rP r) (hq : q < rP r) (hT : rT r ≤ 14) (hn : p ≠ q) : LY r x (str x p q t) p q := ⟨rfl, rfl, rfl, fun u hu hb => by
  rw [Nat.testBit_and, ls, ls, bs_bit, bs_bit] at hb
  simp only [hu, decide_true, Bool.true_and, Bool.and_eq_true] at hb
  have ht : u ≠ t := fun e => by
    rw [str, has_st, if_neg (fun q => hn q.1), has_st, if_pos ⟨rfl, e⟩] at hb
    exact Bool.noConfusion hb.1
  have e1 : ∀ i, has (str x p q t) i u = has x i u := fun i => by rw [str, has_st, if_neg (fun q => ht q.2), has_st, if_neg (fun q => ht q.2)]
  rw [e1, e1] at hb
  rw [or_self hp hq hb.1 hb.2]
  exact (wh_eq (fun i _ => (e1 i))).symm⟩
theorem St_strikes_ok : St_strikes Rel := by
  intro k N mx mm hk ⟨s, e, ib, hw, hc, hm⟩ a b c
  have g := hw.gx
  have hT := g.T; have hP := g.P
  have h := hc.2.1
  have hm0 := hm.th
  have hi := hm0.2.1
  have fin : Rel (k + 1) N mx (si mm 0 0 (nI 0)) := Rel.rd hk hw hc hm FX.rf FM.th
  rw [X11_strikes, X12_strikes, K0, lq]
  by_cases ha : tw (rP (sR s)) a b
  · obtain ⟨p, q, hp, hq, hn, rfl, rfl⟩ := ha
    rw [c_areTwo_t g h hp hq hn, bq, m_areTwo_t g hi hp hq hn, bq, jeq_f (by omega) (by omega) (by omega), jeq_f (by omega) (by omega) (by omega)]
    by_cases hz : prs (rT (sR s)) c
    · obtain ⟨t, ht, rfl⟩ := hz
      rw [c_isThing_t g h ht, bq, m_isThing_t g hi ht, bq, jeq_f (by omega) (by omega) (by omega), jeq_f (by omega) (by omega) (by omega)]
      have c1 : gi mx 29 p = _ := h.list hp
      have c2 : gi mx 29 q = _ := h.list hq
      have gy : GX (sR s) (str (sX s) p q t) := g.mk ((g.2.xt _ _ _ (fun v hv => by cases hv)).xt _ _ _ (fun v hv => by cases hv)) (Nat.le_refl _)
      have l1 : ls (sR s) (str (sX s) p q t) p = nd (ls (sR s) (sX s) p) (2 ^ t) := by rw [str, ls_sto hn, ls_st0 hT]
      have l2 : ls (sR s) (str (sX s) p q t) q = nd (ls (sR s) (sX s) q) (2 ^ t) := by rw [str, ls_st0 hT, ls_sto (Ne.symm hn)]
      obtain ⟨mx2, a1, a2⟩ := c_goodWith (by decide) g gy h hp hq (str_ly (t := t) hp hq hT hn)
      rw [l1, l2] at a1
      obtain ⟨mx3, a3, a4⟩ := c_goodness (by decide) g (h.f24 (by decide) a2) hp hq
      obtain ⟨mm1, b1, b2⟩ := m_goodOf g hi hp hq
      have hm1 := hm0.f56 b2
      obtain ⟨mm2, b3, b4, b5⟩ := m_keepsAhead hT hP hm1.2.1
      have i2 := hm1.2.1.fr (fun j => (b5 1 (by decide) j).1)
      have i3 := (i2.wst hT hP hp ht none).wst hT hP hq ht none
      obtain ⟨mm3, b6, b7⟩ := m_goodOf (x := str (sX s) p q t) gy i3 hp hq
      obtain ⟨mm4, b8, b9⟩ := back hw hm1 b4 b5 (i3.f56 b7) (((FL.s1 (S := fun c => c = 5 ∨ c = 6 ∨ c = 8) (by omega) (by omega)).tr (FL.s1 (by omega) (by omega))).tr (fl56 b7)) (fun c q => q)
      rw [oN_none] at b6
      simp (disch := omega) only [↓kn1, K1, nshl, lq, chk_in, ix_nI, c1, c2, nandn, a1, a3, bq, b1, b3, K41, K14, nmul, nadd, b6, b8]
      exact ⟨_, _, _, rfl, rfl, s, e, ib, hw.mono (by omega) (by omega), (hc.f24 a2).f24 a4, b9⟩
    · rw [c_isThing_f g h hz, bq, m_isThing_f g hi hz, bq, jeq_t rfl, jeq_t rfl]
      exact ⟨_, _, _, rfl, rfl, fin⟩
  · rw [c_areTwo_f g h ha, bq, m_areTwo_f g hi ha, bq, jeq_t rfl, jeq_t rfl]
    exact ⟨_, _, _, rfl, rfl, fin⟩
/-- alike as far as two people's good goes -/
def E2 (r : Ru) (p q : Nat) (x y : Lf) : Prop := (∀ i t, i < rP r → t < rT r → lsn x i t = lsn y i t) ∧ lag x p = lag y p ∧ lag x q = lag y q ∧ lyr x = lyr y
theorem E2.els {r : Ru} {p q : Nat} {x y : Lf} (h : E2 r p q x y) {i : Nat} (hi : i < rP r) : ls r x i = ls r y i := ls_eq (fun t ht => by rw [has, has, h.1 i t hi ht])
theorem E2.ewh {r : Ru} {p q : Nat} {x y : Lf} (h : E2 r p q x y) {t : Nat} (ht : t < rT r) : wh r x t = wh r y t := wh_eq (fun i hi => by rw [has, has, h.1 i t hi ht])
theorem E2.eww {r : Ru} {p q : Nat} {x y : Lf} (h : E2 r p q x y) (hp : p < rP r) (hq : q < rP r) : ww r x p q = ww r y p q := by
  funext k
  have e : ras r x (ls r y p &&& ls r y q) (rT r) = ras r y (ls r y p &&& ls r y q) (rT r) := su_cong (fun t ht => by rw [ra, ra, h.ewh ht])
  unfold ww
  rw [h.els hp, h.els hq, h.2.1, h.2.2.1, h.2.2.2, e]
theorem E2.egd {r : Ru} {p q : Nat} {x y : Lf} (h : E2 r p q x y) (hp : p < rP r) (hq : q < rP r) : gd r x p q = gd r y p q := by rw [gd, gd, h.eww hp hq]
theorem gwo_c {r : Ru} {t : Nat} {a b : Option Nat} (h : a = b) : gwo r t a = gwo r t b := by rw [h]
theorem E2.yr {r : Ru} {p q : Nat} {x y : Lf} (h : E2 r p q x y) (hp : p < rP r) (hq : q < rP r) : E2 r p q (yr2 r (pq2 p q) p q x) (yr2 r al p q y) := by
  have hg : ∀ i t, i < rP r → t < rT r → lsn (grw r (pq2 p q) (pq2 p q) x) i t = lsn (grw r al (pq2 p q) y) i t := fun i t hi ht => by
    rw [lsn_grw, lsn_grw, h.1 i t hi ht]
  have hl : ∀ i, i < rP r → ls r (grw r (pq2 p q) (pq2 p q) x) i = ls r (grw r al (pq2 p q) y) i := fun i hi => ls_eq (fun t ht => by rw [has, has, hg i t hi ht])
  refine ⟨fun i t hi ht => ?_, ?_, ?_, ?_⟩
  · show lsn (exD r al (tp p q) (grw r (pq2 p q) (pq2 p q) x)) i t = lsn (exD r al (tp p q) (grw r al (pq2 p q) y)) i t
    rw [lsn_exD, lsn_exD, hg i t hi ht]
    have e : exf r (tp p q) (grw r (pq2 p q) (pq2 p q) x) i = exf r (tp p q) (grw r al (pq2 p q) y) i := by
      rw [exf, exf]
      cases hm : tp p q i with
      | none => rfl
      | some u =>
        have hu : u < rP r := by
          rw [tp] at hm
          split at hm
          · injection hm with hm; omega
          · split at hm
            · injection hm with hm; omega
            · cases hm
        exact wis_cong (hl i hi) (hl u hu)
    rw [e]
  · show (if pq2 p q p = true then lag x p + 1 else lag x p) = (if al p = true then lag y p + 1 else lag y p)
    rw [h.2.1]
    simp [pq2, al]
  · show (if pq2 p q q = true then lag x q + 1 else lag x q) = (if al q = true then lag y q + 1 else lag y q)
    rw [h.2.2.1]
    simp [pq2, al]
  · show lyr x + 1 = lyr y + 1
    rw [h.2.2.2]
def itr (f : Lf → Lf) (x : Lf) : Nat → Lf
  | 0 => x
  | n + 1 => f (itr f x n)
theorem WL.i2 {r : Ru} {x : Lf} {B : Nat} {A : Nat → Bool} {p q : Nat} (h : WL r x B) : ∀ n, WL r (itr (yr2 r A p q) x n) (B + n)
  | 0 => h
  | n + 1 => (WL.i2 h n).x2 A p q
theorem E2.it {r : Ru} {p q : Nat} {x : Lf} (hp : p < rP r) (hq : q < rP r) : ∀ n, E2 r p q (itr (yr2 r (pq2 p q) p q) x n) (itr (yr2 r al p q) x n)
  | 0 => ⟨fun _ _ _ _ => rfl, rfl, rfl, rfl⟩
  | n + 1 => (E2.it hp hq n).yr hp hq
theorem fxS {m m2 : Mem} (h : Fr (s16 32) m m2) : FX m m2 := fxA (h.mono (fun _ q => Or.inl q))
theorem c_goodIn_loop {r : Ru} {x : Lf} {p q B e : Nat} (hr : WR r) (hB : WL r x B) (hb : B + 100 ≤ 900000) (he : e ≤ 60) (hp : p < rP r) (hq : q < rP r) (hn : p ≠ q) : ∀ n k m, k ≤ e → e - k < n → IC r (itr (yr2 r (pq2 p q) p q) x k) m 32 → ∃ m2, X11_goodIn_b45 n (nI p) (nI q) (nI e) (nI k) m = some (gd r (itr (yr2 r (pq2 p q) p q) x e) p q, m2) ∧ FX m m2 := by
  intro n
  induction n with
  | zero => intro k m _ h; omega
  | succ n ih =>
    intro k m hk hn2 h
    have g : GX r (itr (yr2 r (pq2 p q) p q) x k) := ⟨hr, (hB.i2 k).mono (by omega)⟩
    rw [X11_goodIn_b45, K1]
    rcases Nat.eq_or_lt_of_le hk with he | hl
    · subst he
      obtain ⟨m1, e1, f1⟩ := c_goodness (a := 32) (by decide) g h hp hq
      rw [jle_t (by omega) (by omega), e1, bq]
      exact ⟨m1, rfl, fx24 f1⟩
    · obtain ⟨m1, e1, e2, e3⟩ := c_yr2 (a := 32) (by decide) g (hB.i2 k) (by omega) hp hq hn h
      obtain ⟨m2, f1, f2⟩ := ih (k + 1) m1 (by omega) (by omega) e2
      rw [jle_f hl (by omega), e1, bq, nadd]
      exact ⟨m2, f1, (fxS e3).tr f2⟩
theorem m_goodIn_loop {r : Ru} {x : Lf} {p q B e : Nat} (hr : WR r) (hB : WL r x B) (hb : B + 100 ≤ 900000) (he : e ≤ 60) (hp : p < rP r) (hq : q < rP r) (hn : p ≠ q) : ∀ n k m, k ≤ e → e - k < n → IM r (itr (yr2 r al p q) x k) m → ∃ m2, X12_goodIn_b38 n (nI p) (nI q) (nI e) (nI k) m = (bnd (X12_isAhead m2) fun _ m_11 => some (gd r (itr (yr2 r al p q) x e) p q, m_11)) ∧ IM r (itr (yr2 r al p q) x e) m2 ∧ FL (fun c => c = 5 ∨ c = 6 ∨ c = 8) m m2 := by
  intro n
  induction n with
  | zero => intro k m _ h; omega
  | succ n ih =>
    intro k m hk hn2 h
    have g : GX r (itr (yr2 r al p q) x k) := ⟨hr, (hB.i2 k).mono (by omega)⟩
    rw [X12_goodIn_b38, K1]
    rcases Nat.eq_or_lt_of_le hk with he | hl
    · subst he
      obtain ⟨m1, e1, f1⟩ := m_goodOf g h hp hq
      rw [jle_t (by omega) (by omega), e1, bq]
      exact ⟨m1, rfl, h.f56 f1, fl56 f1⟩
    · obtain ⟨m1, w, e1, e2, e3⟩ := m_yr2 g (hB.i2 k) (by omega) hp hq hn h
      obtain ⟨m2, f1, f2, f3⟩ := ih (k + 1) m1 (by omega) (by omega) e2
      rw [jle_f hl (by omega), e1, bq, nadd]
      exact ⟨m2, f1, f2, (fl8 e3).tr f3⟩
theorem c_trial {s : Sg} {e : Nat} {ib : Nat → Nat} {N k : Nat} {m : Mem} (hw : WS s k) (hc : CI s e ib N m) : ∃ m2, X5_become 33 26 m = some ((), m2) ∧ IC (sR s) (sX s) m2 32 ∧ FX m m2 := by
  have g := hw.gx
  have h := hc.2.1
  obtain ⟨m2, b1, b2, b3⟩ := c_become (a := 33) (b := 26) g.T g.P (by omega) h.2
  exact ⟨m2, b1, ⟨h.1.fr (fun c q1 q2 j => (b3 c (by unfold s05; omega) j).1), b2⟩, fx33 b3⟩
theorem St_goodIn_ok : St_goodIn Rel := by
  intro k N mx mm hk ⟨s, e, ib, hw, hc, hm⟩ a b c
  have g := hw.gx
  have hT := g.T; have hP := g.P
  have h := hc.2.1
  have hm0 := hm.th
  have hi := hm0.2.1
  have fin : Rel (k + 1) N mx (si mm 0 0 (nI 0)) := Rel.rd hk hw hc hm FX.rf FM.th
  rw [X11_goodIn, X12_goodIn, K0, lq, K60]
  by_cases ha : tw (rP (sR s)) a b
  · obtain ⟨p, q, hp, hq, hn, rfl, rfl⟩ := ha
    rw [c_areTwo_t g h hp hq hn, bq, m_areTwo_t g hi hp hq hn, bq, jeq_f (by omega) (by omega) (by omega), jeq_f (by omega) (by omega) (by omega)]
    by_cases hz : rg 0 60 c
    · obtain ⟨n, _, n2, rfl⟩ := hz
      have hB := hw.2.2.2.2.1
      obtain ⟨mx1, a1, a2, a3⟩ := c_trial hw hc
      obtain ⟨mx2, a4, a5⟩ := c_goodIn_loop hw.2.2.2.1 hB (by unfold bd; omega) n2 hp hq hn FU 0 mx1 (by omega) (by unfold FU; omega) a2
      obtain ⟨mm1, b1, b2, b3⟩ := m_keepsAhead hT hP hi
      obtain ⟨mm2, b4, b5, b6⟩ := m_goodIn_loop hw.2.2.2.1 hB (by unfold bd; omega) n2 hp hq hn FU 0 mm1 (by omega) (by unfold FU; omega) (hi.fr (fun j => (b3 1 (by decide) j).1))
      obtain ⟨mm3, b7, b8⟩ := back hw hm0 b2 b3 b5 b6 (fun c q => q)
      rw [jlt_f (by omega) (by omega), jle_t n2 (by omega), wk_t l64_60 n2 (by omega), bq, jeq_f (by omega) (by omega) (by omega), a1, bq, a4, b1, bq, b4, b7, bq, (E2.it hp hq n).egd hp hq]
      exact ⟨_, _, _, rfl, rfl, s, e, ib, hw.mono (by omega) (by omega), hc.fx (a3.tr a5), b8⟩
    · rw [out hz (by omega) (by omega), out_w (l := 0) l64_0 l64_60 hz (by omega) (by omega), bq, jeq_t rfl]
      exact ⟨_, _, _, rfl, rfl, fin⟩
  · rw [c_areTwo_f g h ha, bq, m_areTwo_f g hi ha, bq, jeq_t rfl, jeq_t rfl]
    exact ⟨_, _, _, rfl, rfl, fin⟩
/-! for how long -/
def lf (f : Nat → Bool) : Nat → Nat → Nat
  | 0, k => k
  | n + 1, k => if f k then lf f n (k + 1) else k
theorem lf_le (f : Nat → Bool) : ∀ n k, k ≤ lf f n k ∧ lf f n k ≤ k + n
  | 0, k => ⟨Nat.le_refl _, Nat.le_refl _⟩
  | n + 1, k => by
    have := lf_le f n (k + 1)
    rw [lf]
    split <;> omega
theorem lf_ge (f : Nat → Bool) : ∀ n k m, k ≤ m → m ≤ k + n → (m ≤ lf f n k ↔ ∀ j, k ≤ j → j < m → f j = true)
  | 0, k, m, h1, h2 => by
    rw [lf]
    exact ⟨fun _ j _ _ => by omega, fun _ => by omega⟩
  | n + 1, k, m, h1, h2 => by
    rw [lf]
    by_cases hf : f k = true
    · rw [if_pos hf]
      rcases Nat.eq_or_lt_of_le h1 with he | hl
      · have := lf_le f n (k + 1)
        exact ⟨fun _ j _ _ => by omega, fun _ => by omega⟩
      · rw [lf_ge f n (k + 1) m hl (by omega)]
        constructor
        · intro h j j1 j2
          by_cases hj : j = k
          · rw [hj]; exact hf
          · exact h j (by omega) j2
        · intro h j j1 j2
          exact h j (by omega) j2
    · rw [if_neg hf]
      constructor
      · intro h j _ _
        omega
      · intro h
        rcases Nat.eq_or_lt_of_le h1 with he | hl
        · omega
        · exact absurd (h k (Nat.le_refl _) hl) hf
/-- whether it is good enough in so many years -/
def ga (r : Ru) (x : Lf) (p q k : Nat) : Bool := decide (nI (rbar r) ≤ gd r (itr (yr2 r al p q) x k) p q)
def sE (c : Nat) : Prop := c = 23 ∨ c = 24 ∨ (32 ≤ c ∧ c ≤ 38)
theorem fE24 {m m2 : Mem} (h : Fr s24 m m2) : Fr sE m m2 := h.mono (fun c q => by unfold s24 at q; unfold sE; omega)
theorem fE16 {m m2 : Mem} (h : Fr (s16 32) m m2) : Fr sE m m2 := h.mono (fun c q => by unfold s16 at q; unfold sE; omega)
theorem fxE {m m2 : Mem} (h : Fr sE m m2) : FX m m2 := h.fx (fun c q => by unfold sE at q; unfold scx; omega)
theorem c_trialE {s : Sg} {e : Nat} {ib : Nat → Nat} {N k : Nat} {m : Mem} (hw : WS s k) (hc : CI s e ib N m) : ∃ m2, X5_become 33 26 m = some ((), m2) ∧ IC (sR s) (sX s) m2 32 ∧ Fr sE m m2 := by
  have g := hw.gx
  have h := hc.2.1
  obtain ⟨m2, b1, b2, b3⟩ := c_become (a := 33) (b := 26) g.T g.P (by omega) h.2
  exact ⟨m2, b1, ⟨h.1.fr (fun c q1 q2 j => (b3 c (by unfold s05; omega) j).1), b2⟩, b3.mono (fun c q => by unfold s05 at q; unfold sE; omega)⟩
theorem c_endure_loop {r : Ru} {x : Lf} {p q B e : Nat} (hr : WR r) (hB : WL r x B) (hb : B + 100 ≤ 900000) (he : e ≤ 40) (hp : p < rP r) (hq : q < rP r) (hn : p ≠ q) : ∀ n k m, k ≤ e → e - k < n → IC r (itr (yr2 r (pq2 p q) p q) x k) m 32 → ∃ m2, X11_endurance_b20 n (nI p) (nI q) (nI e) (nI k) m = some (nI (lf (ga r x p q) (e - k) k), m2) ∧ Fr sE m m2 := by
  intro n
  induction n with
  | zero => intro k m _ h; omega
  | succ n ih =>
    intro k m hk hn2 h
    have g : GX r (itr (yr2 r (pq2 p q) p q) x k) := ⟨hr, (hB.i2 k).mono (by omega)⟩
    rw [X11_endurance_b20, K1]
    rcases Nat.eq_or_lt_of_le hk with he | hl
    · subst he
      rw [jle_t (by omega) (by omega), Nat.sub_self, lf]
      exact ⟨m, rfl, Fr.rf⟩
    · obtain ⟨m1, e1, f1⟩ := c_goodness (a := 32) (by decide) g h hp hq
      have h1 := h.f24 (by decide) f1
      rw [(E2.it hp hq k).egd hp hq] at e1
      rw [jle_f hl (by omega), e1, bq, h1.bar, show e - k = (e - (k + 1)) + 1 by omega, lf]
      by_cases hg : nI (rbar r) ≤ gd r (itr (yr2 r al p q) x k) p q
      · obtain ⟨m2, e2, e3, e4⟩ := c_yr2 (a := 32) (by decide) g (hB.i2 k) (by omega) hp hq hn h1
        obtain ⟨m3, f2, f3⟩ := ih (k + 1) m2 (by omega) (by omega) e3
        rw [if_pos hg, e2, bq, nadd, ga, if_pos (decide_eq_true hg)]
        exact ⟨m3, f2, ((fE24 f1).tr (fE16 e4)).tr f3⟩
      · rw [if_neg hg, ga, if_neg (fun q => hg (of_decide_eq_true q))]
        exact ⟨m1, rfl, fE24 f1⟩
theorem c_endurance {s : Sg} {e0 : Nat} {ib : Nat → Nat} {N k : Nat} {m : Mem} {p q e : Nat} (hk : k ≤ 512) (hw : WS s k) (hc : CI s e0 ib N m) (he : e ≤ 40) (hp : p < rP (sR s)) (hq : q < rP (sR s)) (hn : p ≠ q) : ∃ m2, X11_endurance (nI p) (nI q) (nI e) m = some (nI (lf (ga (sR s) (sX s) p q) e 0), m2) ∧ Fr sE m m2 := by
  obtain ⟨m1, a1, a2, a3⟩ := c_trialE hw hc
  obtain ⟨m2, a4, a5⟩ := c_endure_loop hw.2.2.2.1 hw.2.2.2.2.1 (by unfold bd; omega) he hp hq hn FU 0 m1 (by omega) (by unfold FU; omega) a2
  rw [X11_endurance, a1, bq, K0, a4]
  exact ⟨m2, rfl, a3.tr a5⟩
theorem m_holds_loop {r : Ru} {x : Lf} {p q B : Nat} (hr : WR r) (hB : WL r x B) (hb : B + 100 ≤ 900000) (hp : p < rP r) (hq : q < rP r) (hn : p ≠ q) : ∀ n k m, k ≤ 40 → 40 - k < n → IM r (itr (yr2 r al p q) x k) m → ∃ y m2, X12_holdsFor_b6 n (nI p) (nI q) (nI k) m = (bnd (X12_isAhead m2) fun _ m_8 => some (nI (lf (ga r x p q) (40 - k) k), m_8)) ∧ IM r y m2 ∧ FL (fun c => c = 5 ∨ c = 6 ∨ c = 8) m m2 := by
  intro n
  induction n with
  | zero => intro k m _ h; omega
  | succ n ih =>
    intro k m hk hn2 h
    have g : GX r (itr (yr2 r al p q) x k) := ⟨hr, (hB.i2 k).mono (by omega)⟩
    rw [X12_holdsFor_b6, K1, K40, K3]
    rcases Nat.eq_or_lt_of_le hk with he | hl
    · subst he
      rw [jle_t (by omega) (by omega), Nat.sub_self, lf]
      exact ⟨_, m, rfl, h, FL.rf⟩
    · obtain ⟨m1, e1, f1⟩ := m_goodOf g h hp hq
      have h1 := h.f56 f1
      rw [jle_f hl (by omega), e1, bq, chk_in (by omega) (by omega), ix_nI (by omega), h1.bar, show 40 - k = (40 - (k + 1)) + 1 by omega, lf]
      by_cases hg : nI (rbar r) ≤ gd r (itr (yr2 r al p q) x k) p q
      · obtain ⟨m2, w, e2, e3, e4⟩ := m_yr2 g (hB.i2 k) (by omega) hp hq hn h1
        obtain ⟨y, m3, f2, f3, f4⟩ := ih (k + 1) m2 (by omega) (by omega) e3
        rw [if_neg (fun q => by rw [lt_iff] at q; rw [le_iff] at hg; omega), e2, bq, nadd, ga, if_pos (decide_eq_true hg)]
        exact ⟨y, m3, f2, f3, ((fl56 f1).tr (fl8 e4)).tr f4⟩
      · rw [if_pos (by rw [lt_iff]; rw [le_iff] at hg; omega), ga, if_neg (fun q => hg (of_decide_eq_true q))]
        exact ⟨_, m1, rfl, h1, fl56 f1⟩
theorem m_holdsFor {s : Sg} {k : Nat} {m : Mem} {p q : Nat} (hk : k ≤ 512) (hw : WS s k) (hm : MI s m) (hp : p < rP (sR s)) (hq : q < rP (sR s)) (hn : p ≠ q) : ∃ m2, X12_holdsFor (nI p) (nI q) m = some (nI (lf (ga (sR s) (sX s) p q) 40 0), m2) ∧ MI s m2 ∧ FL (fun c => c = 5 ∨ c = 6 ∨ c = 8 ∨ c = 13) m m2 := by
  have g := hw.gx
  have hT := g.T; have hP := g.P
  obtain ⟨mm1, b1, b2, b3⟩ := m_keepsAhead hT hP hm.2.1
  obtain ⟨y, mm2, b4, b5, b6⟩ := m_holds_loop hw.2.2.2.1 hw.2.2.2.2.1 (by unfold bd; omega) hp hq hn FU 0 mm1 (by omega) (by unfold FU; omega) (hm.2.1.fr (fun j => (b3 1 (by decide) j).1))
  obtain ⟨mm3, e1, e2, e3⟩ := m_isAhead hT hP b5 (b2.fr (fun j => (b6.1 13 (by omega) (by omega) j).1))
  refine ⟨mm3, ?_, ?_, (((b3.fl (by decide)).mono (fun c q => by omega)).tr (b6.mono (fun c q => by omega))).tr (e3.mono (fun c q => q.elim))⟩
  · rw [X12_holdsFor, b1, bq, K0, b4, e1, bq]
  · have h1 : FMH m mm3 := ((z13 b3).mh.tr (b6.mh (fun c q => by unfold scm; omega))).tr (e3.mh (fun c q => q.elim))
    have h2 : Mh (sR s) (sH s) mm3 := ((Mh.fl (S := fun c => c = 13) hT hP hm.2.2.1 (b3.fl (by decide))).fl hT hP b6).fl hT hP e3
    exact hm.lh (fun i y hi hy => (hw.2.2.2.2.2.2.2.1 i y hi hy).1) h1 e2 h2
theorem St_holds_ok : St_holds Rel := by
  intro k N mx mm hk ⟨s, e, ib, hw, hc, hm⟩ a b
  have g := hw.gx
  have hT := g.T; have hP := g.P
  have h := hc.2.1
  have hm0 := hm.th
  have hi := hm0.2.1
  have fin : Rel (k + 1) N mx (si mm 0 0 (nI 0)) := Rel.rd hk hw hc hm FX.rf FM.th
  rw [X11_holds, X12_holds, K0, lq, K40]
  by_cases ha : tw (rP (sR s)) a b
  · obtain ⟨p, q, hp, hq, hn, rfl, rfl⟩ := ha
    rw [c_areTwo_t g h hp hq hn, bq, m_areTwo_t g hi hp hq hn, bq, jeq_f (by omega) (by omega) (by omega), jeq_f (by omega) (by omega) (by omega)]
    obtain ⟨mx2, a1, a2⟩ := c_endurance (by omega) hw hc (show 40 ≤ 40 by omega) hp hq hn
    obtain ⟨mm2, b1, b2, b3⟩ := m_holdsFor (by omega) hw hm0 hp hq hn
    rw [a1, bq, b1, bq]
    exact ⟨_, _, _, rfl, rfl, s, e, ib, hw.mono (by omega) (by omega), hc.fx (fxE a2), b2⟩
  · rw [c_areTwo_f g h ha, bq, m_areTwo_f g hi ha, bq, jeq_t rfl, jeq_t rfl]
    exact ⟨_, _, _, rfl, rfl, fin⟩
