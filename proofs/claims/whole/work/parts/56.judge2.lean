/-! judge, perform -/
def FLz (m m2 : Mem) : Prop := (∀ c, c ≠ 0 → c ≠ 1 → c ≠ 5 → c ≠ 6 → c ≠ 8 → ∀ j, gi m2 c j = gi m c j ∧ gl m2 c j = gl m c j) ∧ (∀ j, (j < 33 ∨ 162 ≤ j) → gi m2 1 j = gi m 1 j) ∧ ∀ j, j ≠ 19 → j ≠ 20 → gi m2 0 j = gi m 0 j
theorem FLz.rf {m : Mem} : FLz m m := ⟨fun _ _ _ _ _ _ _ => ⟨rfl, rfl⟩, fun _ _ => rfl, fun _ _ _ => rfl⟩
theorem FLz.tr {m m1 m2 : Mem} (h1 : FLz m m1) (h2 : FLz m1 m2) : FLz m m2 :=
  ⟨fun c a b d e f j => ⟨((h2.1 c a b d e f j).1).trans (h1.1 c a b d e f j).1, ((h2.1 c a b d e f j).2).trans (h1.1 c a b d e f j).2⟩, fun j hj => (h2.2.1 j hj).trans (h1.2.1 j hj), fun j a b => (h2.2.2 j a b).trans (h1.2.2 j a b)⟩
theorem FL.z {m m2 : Mem} (h : FL s8 m m2) : FLz m m2 := ⟨fun c _ b _ _ f j => h.1 c (by unfold s8; omega) b j, h.2, fun j _ _ => (h.1 0 (by unfold s8; omega) (by omega) j).1⟩
theorem z56 {m m2 : Mem} (h : Fr s56 m m2) : FLz m m2 := ⟨fun c _ _ d e _ j => h c (by unfold s56; omega) j, fun j _ => (h 1 (by unfold s56; omega) j).1, fun j _ _ => (h 0 (by unfold s56; omega) j).1⟩
theorem z0 {m : Mem} {i : Nat} {v : Int32} (h : i = 19 ∨ i = 20) : FLz m (si m 0 i v) := ⟨fun c a _ _ _ _ j => ⟨gsn a, rfl⟩, fun j _ => gsn (by omega), fun j a b => gsi (by omega)⟩
theorem FLz.mh {m m2 : Mem} (h : FLz m m2) : FMH m m2 := ⟨fun c a b d j => h.1 c b d (fun e => a (by unfold scm; omega)) (fun e => a (by unfold scm; omega)) (fun e => a (by unfold scm; omega)) j, fun j hj => h.2.1 j (by omega), h.2.2 5 (by omega) (by omega), h.2.2 13 (by omega) (by omega), h.2.2 14 (by omega) (by omega)⟩
theorem Mh.flz {r : Ru} {h : List Lf} {m m2 : Mem} (hT : rT r ≤ 14) (hP : rP r ≤ 8) (hh : Mh r h m) (hf : FLz m m2) : Mh r h m2 := ⟨(hf.2.1 162 (by omega)).trans hh.1, fun i hi => (hh.2 i hi).tr hT hP (fun j hj => hf.2.1 _ (by omega))⟩
theorem ML.flz {r : Ru} {x : Lf} {m m2 : Mem} {c o : Nat} (h : ML r x m c o) (hf : FLz m m2) (h0 : c ≠ 0) (h1 : c ≠ 1) (h5 : c ≠ 5) (h6 : c ≠ 6) (h8 : c ≠ 8) : ML r x m2 c o := h.fr (fun j => (hf.1 c h0 h1 h5 h6 h8 j).1)
theorem fxA {m m2 : Mem} (h : Fr (sA 32) m m2) : FX m m2 := h.fx (fun c q => by
  unfold sA s16 s24 at q
  unfold scx
  omega)
theorem fx32 {m : Mem} {j : Nat} {v : Int32} : FX m (si m 32 j v) := Fr.fx (S := fun c => c = 32) (Fr.si rfl) (fun c q => by unfold scx; omega)
theorem ic_s32 {r : Ru} {x : Lf} {m : Mem} (h : IC r x m 32) (j : Nat) (v : Int32) : IC r x (si m 32 j v) 32 := h.si (by omega) (by omega) j v
def IC.s32 := @ic_s32
theorem tells_loop {r : Ru} {f : Nat → Int64} {i e B : Nat} (hr : WR r) (hi : i < 4) (he : e ≤ 40) (hb : B + 100 ≤ 900000) : ∀ n k x mx mm, k ≤ e → e - k < n → WL r x (B + k) → IC r x mx 32 → IM r x mm → gi mx (100 + 2 * i) 1 = nI e → (∀ j, j < e → gl mx (101 + 2 * i) j = f j) → gi mm 15 i = nI e → (∀ j, j < e → gl mm 16 (40 * i + j) = f j) → gi mx 32 3 = nI 0 → gi mm 0 19 = nI 0 → ∃ y d w mx2 mm2, X11_rehearse_b27 (100 + 2 * i) n (nI k) mx = some (nI d, mx2) ∧ X12_tells_b7 n (nI i) (nI k) mm = some (nI d, mm2) ∧ d ≤ 40 ∧ w < 5 ∧ gi mx2 32 3 = nI w ∧ gi mm2 0 19 = nI w ∧ WL r y (B + 40) ∧ IC r y mx2 32 ∧ IM r y mm2 ∧ FX mx mx2 ∧ FLz mm mm2 ∧ k ≤ d ∧ (d = k → y = x) := by
  intro n
  induction n with
  | zero => intro k x mx mm _ h; omega
  | succ n ih =>
    intro k x mx mm hk hn hwl hc hm x1 x2 y1 y2 z1 z2
    have g : GX r x := ⟨hr, hwl.mono (by omega)⟩
    rw [X11_rehearse_b27, X12_tells_b7, x1, K0]
    simp (disch := omega) only [chk_in, ix_nI, y1]
    rcases Nat.eq_or_lt_of_le hk with hE | hl
    · subst hE
      rw [jle_t (by omega) (by omega), jle_t (by omega) (by omega)]
      exact ⟨x, k, 0, mx, mm, rfl, rfl, he, by omega, z1, z2, hwl.mono (by omega), hc, hm, FX.rf, FLz.rf, Nat.le_refl _, fun _ => rfl⟩
    · have xk : gl mx (100 + 2 * i + 1) k = f k := by rw [show 100 + 2 * i + 1 = 101 + 2 * i by omega]; exact x2 k hl
      have yk := y2 k hl
      obtain ⟨mx1, a1, a2, a3⟩ := c_attempt (v := f k) (a := 32) (by decide) g hwl (by omega) hc
      obtain ⟨mm1, b1, b2⟩ := m_whyNot g hm (f k)
      have hw5 := wV_lt r x (f k)
      rw [jle_f hl (by omega), jle_f hl (by omega), K40, K1, nadd]
      simp (disch := omega) only [chk_in, ix_nI, nmul, nadd, xk, yk, a1, b1, bq, lq, gss]
      have fm1 : FLz mm (si mm1 0 19 (nI (wV r x (f k)))) := (z56 b2).tr (z0 (Or.inl rfl))
      have fx1 : FX mx (si mx1 32 3 (nI (wV r x (f k)))) := (fxA a3).tr fx32
      by_cases h0 : wV r x (f k) = 0
      · rw [if_pos h0] at a2
        have hm1 : IM r x (si mm1 0 19 (nI (wV r x (f k)))) := (hm.f56 b2).si (by decide) _ _
        obtain ⟨mm2, c1, c2, c3⟩ := m_does g hwl (by omega) hm1 h0
        have yk1 : gl (si mm1 0 19 (nI (wV r x (f k)))) 16 (40 * i + k) = f k := by rw [(fm1.1 16 (by omega) (by omega) (by omega) (by omega) (by omega) _).2]; exact yk
        have fm2 := fm1.tr c3.z
        have q : ∀ c, 39 < c → ∀ j, gi (si mx1 32 3 (nI (wV r x (f k)))) c j = gi mx c j ∧ gl (si mx1 32 3 (nI (wV r x (f k)))) c j = gl mx c j := fun c hc j => by
          have h1 : (si mx1 32 3 (nI (wV r x (f k)))).1 c j = mx1.1 c j := gsn (by omega)
          exact ⟨(gsn (by omega)).trans (a3 c (by unfold sA s16 s24; omega) j).1, (a3 c (by unfold sA s16 s24; omega) j).2⟩
        obtain ⟨y, d, w, mx3, mm3, i1, i2, i3, i4, i5, i6, i7, i8, i9, i10, i11, i12, i13⟩ := ih (k + 1) (eV r x (f k)) (si mx1 32 3 (nI (wV r x (f k)))) mm2 (by omega) (by omega) (hwl.xv h0) (a2.s32 _ _) c2 ((q _ (by omega) _).1.trans x1) (fun j hj => (q _ (by omega) _).2.trans (x2 j hj)) ((fm2.1 15 (by omega) (by omega) (by omega) (by omega) (by omega) _).1.trans y1) (fun j hj => (fm2.1 16 (by omega) (by omega) (by omega) (by omega) (by omega) _).2.trans (y2 j hj)) (by rw [gss, h0]) (by rw [(c3.1 0 (by unfold s8; omega) (by omega) _).1, gss, h0])
        refine ⟨y, d, w, mx3, mm3, ?_, ?_, i3, i4, i5, i6, i7, i8, i9, fx1.tr i10, fm2.tr i11, by omega, fun hd => by omega⟩
        · rw [jeq_t h0]; exact i1
        · simp (disch := omega) only [jeq_t, yk1, c1, bq]
          exact i2
      · rw [if_neg h0] at a2
        refine ⟨x, k, wV r x (f k), _, _, ?_, ?_, by omega, hw5, gss, gss, hwl.mono (by omega), a2.s32 _ _, (hm.f56 b2).si (by decide) _ _, fx1, fm1, Nat.le_refl _, fun _ => rfl⟩
        · rw [jeq_f h0 (by omega) (by omega)]
        · rw [jeq_f h0 (by omega) (by omega)]

/-! how good all pairs are together -/
def sug (f : Nat → Int32) : Nat → Int32
  | 0 => nI 0
  | n + 1 => sug f n + f n
def wg (r : Ru) (x : Lf) (p : Nat) : Int32 := match lmt x p with
  | none => nI 0
  | some q => if p < q then gd r x p q else nI 0
theorem add_n0 (a : Int32) : a + nI 0 = a := by rw [← K0]; simp
theorem c_gc_loop {r : Ru} {x : Lf} {a : Nat} (ha : 25 ≤ a) (g : GX r x) : ∀ n k m, k ≤ rP r → rP r - k < n → IC r x m a → ∃ m2, X10_goodOfCouples_b4 a n (sug (wg r x) k) (nI k) m = some (sug (wg r x) (rP r), m2) ∧ Fr s24 m m2 := by
  have hP := g.P
  intro n
  induction n with
  | zero => intro k m _ h; omega
  | succ n ih =>
    intro k m hk hn h
    rw [X10_goodOfCouples_b4]
    rcases Nat.eq_or_lt_of_le hk with he | hl
    · subst he
      simp (disch := omega) only [nadn, gsn, gss, gsi, if_true, if_false, chk_in, chk_tt, bq, lq, ix_nI, jle_t, jle_f, jlt_t, jlt_f, jeq_t, jeq_f, nadd, nmul, nsub, nshl, nshl2, nor, nand, nandn, ↓kn1, K0, K1, K2, K3, K4, K5, K6, K7, K8, K9, K10, K11, K12, K13, K14, K20, K24, K25, K32, K33, K40, K41, K60, K63, K64, K100, K112, K120, K128, K129, K153, K161, K162, K163, K255, K256, K900, K903, K999, K1000, K1195, K1196, K2000, K2096, K3000, K3001, K3002, K3003, K3004, K3005, K3006, K3007, K3008, h.P]
      exact ⟨m, rfl, Fr.rf⟩
    · have e := h.mate hl
      simp (disch := omega) only [nadn, gsn, gss, gsi, if_true, if_false, chk_in, chk_tt, bq, lq, ix_nI, jle_t, jle_f, jlt_t, jlt_f, jeq_t, jeq_f, nadd, nmul, nsub, nshl, nshl2, nor, nand, nandn, ↓kn1, K0, K1, K2, K3, K4, K5, K6, K7, K8, K9, K10, K11, K12, K13, K14, K20, K24, K25, K32, K33, K40, K41, K60, K63, K64, K100, K112, K120, K128, K129, K153, K161, K162, K163, K255, K256, K900, K903, K999, K1000, K1195, K1196, K2000, K2096, K3000, K3001, K3002, K3003, K3004, K3005, K3006, K3007, K3008, h.P, e]
      have es : sug (wg r x) (k + 1) = sug (wg r x) k + wg r x k := rfl
      cases hm : lmt x k with
      | none =>
        have ih2 := ih (k + 1) m (by omega) (by omega) h
        rw [es, wg, hm, add_n0] at ih2
        rw [oN_none, jml_t (by omega)]
        exact ih2
      | some q =>
        have hq := g.mt hl hm
        by_cases hqk : q ≤ k
        · have ih2 := ih (k + 1) m (by omega) (by omega) h
          rw [es, wg, hm] at ih2
          simp only at ih2
          rw [if_neg (by omega), add_n0] at ih2
          rw [oN_some, jle_t hqk (by omega)]
          exact ih2
        · obtain ⟨m1, e1, f1⟩ := c_goodness ha g h hl hq.1
          obtain ⟨m2, i1, i2⟩ := ih (k + 1) m1 (by omega) (by omega) (h.f24 ha f1)
          rw [es, wg, hm] at i1
          simp only at i1
          rw [if_pos (by omega)] at i1
          rw [oN_some, jle_f (by omega) (by omega), e1, bq]
          exact ⟨m2, i1, f1.tr i2⟩
theorem m_gw_loop {r : Ru} {x : Lf} (g : GX r x) : ∀ n k m, k ≤ rP r → rP r - k < n → IM r x m → ∃ m2, X12_goodOfWed_b4 n (sug (wg r x) k) (nI k) m = some (sug (wg r x) (rP r), m2) ∧ Fr s56 m m2 := by
  have hP := g.P
  intro n
  induction n with
  | zero => intro k m _ h; omega
  | succ n ih =>
    intro k m hk hn h
    rw [X12_goodOfWed_b4]
    rcases Nat.eq_or_lt_of_le hk with he | hl
    · subst he
      simp (disch := omega) only [nadn, gsn, gss, gsi, if_true, if_false, chk_in, chk_tt, bq, lq, ix_nI, jle_t, jle_f, jlt_t, jlt_f, jeq_t, jeq_f, nadd, nmul, nsub, nshl, nshl2, nor, nand, nandn, ↓kn1, K0, K1, K2, K3, K4, K5, K6, K7, K8, K9, K10, K11, K12, K13, K14, K20, K24, K25, K32, K33, K40, K41, K60, K63, K64, K100, K112, K120, K128, K129, K153, K161, K162, K163, K255, K256, K900, K903, K999, K1000, K1195, K1196, K2000, K2096, K3000, K3001, K3002, K3003, K3004, K3005, K3006, K3007, K3008, h.P]
      exact ⟨m, rfl, Fr.rf⟩
    · have e := h.wed hl
      simp (disch := omega) only [nadn, gsn, gss, gsi, if_true, if_false, chk_in, chk_tt, bq, lq, ix_nI, jle_t, jle_f, jlt_t, jlt_f, jeq_t, jeq_f, nadd, nmul, nsub, nshl, nshl2, nor, nand, nandn, ↓kn1, K0, K1, K2, K3, K4, K5, K6, K7, K8, K9, K10, K11, K12, K13, K14, K20, K24, K25, K32, K33, K40, K41, K60, K63, K64, K100, K112, K120, K128, K129, K153, K161, K162, K163, K255, K256, K900, K903, K999, K1000, K1195, K1196, K2000, K2096, K3000, K3001, K3002, K3003, K3004, K3005, K3006, K3007, K3008, h.P, e, add_n0]
      have es : sug (wg r x) (k + 1) = sug (wg r x) k + wg r x k := rfl
      cases hm : lmt x k with
      | none =>
        have ih2 := ih (k + 1) m (by omega) (by omega) h
        rw [es, wg, hm, add_n0] at ih2
        rw [oN_none, jml_t (by omega)]
        exact ih2
      | some q =>
        have hq := g.mt hl hm
        by_cases hqk : q ≤ k
        · have ih2 := ih (k + 1) m (by omega) (by omega) h
          rw [es, wg, hm] at ih2
          simp only at ih2
          rw [if_neg (by omega), add_n0] at ih2
          rw [oN_some, jle_t hqk (by omega)]
          exact ih2
        · obtain ⟨m1, e1, f1⟩ := m_goodOf g h hl hq.1
          obtain ⟨m2, i1, i2⟩ := ih (k + 1) m1 (by omega) (by omega) (h.f56 f1)
          rw [es, wg, hm] at i1
          simp only at i1
          rw [if_pos (by omega)] at i1
          rw [oN_some, jle_f (by omega) (by omega), e1, bq]
          exact ⟨m2, i1, f1.tr i2⟩
theorem fx33 {m m2 : Mem} (h : Fr (s05 33) m m2) : FX m m2 := h.fx (fun c q => by
  unfold s05 at q
  unfold scx
  omega)
/-- rehearsing, telling, from the same state -/
theorem both_tell {s : Sg} {e : Nat} {ib : Nat → Nat} {N k : Nat} {mx mm : Mem} (hk : k < 512) (hw : WS s k) (hc : CI s e ib N mx) (hm : MI s mm) {i : Nat} (hi : i < 4) {t : Tr} (ht : sT s i = some t) : ∃ y d w mx2 mm1 mm2, X11_rehearse (100 + 2 * i) mx = some (nI d, mx2) ∧ X12_keeps mm = some ((), mm1) ∧ X12_tells (nI i) mm1 = some (nI d, mm2) ∧ d ≤ 40 ∧ w < 5 ∧ gi mx2 32 3 = nI w ∧ gi mm2 0 19 = nI w ∧ WL (sR s) y (bd (k + 1)) ∧ IC (sR s) y mx2 32 ∧ IM (sR s) y mm2 ∧ FX mx mx2 ∧ ML (sR s) (sX s) mm1 7 0 ∧ Fr (fun c => c = 7) mm mm1 ∧ FLz mm1 mm2 ∧ (d = 0 → y = sX s) := by
  have g := hw.gx
  have hT := g.T; have hP := g.P
  have h := hc.2.1
  obtain ⟨c0, c1, c2, c3⟩ := c_tray1 hc.2.2.2.2.1 hi ht
  obtain ⟨d0, d1, d2⟩ := m_tray1 hm.2.2.2.2.1 hi ht
  obtain ⟨t1, t2⟩ := hw.2.2.2.2.2.2.2.2 i t hi ht
  have t2 : t.2.1 ≤ 40 := t2
  obtain ⟨mx1, b1, b2, b3⟩ := c_become (a := 33) (b := 26) hT hP (by omega) h.2
  obtain ⟨mm1, n1, n2, n3⟩ := m_keeps hT hP hm.2.1
  have hx1 : IC (sR s) (sX s) mx1 32 := ⟨h.1.fr (fun c q1 q2 j => (b3 c (by unfold s05; omega) j).1), b2⟩
  have q : ∀ c, 38 < c → ∀ j, gi (si mx1 32 3 (nI 0)) c j = gi mx c j ∧ gl (si mx1 32 3 (nI 0)) c j = gl mx c j := fun c hc j => ⟨(gsn (by omega)).trans (b3 c (by unfold s05; omega) j).1, (b3 c (by unfold s05; omega) j).2⟩
  have q2 : ∀ c, c ≠ 0 → c ≠ 7 → ∀ j, gi (si mm1 0 19 (nI 0)) c j = gi mm c j ∧ gl (si mm1 0 19 (nI 0)) c j = gl mm c j := fun c h0 h7 j => ⟨(gsn h0).trans (n3 c h7 j).1, (n3 c h7 j).2⟩
  obtain ⟨y, d, w, mx2, mm2, i1, i2, i3, i4, i5, i6, i7, i8, i9, i10, i11, i12, i13⟩ := tells_loop (r := sR s) (f := t.2.2) (B := bd k) hw.2.2.2.1 hi t2 (by unfold bd; omega) FU 0 (sX s) (si mx1 32 3 (nI 0)) (si mm1 0 19 (nI 0)) (by omega) (by unfold FU; omega) hw.2.2.2.2.1 (hx1.s32 _ _) ((hm.2.1.fr (fun j => (n3 1 (by decide) j).1)).si (by decide) _ _) ((q _ (by omega) _).1.trans c1) (fun j hj => (q _ (by omega) _).2.trans (c3 j hj)) ((q2 15 (by omega) (by omega) _).1.trans d1) (fun j hj => (q2 16 (by omega) (by omega) _).2.trans (d2 j hj)) gss gss
  refine ⟨y, d, w, mx2, mm1, mm2, ?_, n1, ?_, i3, i4, i5, i6, i7.mono (by unfold bd; omega), i8, i9, ((fx33 b3).tr fx32).tr i10, n2, n3, (z0 (Or.inl rfl)).tr i11, fun hd => i13 hd⟩
  · rw [X11_rehearse, b1, bq, K0, lq]; exact i1
  · rw [X12_tells, K0, lq]; exact i2
theorem St_judge_ok : St_judge Rel := by
  intro k N mx mm hk ⟨s, e, ib, hw, hc, hm⟩ a b
  have g := hw.gx
  have hT := g.T; have hP := g.P
  have hm0 := hm.th
  have m1 : Mtr s (si mm 0 0 (nI 0)) := hm0.2.2.2.2.1
  have fin : Rel (k + 1) N mx (si mm 0 0 (nI 0)) := Rel.rd hk hw hc hm FX.rf FM.th
  rw [X11_judge, X12_judge, K0, lq, K3]
  by_cases ha : prs 4 a
  · obtain ⟨i, hi, rfl⟩ := ha
    rw [c_isTray_t hi, bq, jeq_f (by omega) (by omega) (by omega)]
    by_cases hb : rg 0 3 b
    · obtain ⟨o, _, ho, rfl⟩ := hb
      rw [jlt_f (by omega) (by omega), jle_t ho (by omega), wk_t l64_3 ho (by omega), bq, jeq_f (by omega) (by omega) (by omega)]
      simp (disch := omega) only [chk_in, ix_nI, lq]
      cases ht : sT s i with
      | none =>
        rw [c_tray0 hc.2.2.2.2.1 hi ht, jeq_t rfl, m_noTray_0 hi (m_tray0 m1 hi ht), bq, if_neg (by decide)]
        exact ⟨_, _, _, rfl, rfl, fin⟩
      | some t =>
        obtain ⟨c0, c1, c2, c3⟩ := c_tray1 hc.2.2.2.2.1 hi ht
        obtain ⟨d0, d1, d2⟩ := m_tray1 m1 hi ht
        obtain ⟨t1, t2⟩ := hw.2.2.2.2.2.2.2.2 i t hi ht
        obtain ⟨y, d, w, mx2, mm1, mm2, a1, a2, a3, a4, a5, a6, a7, a8, a9, a10, a11, a12, a13, a14, a15⟩ := both_tell hk hw hc hm0 hi ht
        have gy : GX (sR s) y := g.mk a8 (by unfold bd; omega)
        obtain ⟨mx3, b1, b2⟩ := c_gc_loop (a := 32) (by decide) gy FU 0 mx2 (by omega) (by unfold FU; omega) a9
        obtain ⟨mm3, b3, b4⟩ := m_gw_loop gy FU 0 mm2 (by omega) (by unfold FU; omega) a10
        obtain ⟨mm4, b5, b6, b7⟩ := m_isAgain hT hP (a10.f56 b4) ((a12.flz a14 (by omega) (by omega) (by omega) (by omega) (by omega)).flz (z56 b4) (by omega) (by omega) (by omega) (by omega) (by omega))
        have b1 : X10_goodOfCouples 32 mx2 = some (sug (wg (sR s) y) (rP (sR s)), mx3) := by rw [X10_goodOfCouples]; exact b1
        have b3 : X12_goodOfWed mm2 = some (sug (wg (sR s) y) (rP (sR s)), mm3) := by rw [X12_goodOfWed]; exact b3
        have w4 : gi mm4 0 19 = nI w := by rw [(b7.1 0 (fun q => q) (by omega) _).1, (b4 0 (by unfold s56; omega) _).1]; exact a7
        have mi : MI s mm4 := by
          have h1 : FMH (si mm 0 0 (nI 0)) mm4 := (((a13.fm (fun c q => by unfold scm; omega)).mh.tr a14.mh).tr (fm56 b4).mh).tr (b7.mh (fun c q => q.elim))
          have h2 : Mh (sR s) (sH s) mm4 := ((((Mh.fl (S := fun c => c = 7) hT hP hm0.2.2.1 (a13.fl (by decide))).flz hT hP a14).flz hT hP (z56 b4)).fl hT hP b7)
          exact hm0.lh (fun i y hi hy => (hw.2.2.2.2.2.2.2.1 i y hi hy).1) h1 b6 h2
        have hw1 : WS s (k + 1) := hw.mono (by omega) (by omega)
        rw [c0, jeq_f (by omega) (by omega) (by omega), m_noTray_1 hi t1 d0, bq, jeq_t rfl]
        simp (disch := omega) only [a1, a2, a3, bq, m_wedMany gy a10, b3, b5, lq, c_couples gy a9, b1]
        have ho4 : o = 0 ∨ o = 1 ∨ o = 2 ∨ o = 3 := by omega
        rcases ho4 with rfl | rfl | rfl | rfl
        · simp (disch := omega) only [jeq_t, a6, w4]
          by_cases h0 : w = 0
          · rw [jeq_t h0, jeq_t h0]
            exact ⟨_, _, _, rfl, rfl, s, e, ib, hw1, hc.fx a11, mi⟩
          · rw [jeq_f h0 (by omega) (by omega), jeq_f h0 (by omega) (by omega)]
            exact ⟨_, _, _, rfl, rfl, s, e, ib, hw1, hc.fx a11, mi⟩
        · simp (disch := omega) only [K1, jeq_f, jeq_t, a6, w4]
          exact ⟨_, _, _, rfl, rfl, s, e, ib, hw1, hc.fx a11, mi⟩
        · simp (disch := omega) only [K1, K2, jeq_f, jeq_t]
          exact ⟨_, _, _, rfl, rfl, s, e, ib, hw1, hc.fx a11, mi⟩
        · simp (disch := omega) only [K1, K2, jeq_f]
          exact ⟨_, _, _, rfl, rfl, s, e, ib, hw1, (hc.fx a11).f24 b2, mi⟩
    · rw [out hb (by omega) (by omega), out_w (l := 0) l64_0 l64_3 hb (by omega) (by omega), bq, jeq_t rfl]
      exact ⟨_, _, _, rfl, rfl, fin⟩
  · rw [c_isTray_f ha, bq, jeq_t rfl]
    by_cases hb : rg 0 3 b
    · obtain ⟨o, _, ho, rfl⟩ := hb
      rw [wk_t l64_3 ho (by omega), bq, jeq_f (by omega) (by omega) (by omega), m_noTray_f ha, bq, if_neg (by decide)]
      exact ⟨_, _, _, rfl, rfl, fin⟩
    · rw [out_w (l := 0) l64_0 l64_3 hb (by omega) (by omega), bq, jeq_t rfl]
      exact ⟨_, _, _, rfl, rfl, fin⟩
/-- what a trial did is accepted, and noted, if it is any -/
theorem both_accept {s : Sg} {e : Nat} {ib : Nat → Nat} {N k : Nat} {mx mm mx2 mm1 mm2 : Mem} {y : Lf} {d : Nat} (hk : k < 512) (hw : WS s k) (hc : CI s e ib N mx) (hm : MI s mm) (hd : d ≤ 40) (a8 : WL (sR s) y (bd (k + 1))) (a9 : IC (sR s) y mx2 32) (a10 : IM (sR s) y mm2) (a11 : FX mx mx2) (a12 : ML (sR s) (sX s) mm1 7 0) (a13 : Fr (fun c => c = 7) mm mm1) (a14 : FLz mm1 mm2) (a15 : d = 0 → EL (sR s) y (sX s)) : ∃ mx3 mm3, X11_acceptTrial (nI d) mx2 = some ((), mx3) ∧ (if nI d ≤ nI 0 then some (nI d, mm2) else bnd (X12_notes mm2) fun _ m_9 => some (nI d, m_9)) = some (nI d, mm3) ∧ Rel (k + 1) N mx3 mm3 := by
  have g := hw.gx
  have hT := g.T; have hP := g.P
  have f1 : FMH mm mm2 := (a13.fm (fun c q => by unfold scm; omega)).mh.tr a14.mh
  have h1 : Mh (sR s) (sH s) mm2 := (Mh.fl (S := fun c => c = 7) hT hP hm.2.2.1 (a13.fl (by decide))).flz hT hP a14
  have hcx := hc.fx a11
  rw [X11_acceptTrial, K0]
  by_cases h0 : d = 0
  · rw [jle_t (by omega) (by omega), jle_t (by omega) (by omega)]
    refine ⟨_, _, rfl, rfl, s, e, ib, hw.mono (by omega) (by omega), hcx, hm.lh (fun i y hi hy => (hw.2.2.2.2.2.2.2.1 i y hi hy).1) f1 (a10.el (a15 h0)) h1⟩
  · obtain ⟨mx3, e2, k1, k2, k3, k4⟩ := c_keeps hw hcx
    have hz : CL (sR s) y mx3 33 := a9.2.fr (fun c q1 q2 j => (k4 c (by unfold s4089; omega) j).1)
    obtain ⟨mx4, b1, b2, b3⟩ := c_become (a := 26) (b := 33) hT hP (by omega) hz
    obtain ⟨mm3, c1, c2, c3⟩ := m_notes hT hP hw.2.2.2.2.2.1 h1 (a12.flz a14 (by omega) (by omega) (by omega) (by omega) (by omega))
    rw [jle_f (by omega) (by omega), jle_f (by omega) (by omega), k1, bq, b1, bq, c1, bq]
    refine ⟨_, _, rfl, rfl, Rel.kp (e2 := e2) hk hw hc hm a8 ((a11.xh.tr (xh40 k4)).tr (b3.xh (fun c q => by unfold s05 at q; omega))) ⟨k3.1.fr (fun c q1 q2 j => (b3 c (by unfold s05; omega) j).1), b2⟩ (k2.fr (fun c q1 q2 j => (b3 c (by unfold s05; omega) j).1)) (f1.tr c3.mh) (a10.fn hT hP c3) c2⟩
theorem St_perform_ok : St_perform Rel := by
  intro k N mx mm hk ⟨s, e, ib, hw, hc, hm⟩ a
  have g := hw.gx
  have hm0 := hm.th
  have m1 : Mtr s (si mm 0 0 (nI 0)) := hm0.2.2.2.2.1
  have fin : Rel (k + 1) N mx (si mm 0 0 (nI 0)) := Rel.rd hk hw hc hm FX.rf FM.th
  rw [X11_perform, X12_perform, K0, lq]
  by_cases ha : prs 4 a
  · obtain ⟨i, hi, rfl⟩ := ha
    rw [c_isTray_t hi, bq, jeq_f (by omega) (by omega) (by omega)]
    simp (disch := omega) only [chk_in, ix_nI, lq]
    cases ht : sT s i with
    | none =>
      rw [c_tray0 hc.2.2.2.2.1 hi ht, jeq_t rfl, m_noTray_0 hi (m_tray0 m1 hi ht), bq, if_neg (by decide)]
      exact ⟨_, _, _, rfl, rfl, fin⟩
    | some t =>
      obtain ⟨c0, c1, c2, c3⟩ := c_tray1 hc.2.2.2.2.1 hi ht
      obtain ⟨d0, d1, d2⟩ := m_tray1 m1 hi ht
      obtain ⟨t1, t2⟩ := hw.2.2.2.2.2.2.2.2 i t hi ht
      obtain ⟨y, d, w, mx2, mm1, mm2, a1, a2, a3, a4, a5, a6, a7, a8, a9, a10, a11, a12, a13, a14, a15⟩ := both_tell hk hw hc hm0 hi ht
      obtain ⟨mx3, mm3, b1, b2, b3⟩ := both_accept hk hw hc hm0 a4 a8 a9 a10 a11 a12 a13 a14 (fun q => by rw [a15 q]; exact EL.rf)
      rw [c0, jeq_f (by omega) (by omega) (by omega), m_noTray_1 hi t1 d0, bq, jeq_t rfl, a1, bq, b1, bq, a2, bq, a3, bq]
      exact ⟨_, _, _, rfl, b2, b3⟩
  · rw [c_isTray_f ha, bq, jeq_t rfl, m_noTray_f ha, bq, if_neg (by decide)]
    exact ⟨_, _, _, rfl, rfl, fin⟩
