/-! a year by draws -/
def nx (v : Int32) : Int32 := 1103515245 * v + 12345
def dv (v b : Int32) : Int32 := ((v.toUInt32 >>> ((16 : Int32).toUInt32 &&& Int32.toUInt32 31)).toInt32) - ((v.toUInt32 >>> ((16 : Int32).toUInt32 &&& Int32.toUInt32 31)).toInt32) / b * b
theorem c_draw {b : Nat} (hb : 0 < b) (hb2 : b < 100) (m : Mem) : X11_draw (nI b) m = some (dv (nx (gi m 0 2)) (nI b), si m 0 2 (nx (gi m 0 2))) := by
  have hne : ¬ nI b = 0 := fun q => by
    rw [L0] at q
    have := nI_inj (by omega) (by omega) q
    omega
  rw [X11_draw, lq, gss, if_neg (by
    rw [L0, nI_leI (by omega) (by omega)]
    omega), chk_tt (show decide (¬ nI b = 0) = true from decide_eq_true hne)]
  rfl
theorem m_draw {b : Nat} (hb : 0 < b) (hb2 : b < 100) (m : Mem) : X12_draw (nI b) m = some (dv (nx (gi m 0 20)) (nI b), si m 0 20 (nx (gi m 0 20))) := by
  have hne : ¬ nI b = 0 := fun q => by
    rw [L0] at q
    have := nI_inj (by omega) (by omega) q
    omega
  rw [X12_draw, lq, gss, chk_tt (show decide (¬ nI b = 0) = true from decide_eq_true hne)]
  rfl
def DX (j0 : Nat) (m m2 : Mem) : Prop := (∀ c, c ≠ 0 → ∀ j, gi m2 c j = gi m c j ∧ gl m2 c j = gl m c j) ∧ ∀ j, j ≠ j0 → gi m2 0 j = gi m 0 j
theorem DX.si {j0 : Nat} {m : Mem} {v : Int32} : DX j0 m (si m 0 j0 v) := ⟨fun c hc j => ⟨gsn hc, rfl⟩, fun j hj => gsi hj⟩
theorem DX.tr {j0 : Nat} {m m1 m2 : Mem} (h1 : DX j0 m m1) (h2 : DX j0 m1 m2) : DX j0 m m2 := ⟨fun c hc j => ⟨(h2.1 c hc j).1.trans (h1.1 c hc j).1, (h2.1 c hc j).2.trans (h1.1 c hc j).2⟩, fun j hj => (h2.2 j hj).trans (h1.2 j hj)⟩
theorem both_draw {P T : Nat} {mx mm : Mem} (hP : 0 < P) (hP2 : P < 100) (hT : 0 < T) (hT2 : T < 100) (x1 : gi mx 2 1 = nI P) (x0 : gi mx 2 0 = nI T) (y1 : gi mm 1 2 = nI P) (y0 : gi mm 1 1 = nI T) (hv : gi mx 0 2 = gi mm 0 20) : ∃ V mx2 mm2, X11_drawDeed mx = some (V, mx2) ∧ X12_drawn mm = some (V, mm2) ∧ gi mx2 0 2 = gi mm2 0 20 ∧ DX 2 mx mx2 ∧ DX 20 mm mm2 := by
  rw [X11_drawDeed, X12_drawn, K4, c_draw (by omega) (by omega), m_draw (by omega) (by omega), bq, bq, hv]
  by_cases h0 : dv (nx (gi mm 0 20)) (nI 4) = 0
  · rw [if_pos h0, if_pos h0]
    exact ⟨_, _, _, rfl, rfl, by rw [gss, gss], DX.si, DX.si⟩
  · have i2 : ix 2 = 2 := by decide
    have i1 : ix 1 = 1 := by decide
    have c2 : ∀ {β : Type} (t : Option β), chk (inb 2 6288) t = t := fun t => chk_tt (by decide)
    have c1 : ∀ {β : Type} (t : Option β), chk (inb 1 6288) t = t := fun t => chk_tt (by decide)
    rw [if_neg h0, if_neg h0, c2, i2, i1, gsn (by omega), gsn (by omega), x1, y1, c_draw hP hP2, m_draw hP hP2, bq, bq, gss, gss]
    have fin : ∀ (b : Nat), 0 < b → b < 100 → ∀ u : Int32, ∃ V mx2 mm2, X11_drawDeed_b47 (dv (nx (gi mm 0 20)) (nI 4)) u (nI b) (si (si mx 0 2 (nx (gi mm 0 20))) 0 2 (nx (nx (gi mm 0 20)))) = some (V, mx2) ∧ X12_drawn_b44 (dv (nx (gi mm 0 20)) (nI 4)) u (nI b) (si (si mm 0 20 (nx (gi mm 0 20))) 0 20 (nx (nx (gi mm 0 20)))) = some (V, mm2) ∧ gi mx2 0 2 = gi mm2 0 20 ∧ DX 2 mx mx2 ∧ DX 20 mm mm2 := by
      intro b b1 b2 u
      rw [X11_drawDeed_b47, X12_drawn_b44, c_draw b1 b2, m_draw b1 b2, bq, bq, gss, gss, Int32.mul_comm 1000]
      exact ⟨_, _, _, rfl, rfl, by rw [gss, gss], (DX.si.tr DX.si).tr DX.si, (DX.si.tr DX.si).tr DX.si⟩
    by_cases h2 : dv (nx (gi mm 0 20)) (nI 4) = 2
    · rw [if_pos h2, if_pos h2, c1, gsn (by omega), gsn (by omega), gsn (by omega), gsn (by omega), x0, y0]
      exact fin T hT hT2 _
    · rw [if_neg h2, if_neg h2, c2, gsn (by omega), gsn (by omega), gsn (by omega), gsn (by omega), x1, y1]
      exact fin P hP hP2 _
theorem DX.fx {m m2 : Mem} (h : DX 2 m m2) : FX m m2 := ⟨fun c _ h0 _ j => h.1 c h0 j, h.2 1 (by omega), (h.1 39 (by omega) 3).1, (h.1 39 (by omega) 8).1, (h.1 39 (by omega) 9).1⟩
theorem DX.z {m m2 : Mem} (h : DX 20 m m2) : FLz m m2 := ⟨fun c h0 _ _ _ _ j => h.1 c h0 j, fun j _ => (h.1 1 (by omega) j).1, fun j _ h2 => h.2 j h2⟩
theorem season_loop {r : Ru} {e B : Nat} (hr : WR r) (hP : 0 < rP r) (hT : 0 < rT r) (he : e ≤ 40) (hb : B + 100 ≤ 900000) : ∀ n k d x mx mm, k ≤ e → e - k < n → d ≤ k → WL r x (B + k) → IC r x mx 32 → IM r x mm → gi mx 0 2 = gi mm 0 20 → ∃ y d2 mx2 mm2, (X11_season_b64 n (nI e) (nI d) (nI k) mx = (bnd (X11_acceptTrial (nI d2) mx2) fun _ m_5 => some (nI d2, m_5))) ∧ (X12_season_b55 n (nI e) (nI d) (nI k) mm = (if nI d2 ≤ nI 0 then some (nI d2, mm2) else bnd (X12_notes mm2) fun _ m_9 => some (nI d2, m_9))) ∧ d2 ≤ 40 ∧ WL r y (B + 40) ∧ IC r y mx2 32 ∧ IM r y mm2 ∧ FX mx mx2 ∧ FLz mm mm2 ∧ d ≤ d2 ∧ (d2 = d → y = x) := by
  have hP8 := hr.2.1
  have hT14 := hr.1
  intro n
  induction n with
  | zero => intro k d x mx mm _ h; omega
  | succ n ih =>
    intro k d x mx mm hk hn hd hwl hc hm hv
    have g : GX r x := ⟨hr, hwl.mono (by omega)⟩
    rw [X11_season_b64, X12_season_b55, K0]
    rcases Nat.eq_or_lt_of_le hk with hE | hl
    · subst hE
      rw [jle_t (by omega) (by omega), jle_t (by omega) (by omega)]
      exact ⟨x, d, mx, mm, rfl, rfl, by omega, hwl.mono (by omega), hc, hm, FX.rf, FLz.rf, Nat.le_refl _, fun _ => rfl⟩
    · obtain ⟨V, mx1, mm1, a1, a2, a3, a4, a5⟩ := both_draw hP (by omega) hT (by omega) hc.P hc.T hm.P hm.T hv
      have hc1 : IC r x mx1 32 := hc.fr (fun c q j => (a4.1 c (by omega) j).1)
      have hm1 : IM r x mm1 := hm.fr (fun j => (a5.1 1 (by omega) j).1)
      obtain ⟨mx2, b1, b2, b3⟩ := c_attempt (v := Int32.toInt64 V) (a := 32) (by decide) g hwl (by omega) hc1
      obtain ⟨mm2, c1, c2⟩ := m_whyNot g hm1 (Int32.toInt64 V)
      have hw5 := wV_lt r x (Int32.toInt64 V)
      have v2 : gi mx2 0 2 = gi mm2 0 20 := by rw [(b3 0 (by unfold sA s16 s24; omega) 2).1, (c2 0 (by unfold s56; omega) 20).1]; exact a3
      rw [jle_f hl (by omega), jle_f hl (by omega), a1, a2, bq, bq, b1, c1, bq, bq, K1, nadd, nadd]
      by_cases h0 : wV r x (Int32.toInt64 V) = 0
      · rw [if_pos h0] at b2
        obtain ⟨mm3, d1, d2, d3⟩ := m_does g hwl (by omega) (hm1.f56 c2) h0
        rw [Int32.toInt32_toInt64] at d1
        obtain ⟨y, D, mx3, mm4, i1, i2, i3, i4, i5, i6, i7, i8, i9, i10⟩ := ih (k + 1) (d + 1) (eV r x (Int32.toInt64 V)) mx2 mm3 (by omega) (by omega) (by omega) (hwl.xv h0) b2 d2 (by rw [v2, (d3.1 0 (by unfold s8; omega) (by omega) 20).1])
        refine ⟨y, D, mx3, mm4, ?_, ?_, i3, i4, i5, i6, (a4.fx.tr (fxA b3)).tr i7, ((a5.z.tr (z56 c2)).tr d3.z).tr i8, by omega, fun q => by omega⟩
        · rw [jeq_t h0]; exact i1
        · rw [jeq_t h0, d1, bq]; exact i2
      · rw [if_neg h0] at b2
        obtain ⟨y, D, mx3, mm4, i1, i2, i3, i4, i5, i6, i7, i8, i9, i10⟩ := ih (k + 1) d x mx2 mm2 (by omega) (by omega) (by omega) (hwl.mono (by omega)) b2 (hm1.f56 c2) v2
        refine ⟨y, D, mx3, mm4, ?_, ?_, i3, i4, i5, i6, (a4.fx.tr (fxA b3)).tr i7, (a5.z.tr (z56 c2)).tr i8, i9, i10⟩
        · rw [jeq_f h0 (by omega) (by omega)]; exact i1
        · rw [jeq_f h0 (by omega) (by omega)]; exact i2
theorem St_season_ok : St_season Rel := by
  intro k N mx mm hk ⟨s, e, ib, hw, hc, hm⟩ a b
  have g := hw.gx
  have hT := g.T; have hP := g.P
  have h := hc.2.1
  have hm0 := hm.th
  have hi := hm0.2.1
  have fin : Rel (k + 1) N mx (si mm 0 0 (nI 0)) := Rel.rd hk hw hc hm FX.rf FM.th
  rw [X11_season, X12_season, K0, lq, K1, K40]
  by_cases hb : rg 1 40 b
  · obtain ⟨n, n1, n2, rfl⟩ := hb
    have hPx : gi mx 2 1 = nI (rP (sR s)) := h.P
    have hTx : gi mx 2 0 = nI (rT (sR s)) := h.T
    rw [jlt_f n1 (by omega), jle_t n2 (by omega), wl_t l64_1 l64_40 n1 n2 (by omega), bq, jeq_f (by omega) (by omega) (by omega)]
    simp (disch := omega) only [chk_in, ix_nI, K2, hPx, hTx, hi.P, hi.T]
    by_cases hT0 : rT (sR s) = 0
    · rw [jeq_t hT0, jeq_t hT0]
      exact ⟨_, _, _, rfl, rfl, fin⟩
    · rw [jeq_f hT0 (by omega) (by omega), jeq_f hT0 (by omega) (by omega)]
      by_cases hP0 : rP (sR s) = 0
      · rw [jeq_t hP0, jeq_t hP0]
        exact ⟨_, _, _, rfl, rfl, fin⟩
      · rw [jeq_f hP0 (by omega) (by omega), jeq_f hP0 (by omega) (by omega)]
        obtain ⟨mx1, b1, b2, b3⟩ := c_become (a := 33) (b := 26) hT hP (by omega) h.2
        obtain ⟨mm1, c1, c2, c3⟩ := m_keeps hT hP hi
        have hx1 : IC (sR s) (sX s) mx1 32 := ⟨h.1.fr (fun c q1 q2 j => (b3 c (by unfold s05; omega) j).1), b2⟩
        obtain ⟨y, D, mx2, mm2, i1, i2, i3, i4, i5, i6, i7, i8, i9, i10⟩ := season_loop (r := sR s) (e := n) (B := bd k) hw.2.2.2.1 (by omega) (by omega) n2 (by unfold bd; omega) FU 0 0 (sX s) (si mx1 0 2 a) (si mm1 0 20 a) (by omega) (by unfold FU; omega) (by omega) hw.2.2.2.2.1 (hx1.fr (fun c q j => gsn (by omega))) ((hi.fr (fun j => (c3 1 (by decide) j).1)).si (by decide) _ _) (by rw [gss, gss])
        obtain ⟨mx3, mm3, j1, j2, j3⟩ := both_accept (mx2 := mx2) (mm1 := mm1) (mm2 := mm2) (d := D) hk hw hc hm0 i3 (i4.mono (by unfold bd; omega)) i5 i6 (((fx33 b3).tr (DX.si (j0 := 2)).fx).tr i7) c2 c3 ((DX.si (j0 := 20)).z.tr i8) (fun q => by rw [i10 q]; exact EL.rf)
        rw [b1, bq, lq, c1, bq, lq, i1, i2, j1, bq]
        exact ⟨_, _, _, rfl, j2, j3⟩
  · rw [out hb (by omega) (by omega), out_w l64_1 l64_40 hb (by omega) (by omega), bq, jeq_t rfl]
    exact ⟨_, _, _, rfl, rfl, fin⟩
