/-! calls that do deeds -/
def rg (l k : Nat) (a : Int32) : Prop := ∃ n, l ≤ n ∧ n ≤ k ∧ a = nI n
theorem rg_iff {l k : Nat} (hk : k < 2147483648) (hl : l < 2147483648) (a : Int32) : rg l k a ↔ (nI l ≤ a ∧ a ≤ nI k) := by
  constructor
  · intro ⟨n, h1, h2, e⟩
    subst e
    exact ⟨nI_le h1 (by omega), nI_le h2 hk⟩
  · intro ⟨h1, h2⟩
    rw [le_iff, tI hl] at h1
    rw [le_iff, tI hk] at h2
    refine ⟨a.toInt.toNat, by omega, by omega, ?_⟩
    apply Int32.toInt_inj.mp
    rw [tI (by omega)]
    omega
theorem out {β : Type} {l k : Nat} {a : Int32} {E X : β} {D1 : Decidable (a < nI l)} {D2 : Decidable (a ≤ nI k)} (h : ¬ rg l k a) (hk : k < 2147483648) (hl : l < 2147483648) : @ite β (a < nI l) D1 E (@ite β (a ≤ nI k) D2 X E) = E := by
  by_cases h1 : a < nI l
  · rw [if_pos h1]
  · rw [if_neg h1, if_neg (fun q => h ((rg_iff hk hl a).mpr ⟨?_, q⟩))]
    rw [lt_iff] at h1
    rw [le_iff]
    omega
theorem out_w {l k : Nat} {a : Int32} {c d : Int64} (hc : c = Int32.toInt64 (nI l)) (hd : d = Int32.toInt64 (nI k)) (h : ¬ rg l k a) (hk : k < 2147483648) (hl : l < 2147483648) (m : Mem) : X12_within (Int32.toInt64 a) c d m = some (nI 0, m) := by
  rw [hc, hd]
  apply within_f
  rw [toI64_le, toI64_le]
  exact fun q => h ((rg_iff hk hl a).mpr q)
theorem l64_60 : (60 : Int64) = Int32.toInt64 (nI 60) := by decide
theorem Hs.fr {r : Ru} {h : List Lf} {e : Nat} {m m2 : Mem} (hh : Hs r h e m) (hf : ∀ c, 40 ≤ c → c ≤ 89 → ∀ j, gi m2 c j = gi m c j) : Hs r h e m2 := by
  obtain ⟨h1, h2, h3, h4⟩ := hh
  exact ⟨h1, (hf 40 (by omega) (by omega) _).trans h2, (hf 40 (by omega) (by omega) _).trans h3, fun i hi => (h4 i hi).fr (fun c q1 q2 j => hf c (by omega) (by omega) j)⟩
theorem Rel.dd {s : Sg} {e e2 : Nat} {ib : Nat → Nat} {k N : Nat} {mx mm mx2 mm2 : Mem} {x : Lf} {h : List Lf} (hk : k < 512) (hw : WS s k) (hc : CI s e ib N mx) (hm : MI s mm) (hx : WL (sR s) x (bd (k + 1))) (hl : h.length ≤ 8) (hh : ∀ i, i < h.length → WL (sR s) (hg h i) (bd (k + 1))) (f1 : FXH mx mx2) (i1 : IC (sR s) x mx2 25) (h1 : Hs (sR s) h e2 mx2) (f2 : FMH mm mm2) (i2 : IM (sR s) x mm2) (h2 : Mh (sR s) h mm2) : Rel (k + 1) N mx2 mm2 :=
  ⟨sXH s x h, e2, ib, hw.lh (by omega) (by omega) hx hl hh, hc.lh f1 i1 h1, hm.lh (fun i y hi hy => (hw.2.2.2.2.2.2.2.1 i y hi hy).1) f2 i2 h2⟩
/-- a deed kept in history -/
theorem Rel.kp {s : Sg} {e e2 : Nat} {ib : Nat → Nat} {k N : Nat} {mx mm mx2 mm2 : Mem} {x : Lf} (hk : k < 512) (hw : WS s k) (hc : CI s e ib N mx) (hm : MI s mm) (hx : WL (sR s) x (bd (k + 1))) (f1 : FXH mx mx2) (i1 : IC (sR s) x mx2 25) (h1 : Hs (sR s) (kpH (sH s) (sX s)) e2 mx2) (f2 : FMH mm mm2) (i2 : IM (sR s) x mm2) (h2 : Mh (sR s) (kpH (sH s) (sX s)) mm2) : Rel (k + 1) N mx2 mm2 := by
  have hl : (sH s).length ≤ 8 := hw.2.2.2.2.2.1
  have hb := bd_le (show k ≤ k + 1 by omega)
  exact Rel.dd hk hw hc hm hx (kpH_len hl) (kpH_wl hl (hw.2.2.2.2.1.mono hb) (fun i hi => (hw.2.2.2.2.2.2.1 i hi).mono hb)) f1 i1 h1 f2 i2 h2
theorem c_keeps {s : Sg} {e : Nat} {ib : Nat → Nat} {N k : Nat} {m : Mem} (hw : WS s k) (hc : CI s e ib N m) : ∃ m2 e2, X2_keep 26 m = some ((), m2) ∧ Hs (sR s) (kpH (sH s) (sX s)) e2 m2 ∧ IC (sR s) (sX s) m2 25 ∧ Fr s4089 m m2 := by
  have g := hw.gx
  obtain ⟨m2, e2, e1, h1, f1⟩ := c_keep g.T g.P hw.2.2.2.2.2.1 hc.2.2.1 hc.2.1.2
  exact ⟨m2, e2, e1, h1, hc.2.1.fr (fun c q j => (f1 c (by unfold s4089; omega) j).1), f1⟩
theorem xh16 {m m2 : Mem} (h : Fr (s16 25) m m2) : FXH m m2 := h.xh (fun c q => by unfold s16 at q; omega)
theorem xh46 {m m2 : Mem} (h : Fr (s46 25) m m2) : FXH m m2 := h.xh (fun c q => by unfold s46 at q; omega)
theorem xh40 {m m2 : Mem} (h : Fr s4089 m m2) : FXH m m2 := h.xh (fun c q => by unfold s4089 at q; omega)
theorem xh24 {m m2 : Mem} (h : Fr s24 m m2) : FXH m m2 := h.xh (fun c q => by unfold s24 at q; unfold scx; omega)
theorem Hs.f16 {r : Ru} {h : List Lf} {e : Nat} {m m2 : Mem} (hh : Hs r h e m) (hf : Fr (s16 25) m m2) : Hs r h e m2 := hh.fr (fun c q1 q2 j => (hf c (by unfold s16; omega) j).1)
theorem Hs.f46 {r : Ru} {h : List Lf} {e : Nat} {m m2 : Mem} (hh : Hs r h e m) (hf : Fr (s46 25) m m2) : Hs r h e m2 := hh.fr (fun c q1 q2 j => (hf c (by unfold s46; omega) j).1)
theorem Hs.f24 {r : Ru} {h : List Lf} {e : Nat} {m m2 : Mem} (hh : Hs r h e m) (hf : Fr s24 m m2) : Hs r h e m2 := hh.fr (fun c q1 q2 j => (hf c (by unfold s24; omega) j).1)
/-- keeps, a deed, notes -/
theorem m_noted {s : Sg} {k : Nat} {m m2 m3 : Mem} {x : Lf} (hw : WS s k) (hm : MI s m) (h7 : ML (sR s) (sX s) m2 7 0) (f7 : Fr (fun c => c = 7) m m2) (hx : IM (sR s) x m3) (f8 : FL s8 m2 m3) : ∃ m4, X12_notes m3 = some ((), m4) ∧ IM (sR s) x m4 ∧ Mh (sR s) (kpH (sH s) (sX s)) m4 ∧ FMH m m4 := by
  have g := hw.gx
  have hh : Mh (sR s) (sH s) m2 := Mh.fl (S := fun c => c = 7) g.T g.P hm.2.2.1 (f7.fl (by decide))
  obtain ⟨m4, e1, e2, e3⟩ := m_notes g.T g.P hw.2.2.2.2.2.1 (hh.fl g.T g.P f8) (h7.fr (fun j => (f8.1 7 (by unfold s8; omega) (by omega) j).1))
  exact ⟨m4, e1, hx.fn g.T g.P e3, e2, ((f7.fm (fun c q => by unfold scm; omega)).mh.tr (f8.mh (fun c q => by unfold s8 at q; unfold scm; omega))).tr e3.mh⟩
theorem MI.th {s : Sg} {m : Mem} (h : MI s m) : MI s (si m 0 0 (nI 0)) := h.fm FM.th
theorem CI.f24 {s : Sg} {e : Nat} {ib : Nat → Nat} {N : Nat} {m m2 : Mem} (h : CI s e ib N m) (hf : Fr s24 m m2) : CI s e ib N m2 := h.fx (fx24 hf)
theorem MI.f56 {s : Sg} {m m2 : Mem} (h : MI s m) (hf : Fr s56 m m2) : MI s m2 := h.fm (fm56 hf)
theorem wy1 : (-10 : Int32) - nI 1 = -11 := by decide
theorem wy2 : (-10 : Int32) - nI 2 = -12 := by decide
theorem wy3 : (-10 : Int32) - nI 3 = -13 := by decide
theorem St_wed_ok : St_wed Rel := by
  intro k N mx mm hk ⟨s, e, ib, hw, hc, hm⟩ a b
  have g := hw.gx
  have hT := g.T; have hP := g.P
  have h := hc.2.1
  have hm0 := hm.th
  have hi := hm0.2.1
  have fin : Rel (k + 1) N mx (si mm 0 0 (nI 0)) := Rel.rd hk hw hc hm FX.rf FM.th
  rw [X11_wed, X12_wed, X10_whyNotMarry, K0, lq, kn1, K1, K2, K3]
  by_cases ht : tw (rP (sR s)) a b
  · obtain ⟨p, q, hp, hq, hn, rfl, rfl⟩ := ht
    have c1 := h.mate hp; have c2 := h.mate hq
    have d1 := hi.wed hp; have d2 := hi.wed hq
    simp (disch := omega) only [c_areTwo_t g h hp hq hn, m_areTwo_t g hi hp hq hn, bq, jeq_f, chk_in, ix_nI, K153, nadd, c1, d1, kn1]
    cases hmp : lmt (sX s) p with
    | some u =>
      have hu := (g.mt hp hmp).1
      rw [oN_some, jm_f (by omega), jm_f (by omega), bq, jeq_f (by omega) (by omega) (by omega), wy2]
      exact ⟨_, _, _, rfl, rfl, fin⟩
    | none =>
      rw [oN_none, jm_t, jm_t]
      simp (disch := omega) only [chk_in, ix_nI, c2, d2]
      cases hmq : lmt (sX s) q with
      | some u =>
        have hu := (g.mt hq hmq).1
        rw [oN_some, jm_f (by omega), jm_f (by omega), bq, jeq_f (by omega) (by omega) (by omega), wy2]
        exact ⟨_, _, _, rfl, rfl, fin⟩
      | none =>
        obtain ⟨mx1, e1, f1⟩ := c_isAllowed (by decide) g h hp hq
        obtain ⟨mm1, e2, f2⟩ := m_mayWed g hi hp hq
        rw [oN_none, jm_t, jm_t, e1, e2, bq, bq]
        have hc1 := hc.f24 f1
        have hm1 := hm0.f56 f2
        by_cases hy : my (sR s) (sX s) p q = true
        · obtain ⟨mx2, e2', k1, k2, k3, k4⟩ := c_keeps hw hc1
          obtain ⟨mx3, l1, l2, l3⟩ := c_marry (by decide) hP k3 hp hq
          have l1 : X5_marry 26 (nI p) (nI q) mx2 = some ((), mx3) := l1
          obtain ⟨mm2, n1, n2, n3⟩ := m_keeps hT hP hm1.2.1
          obtain ⟨mm3, o1, o2, o3⟩ := m_weds hT hP (hm1.2.1.fr (fun j => (n3 1 (by decide) j).1)) hp hq
          obtain ⟨mm4, p1, p2, p3, p4⟩ := m_noted hw hm1 n2 n3 o2 o3
          have wx : WL (sR s) (mry (sX s) p q) (bd (k + 1)) := (hw.2.2.2.2.1.mono (bd_le (by omega))).xm hp hq hn hmp hmq
          have g2 : GX (sR s) (mry (sX s) p q) := g.mk wx (by unfold bd; omega)
          obtain ⟨mx4, q1, q2⟩ := c_goodness (by decide) g2 l2 hp hq
          obtain ⟨mm5, q3, q4⟩ := m_goodOf g2 p2 hp hq
          rw [if_pos hy, jeq_f (by omega) (by omega) (by omega), jeq_f (by omega) (by omega) (by omega), bq, jeq_t rfl, k1, bq, l1, bq, q1, bq, n1, bq, o1, bq, p1, bq, q3, bq]
          exact ⟨_, _, _, rfl, rfl, Rel.kp hk hw hc hm wx ((((xh24 f1).tr (xh40 k4)).tr (xh16 l3)).tr (xh24 q2)) (l2.f24 (by decide) q2) ((k2.f16 l3).f24 q2) ((((FM.th.tr (fm56 f2)).mh).tr p4).tr (fm56 q4).mh) (p2.f56 q4) (Mh.fl hT hP p3 (q4.fl (by unfold s56; omega)))⟩
        · rw [if_neg hy, jeq_t rfl, jeq_t rfl, bq, jeq_f (by omega) (by omega) (by omega), wy3]
          exact ⟨_, _, _, rfl, rfl, Rel.rd hk hw hc hm (fx24 f1) (FM.th.tr (fm56 f2))⟩
  · rw [c_areTwo_f g h ht, m_areTwo_f g hi ht, bq, bq, jeq_t rfl, jeq_t rfl, bq, jeq_f (by omega) (by omega) (by omega), wy1]
    exact ⟨_, _, _, rfl, rfl, fin⟩
theorem St_part_ok : St_part Rel := by
  intro k N mx mm hk ⟨s, e, ib, hw, hc, hm⟩ a
  have g := hw.gx
  have hT := g.T; have hP := g.P
  have h := hc.2.1
  have hm0 := hm.th
  have hi := hm0.2.1
  have fin : Rel (k + 1) N mx (si mm 0 0 (nI 0)) := Rel.rd hk hw hc hm FX.rf FM.th
  rw [X11_part, X12_part, K0, lq]
  by_cases ht : prs (rP (sR s)) a
  · obtain ⟨p, hp, rfl⟩ := ht
    have c1 : gi mx 28 p = _ := h.mate hp
    have d1 := hi.wed hp
    simp (disch := omega) only [c_isPerson_t g h hp, m_isPerson_t g hi hp, bq, jeq_f, chk_in, ix_nI, K153, nadd, c1, d1, kn1]
    cases hmp : lmt (sX s) p with
    | none =>
      simp (disch := omega) only [oN_none, jm_t]
      exact ⟨_, _, _, rfl, rfl, fin⟩
    | some q =>
      have hq := (g.mt hp hmp).1
      obtain ⟨mx2, e2', k1, k2, k3, k4⟩ := c_keeps hw hc
      obtain ⟨mx3, l1, l2, l3⟩ := c_split (by decide) hP k3 hp hq hmp
      have l1 : X5_split 26 (nI p) mx2 = some ((), mx3) := l1
      obtain ⟨mm2, n1, n2, n3⟩ := m_keeps hT hP hi
      obtain ⟨mm3, o1, o2, o3⟩ := m_parts hT hP (hi.fr (fun j => (n3 1 (by decide) j).1)) hp hq hmp
      obtain ⟨mm4, p1, p2, p3, p4⟩ := m_noted hw hm0 n2 n3 o2 o3
      have wx : WL (sR s) (spl (sX s) p q) (bd (k + 1)) := (hw.2.2.2.2.1.mono (bd_le (by omega))).xs hp hmp
      simp (disch := omega) only [oN_some, jm_f, bq, k1, l1, n1, o1, p1]
      exact ⟨_, _, _, rfl, rfl, Rel.kp hk hw hc hm wx ((xh40 k4).tr (xh16 l3)) l2 (k2.f16 l3) (FM.th.mh.tr p4) p2 p3⟩
  · simp (disch := omega) only [c_isPerson_f g h ht, m_isPerson_f g hi ht, bq, jeq_t]
    exact ⟨_, _, _, rfl, rfl, fin⟩
