/-! the relation between the two memories -/
/-- a byte, as the class keeps it -/
def sx (b : Nat) : Int32 := if b < 128 then nI b else nI b - nI 256
/-- numbers of a tray: sort, size, numbers -/
abbrev Tr : Type := Nat × Nat × (Nat → Int64)
/-- tape's length, tape; rules; life; what can be undone, the eldest first; images; trays; fault's kind, place -/
abbrev Sg : Type := (Nat × (Nat → Nat)) × Ru × Lf × List Lf × (Nat → Option (Ru × Lf)) × (Nat → Option Tr) × (Int32 × Int32)
def sNt (s : Sg) : Nat := s.1.1
def sTp (s : Sg) : Nat → Nat := s.1.2
def sR (s : Sg) : Ru := s.2.1
def sX (s : Sg) : Lf := s.2.2.1
def sH (s : Sg) : List Lf := s.2.2.2.1
def sIm (s : Sg) : Nat → Option (Ru × Lf) := s.2.2.2.2.1
def sT (s : Sg) : Nat → Option Tr := s.2.2.2.2.2.1
def sFk (s : Sg) : Int32 := s.2.2.2.2.2.2.1
def sFp (s : Sg) : Int32 := s.2.2.2.2.2.2.2
def hg (h : List Lf) (i : Nat) : Lf := h.getD i (fun _ => 0, fun _ => none, fun _ _ => none, 0)
def bd (k : Nat) : Nat := 100 + 60 * k
def WS (s : Sg) (k : Nat) : Prop := k ≤ 512 ∧ sNt s ≤ 900 ∧ (∀ i, i < sNt s → sTp s i < 256) ∧ WR (sR s) ∧ WL (sR s) (sX s) (bd k) ∧ (sH s).length ≤ 8 ∧ (∀ i, i < (sH s).length → WL (sR s) (hg (sH s) i) (bd k)) ∧ (∀ i y, i < 2 → sIm s i = some y → WR y.1 ∧ WL y.1 y.2 (bd k)) ∧ ∀ i t, i < 4 → sT s i = some t → t.1 ≤ 3 ∧ t.2.1 ≤ 40
/-- the class's tape -/
def Ctp (s : Sg) (m : Mem) : Prop := gi m 0 1 = nI (sNt s) ∧ ∀ i, i < sNt s → gi m 1 i = sx (sTp s i)
def Chs (s : Sg) (e : Nat) (m : Mem) : Prop := e < 8 ∧ gi m 40 1 = nI e ∧ gi m 40 2 = nI (sH s).length ∧ ∀ i, i < (sH s).length → CL (sR s) (hg (sH s) i) m (42 + 6 * ((e + i) % 8))
def Crd (s : Sg) (m : Mem) : Prop := (okl (gi m 39 3) = true ∧ ∀ j, 2 ≤ j → gi m 108 j = nI 0) ∧ gi m 39 8 = sFk s ∧ gi m 39 9 = sFp s
def Ctr (s : Sg) (m : Mem) : Prop := ∀ i, i < 4 → match sT s i with
  | none => gi m (100 + 2 * i) 0 = nI 0
  | some t => gi m (100 + 2 * i) 0 = nI 1 ∧ gi m (100 + 2 * i) 1 = nI t.2.1 ∧ gi m (100 + 2 * i) 2 = nI t.1 ∧ ∀ j, j < t.2.1 → gl m (101 + 2 * i) j = t.2.2 j
/-- where the images lie -/
def Cib (s : Sg) (ib : Nat → Nat) (N : Nat) : Prop := (∀ i, i < 2 → (sIm s i = none → ib i = 0) ∧ ((sIm s i).isSome → ib i = 109 ∨ ib i = 123) ∧ ib i < N) ∧ (ib 0 = ib 1 → ib 0 = 0) ∧ ((N = 109 ∧ ib 0 = 0 ∧ ib 1 = 0) ∨ (N = 123 ∧ ((ib 0 = 109 ∧ ib 1 = 0) ∨ (ib 0 = 0 ∧ ib 1 = 109))) ∨ (N = 137 ∧ ib 0 ≠ 0 ∧ ib 1 ≠ 0))
def Cim (s : Sg) (ib : Nat → Nat) (m : Mem) : Prop := ∀ i, i < 2 → gi m 108 i = nI (ib i) ∧ ∀ y, sIm s i = some y → CR y.1 m (ib i + 1) ∧ CL y.1 y.2 m (ib i + 8)
def CI (s : Sg) (e : Nat) (ib : Nat → Nat) (N : Nat) (m : Mem) : Prop := Ctp s m ∧ IC (sR s) (sX s) m 25 ∧ Chs s e m ∧ Crd s m ∧ Ctr s m ∧ Cib s ib N ∧ Cim s ib m
/-- the reference's -/
def Mtp (s : Sg) (m : Mem) : Prop := gi m 0 5 = nI (sNt s) ∧ ∀ i, i < sNt s → gi m 3 i = nI (sTp s i)
def Mhs (s : Sg) (m : Mem) : Prop := gi m 1 162 = nI (sH s).length ∧ ∀ i, i < (sH s).length → ML (sR s) (hg (sH s) i) m 1 (163 + 129 * i)
def Mrd (s : Sg) (m : Mem) : Prop := gi m 0 13 = sFk s ∧ gi m 0 14 = sFp s
def Mtr (s : Sg) (m : Mem) : Prop := ∀ i, i < 4 → match sT s i with
  | none => gi m 14 i = NO
  | some t => gi m 14 i = nI t.1 ∧ gi m 15 i = nI t.2.1 ∧ ∀ j, j < t.2.1 → gl m 16 (40 * i + j) = t.2.2 j
def Mim (s : Sg) (m : Mem) : Prop := ∀ i, i < 2 → match sIm s i with
  | none => gi m 2 i = nI 0
  | some y => gi m 2 i = nI 1 ∧ MR y.1 m 1 (2096 * (i + 1)) ∧ ML y.1 y.2 m 1 (2096 * (i + 1) + 33)
def MI (s : Sg) (m : Mem) : Prop := Mtp s m ∧ IM (sR s) (sX s) m ∧ Mhs s m ∧ Mrd s m ∧ Mtr s m ∧ Mim s m
def Rel (k N : Nat) (mx mm : Mem) : Prop := ∃ s e ib, WS s k ∧ CI s e ib N mx ∧ MI s mm
theorem WL.mono {r : Ru} {x : Lf} {B C : Nat} (h : WL r x B) (hb : B ≤ C) : WL r x C := by
  obtain ⟨h1, h2, h3, h4⟩ := h
  exact ⟨fun p hp => Nat.le_trans (h1 p hp) hb, Nat.le_trans h2 hb, fun p t v hv => Nat.le_trans (h3 p t v hv) hb, h4⟩
theorem bd_le {j k : Nat} (h : j ≤ k) : bd j ≤ bd k := by unfold bd; omega
theorem WS.mono {s : Sg} {j k : Nat} (h : WS s j) (hk : j ≤ k) (h5 : k ≤ 512) : WS s k := by
  obtain ⟨h1, h2, h3, h4, h5, h6, h7, h8, h9⟩ := h
  exact ⟨by assumption, h2, h3, h4, h5.mono (bd_le hk), h6, fun i hi => (h7 i hi).mono (bd_le hk), fun i y hi hy => ⟨(h8 i y hi hy).1, (h8 i y hi hy).2.mono (bd_le hk)⟩, h9⟩
theorem WS.gx {s : Sg} {k : Nat} (h : WS s k) : GX (sR s) (sX s) := ⟨h.2.2.2.1, h.2.2.2.2.1.mono (by have := h.1; unfold bd; omega)⟩
/-- cells of the class that no call leaves anything in -/
def scx (c : Nat) : Prop := (9 ≤ c ∧ c ≤ 24) ∨ (32 ≤ c ∧ c ≤ 38) ∨ (90 ≤ c ∧ c ≤ 98)
def FX (m m2 : Mem) : Prop := (∀ c, ¬ scx c → c ≠ 0 → c ≠ 39 → ∀ j, gi m2 c j = gi m c j ∧ gl m2 c j = gl m c j) ∧ gi m2 0 1 = gi m 0 1 ∧ gi m2 39 3 = gi m 39 3 ∧ gi m2 39 8 = gi m 39 8 ∧ gi m2 39 9 = gi m 39 9
/-- cells of the reference that no call leaves anything in -/
def scm (c : Nat) : Prop := 4 ≤ c ∧ c ≤ 13
def FM (m m2 : Mem) : Prop := (∀ c, ¬ scm c → c ≠ 0 → ∀ j, gi m2 c j = gi m c j ∧ gl m2 c j = gl m c j) ∧ gi m2 0 5 = gi m 0 5 ∧ gi m2 0 13 = gi m 0 13 ∧ gi m2 0 14 = gi m 0 14
theorem FX.rf {m : Mem} : FX m m := ⟨fun _ _ _ _ _ => ⟨rfl, rfl⟩, rfl, rfl, rfl, rfl⟩
theorem FX.tr {m m1 m2 : Mem} (h1 : FX m m1) (h2 : FX m1 m2) : FX m m2 :=
  ⟨fun c a b d j => ⟨((h2.1 c a b d j).1).trans (h1.1 c a b d j).1, ((h2.1 c a b d j).2).trans (h1.1 c a b d j).2⟩, h2.2.1.trans h1.2.1, h2.2.2.1.trans h1.2.2.1, h2.2.2.2.1.trans h1.2.2.2.1, h2.2.2.2.2.trans h1.2.2.2.2⟩
theorem FM.rf {m : Mem} : FM m m := ⟨fun _ _ _ _ => ⟨rfl, rfl⟩, rfl, rfl, rfl⟩
theorem FM.tr {m m1 m2 : Mem} (h1 : FM m m1) (h2 : FM m1 m2) : FM m m2 :=
  ⟨fun c a b j => ⟨((h2.1 c a b j).1).trans (h1.1 c a b j).1, ((h2.1 c a b j).2).trans (h1.1 c a b j).2⟩, h2.2.1.trans h1.2.1, h2.2.2.1.trans h1.2.2.1, h2.2.2.2.trans h1.2.2.2⟩
theorem Fr.fx {S : Nat → Prop} {m m2 : Mem} (h : Fr S m m2) (hs : ∀ c, S c → scx c) : FX m m2 := by
  have k : ∀ c, ¬ scx c → ∀ j, gi m2 c j = gi m c j ∧ gl m2 c j = gl m c j := fun c hc j => h c (fun q => hc (hs c q)) j
  exact ⟨fun c hc _ _ j => k c hc j, (k 0 (by unfold scx; omega) 1).1, (k 39 (by unfold scx; omega) 3).1, (k 39 (by unfold scx; omega) 8).1, (k 39 (by unfold scx; omega) 9).1⟩
theorem Fr.fm {S : Nat → Prop} {m m2 : Mem} (h : Fr S m m2) (hs : ∀ c, S c → scm c) : FM m m2 := by
  have k : ∀ c, ¬ scm c → ∀ j, gi m2 c j = gi m c j ∧ gl m2 c j = gl m c j := fun c hc j => h c (fun q => hc (hs c q)) j
  exact ⟨fun c hc _ j => k c hc j, (k 0 (by unfold scm; omega) 5).1, (k 0 (by unfold scm; omega) 13).1, (k 0 (by unfold scm; omega) 14).1⟩
theorem FM.s0 {m : Mem} {j : Nat} {v : Int32} (h5 : j ≠ 5) (h13 : j ≠ 13) (h14 : j ≠ 14) : FM m (si m 0 j v) :=
  ⟨fun c _ h0 i => ⟨gsn h0, rfl⟩, gsi (by omega), gsi (by omega), gsi (by omega)⟩
theorem MR.fr {r : Ru} {m m2 : Mem} {c o : Nat} (h : MR r m c o) (hf : ∀ j, gi m2 c j = gi m c j) : MR r m2 c o := by
  obtain ⟨h1, h2, h3, h4, h5, h6, h7, h8, h9⟩ := h
  exact ⟨(hf _).trans h1, (hf _).trans h2, (hf _).trans h3, (hf _).trans h4, (hf _).trans h5, fun t ht => (hf _).trans (h6 t ht), fun p hp => (hf _).trans (h7 p hp), h8.fr hf, h9.fr hf⟩
theorem ML.fr {r : Ru} {x : Lf} {m m2 : Mem} {c o : Nat} (h : ML r x m c o) (hf : ∀ j, gi m2 c j = gi m c j) : ML r x m2 c o := by
  obtain ⟨h1, h2, h3, h4⟩ := h
  exact ⟨fun p hp => (hf _).trans (h1 p hp), fun p t hp ht => (hf _).trans (h2 p t hp ht), fun p hp => (hf _).trans (h3 p hp), (hf _).trans h4⟩
theorem CI.fx {s : Sg} {e : Nat} {ib : Nat → Nat} {N : Nat} {m m2 : Mem} (h : CI s e ib N m) (hf : FX m m2) : CI s e ib N m2 := by
  obtain ⟨⟨a1, a2⟩, a3, ⟨a4, a5, a6, a7⟩, ⟨a8, a9, a10⟩, a11, a12, a13⟩ := h
  obtain ⟨f1, f2, f3, f4, f5⟩ := hf
  have k : ∀ c, ¬ scx c → c ≠ 0 → c ≠ 39 → ∀ j, gi m2 c j = gi m c j := fun c x y z j => (f1 c x y z j).1
  refine ⟨⟨f2.trans a1, fun i hi => (k 1 (by unfold scx; omega) (by omega) (by omega) i).trans (a2 i hi)⟩, a3.fr (fun c hc j => k c (by unfold scx; omega) (by omega) (by omega) j), ⟨a4, (k 40 (by unfold scx; omega) (by omega) (by omega) 1).trans a5, (k 40 (by unfold scx; omega) (by omega) (by omega) 2).trans a6, fun i hi => (a7 i hi).fr (fun c h1 h2 j => k c (by unfold scx; omega) (by omega) (by omega) j)⟩, ⟨⟨by rw [f3]; exact a8.1, fun j hj => (k 108 (by unfold scx; omega) (by omega) (by omega) j).trans (a8.2 j hj)⟩, f4.trans a9, f5.trans a10⟩, fun i hi => ?_, a12, fun i hi => ⟨(k 108 (by unfold scx; omega) (by omega) (by omega) i).trans (a13 i hi).1, fun y hy => ?_⟩⟩
  · have q := a11 i hi
    cases ht : sT s i with
    | none =>
      rw [ht] at q
      exact (k _ (by unfold scx; omega) (by omega) (by omega) _).trans q
    | some t =>
      rw [ht] at q
      exact ⟨(k _ (by unfold scx; omega) (by omega) (by omega) _).trans q.1, (k _ (by unfold scx; omega) (by omega) (by omega) _).trans q.2.1, (k _ (by unfold scx; omega) (by omega) (by omega) _).trans q.2.2.1, fun j hj => ((f1 _ (by unfold scx; omega) (by omega) (by omega) _).2).trans (q.2.2.2 j hj)⟩
  · have q := (a13 i hi).2 y hy
    have hb := (a12.1 i hi).2.1 (by rw [hy]; rfl)
    exact ⟨q.1.fr (fun c h1 h2 j => k c (by unfold scx; omega) (by omega) (by omega) j), q.2.fr (fun c h1 h2 j => k c (by unfold scx; omega) (by omega) (by omega) j)⟩
theorem MI.fm {s : Sg} {m m2 : Mem} (h : MI s m) (hf : FM m m2) : MI s m2 := by
  obtain ⟨⟨a1, a2⟩, a3, ⟨a4, a5⟩, ⟨a6, a7⟩, a8, a9⟩ := h
  obtain ⟨f1, f2, f3, f4⟩ := hf
  have k : ∀ c, ¬ scm c → c ≠ 0 → ∀ j, gi m2 c j = gi m c j := fun c x y j => (f1 c x y j).1
  have k1 := k 1 (by unfold scm; omega) (by omega)
  refine ⟨⟨f2.trans a1, fun i hi => (k 3 (by unfold scm; omega) (by omega) i).trans (a2 i hi)⟩, a3.fr k1, ⟨(k1 _).trans a4, fun i hi => (a5 i hi).fr k1⟩, ⟨f3.trans a6, f4.trans a7⟩, fun i hi => ?_, fun i hi => ?_⟩
  · have q := a8 i hi
    cases ht : sT s i with
    | none =>
      rw [ht] at q
      exact (k 14 (by unfold scm; omega) (by omega) _).trans q
    | some t =>
      rw [ht] at q
      exact ⟨(k 14 (by unfold scm; omega) (by omega) _).trans q.1, (k 15 (by unfold scm; omega) (by omega) _).trans q.2.1, fun j hj => ((f1 16 (by unfold scm; omega) (by omega) _).2).trans (q.2.2 j hj)⟩
  · have q := a9 i hi
    cases ht : sIm s i with
    | none =>
      rw [ht] at q
      exact (k 2 (by unfold scm; omega) (by omega) _).trans q
    | some y =>
      rw [ht] at q
      exact ⟨(k 2 (by unfold scm; omega) (by omega) _).trans q.1, q.2.1.fr k1, q.2.2.fr k1⟩
theorem Rel.rd {s : Sg} {e : Nat} {ib : Nat → Nat} {k N : Nat} {mx mm mx2 mm2 : Mem} (hk : k < 512) (hw : WS s k) (hc : CI s e ib N mx) (hm : MI s mm) (hx : FX mx mx2) (hy : FM mm mm2) : Rel (k + 1) N mx2 mm2 :=
  ⟨s, e, ib, hw.mono (by omega) (by omega), hc.fx hx, hm.fm hy⟩
