/-! the reference's life, changed -/
def FL (S : Nat → Prop) (m m2 : Mem) : Prop := (∀ c, ¬ S c → c ≠ 1 → ∀ j, gi m2 c j = gi m c j ∧ gl m2 c j = gl m c j) ∧ ∀ j, (j < 33 ∨ 162 ≤ j) → gi m2 1 j = gi m 1 j
theorem FL.rf {S : Nat → Prop} {m : Mem} : FL S m m := ⟨fun _ _ _ _ => ⟨rfl, rfl⟩, fun _ _ => rfl⟩
theorem FL.tr {S : Nat → Prop} {m m1 m2 : Mem} (h1 : FL S m m1) (h2 : FL S m1 m2) : FL S m m2 :=
  ⟨fun c a b j => ⟨((h2.1 c a b j).1).trans (h1.1 c a b j).1, ((h2.1 c a b j).2).trans (h1.1 c a b j).2⟩, fun j hj => (h2.2 j hj).trans (h1.2 j hj)⟩
theorem FL.mono {S S2 : Nat → Prop} {m m1 : Mem} (h : FL S m m1) (hs : ∀ c, S c → S2 c) : FL S2 m m1 := ⟨fun c a b j => h.1 c (fun q => a (hs c q)) b j, h.2⟩
theorem FL.s1 {S : Nat → Prop} {m : Mem} {j : Nat} {v : Int32} (h1 : 33 ≤ j) (h2 : j < 162) : FL S m (si m 1 j v) := ⟨fun c _ b i => ⟨gsn b, rfl⟩, fun i hi => gsi (by omega)⟩
theorem Fr.fl {S : Nat → Prop} {m m2 : Mem} (h : Fr S m m2) (h1 : ¬ S 1) : FL S m m2 := ⟨fun c a _ j => h c a j, fun j _ => (h 1 h1 j).1⟩
theorem MLaw.fl {m m2 : Mem} {k : Nat} {cd : Option (List Nat)} (hk : k < 2) (h : MLaw m 1 0 k cd) (hf : ∀ j, (j < 33 ∨ 1196 ≤ j) → gi m2 1 j = gi m 1 j) : MLaw m2 1 0 k cd := by
  cases cd with
  | none => exact (hf _ (by omega)).trans h
  | some cd =>
    obtain ⟨h1, h2, f, h3, h4, h5⟩ := h
    exact ⟨(hf _ (by omega)).trans h1, (hf _ (by omega)).trans h2, f, (hf _ (by omega)).trans h3, h4, fun i hi => (hf _ (by omega)).trans (h5 i hi)⟩
theorem MR.fl {r : Ru} {m m2 : Mem} (hT : rT r ≤ 14) (hP : rP r ≤ 8) (h : MR r m 1 0) (hf : ∀ j, (j < 33 ∨ 1196 ≤ j) → gi m2 1 j = gi m 1 j) : MR r m2 1 0 := by
  obtain ⟨h1, h2, h3, h4, h5, h6, h7, h8, h9⟩ := h
  exact ⟨(hf _ (by omega)).trans h1, (hf _ (by omega)).trans h2, (hf _ (by omega)).trans h3, (hf _ (by omega)).trans h4, (hf _ (by omega)).trans h5, fun t ht => (hf _ (by omega)).trans (h6 t ht), fun p hp => (hf _ (by omega)).trans (h7 p hp), h8.fl (by omega) hf, h9.fl (by omega) hf⟩
theorem im_wst {r : Ru} {x : Lf} {m : Mem} (hT : rT r ≤ 14) (hP : rP r ≤ 8) (h : IM r x m) {p t : Nat} (hp : p < rP r) (ht : t < rT r) (o : Option Nat) : IM r (st x p t o) (si m 1 (41 + 14 * p + t) (oN o)) := by
  refine ⟨h.1.fl hT hP (fun j hj => gsi (by omega)), fun i hi => ?_, fun i u hi hu => ?_, fun i hi => ?_, ?_⟩
  · rw [gsi (by omega)]; exact h.age hi
  · by_cases hb : i = p ∧ u = t
    · obtain ⟨rfl, rfl⟩ := hb
      rw [lsn_st, if_pos ⟨rfl, rfl⟩]
      exact gss
    · rw [lsn_st, if_neg hb, gsi (by omega)]
      exact h.sn hi hu
  · rw [gsi (by omega)]; exact h.wed hi
  · rw [gsi (by omega)]; exact h.yr
def IM.wst := @im_wst
theorem im_wag {r : Ru} {x : Lf} {m : Mem} (hT : rT r ≤ 14) (hP : rP r ≤ 8) (h : IM r x m) {p : Nat} (hp : p < rP r) (v : Nat) : IM r (sag x p v) (si m 1 (33 + p) (nI v)) := by
  refine ⟨h.1.fl hT hP (fun j hj => gsi (by omega)), fun i hi => ?_, fun i u hi hu => ?_, fun i hi => ?_, ?_⟩
  · by_cases hb : i = p
    · subst hb
      show _ = nI (if i = i then v else lag x i)
      rw [if_pos rfl]
      exact gss
    · show _ = nI (if i = p then v else lag x i)
      rw [if_neg hb, gsi (by omega)]
      exact h.age hi
  · rw [gsi (by omega)]; exact h.sn hi hu
  · rw [gsi (by omega)]; exact h.wed hi
  · rw [gsi (by omega)]; exact h.yr
def IM.wag := @im_wag
theorem im_wmt {r : Ru} {x : Lf} {m : Mem} (hT : rT r ≤ 14) (hP : rP r ≤ 8) (h : IM r x m) {p : Nat} (hp : p < rP r) (o : Option Nat) : IM r (smt x p o) (si m 1 (153 + p) (oN o)) := by
  refine ⟨h.1.fl hT hP (fun j hj => gsi (by omega)), fun i hi => ?_, fun i u hi hu => ?_, fun i hi => ?_, ?_⟩
  · rw [gsi (by omega)]; exact h.age hi
  · rw [gsi (by omega)]; exact h.sn hi hu
  · by_cases hb : i = p
    · subst hb
      show _ = oN (if i = i then o else lmt x i)
      rw [if_pos rfl]
      exact gss
    · show _ = oN (if i = p then o else lmt x i)
      rw [if_neg hb, gsi (by omega)]
      exact h.wed hi
  · rw [gsi (by omega)]; exact h.yr
def IM.wmt := @im_wmt
theorem im_wyr {r : Ru} {x : Lf} {m : Mem} (hT : rT r ≤ 14) (hP : rP r ≤ 8) (h : IM r x m) (v : Nat) : IM r (syr x v) (si m 1 161 (nI v)) := by
  refine ⟨h.1.fl hT hP (fun j hj => gsi (by omega)), fun i hi => ?_, fun i u hi hu => ?_, fun i hi => ?_, ?_⟩
  · rw [gsi (by omega)]; exact h.age hi
  · rw [gsi (by omega)]; exact h.sn hi hu
  · rw [gsi (by omega)]; exact h.wed hi
  · exact gss
def IM.wyr := @im_wyr
/-! the class's, likewise -/
theorem ic_wag {r : Ru} {x : Lf} {m : Mem} {a : Nat} (ha : 25 ≤ a) (h : IC r x m a) {p : Nat} (v : Nat) : IC r (sag x p v) (si m (a + 1 + 1) p (nI v)) a := by
  refine ⟨h.1.fr (fun c _ _ j => gsn (by omega)), ?_, fun i hi => ?_, fun i hi => ?_, fun i hi => ?_, fun u hu => ?_, fun i u w hi hu hw => ?_⟩
  · rw [gsn (by omega)]; exact h.yr
  · by_cases hb : i = p
    · subst hb
      show _ = nI (if i = i then v else lag x i)
      rw [if_pos rfl]
      exact gss
    · show _ = nI (if i = p then v else lag x i)
      rw [if_neg hb, gsi (by omega)]
      exact h.age hi
  · rw [gsn (by omega)]; exact h.mate hi
  · rw [gsn (by omega)]; exact h.list hi
  · rw [gsn (by omega)]; exact h.who hu
  · rw [gsn (by omega)]; exact h.held hi hu hw
def IC.wag := @ic_wag
theorem ic_wmt {r : Ru} {x : Lf} {m : Mem} {a : Nat} (ha : 25 ≤ a) (h : IC r x m a) {p : Nat} (o : Option Nat) : IC r (smt x p o) (si m (a + 1 + 2) p (oN o)) a := by
  refine ⟨h.1.fr (fun c _ _ j => gsn (by omega)), ?_, fun i hi => ?_, fun i hi => ?_, fun i hi => ?_, fun u hu => ?_, fun i u w hi hu hw => ?_⟩
  · rw [gsn (by omega)]; exact h.yr
  · rw [gsn (by omega)]; exact h.age hi
  · by_cases hb : i = p
    · subst hb
      show _ = oN (if i = i then o else lmt x i)
      rw [if_pos rfl]
      exact gss
    · show _ = oN (if i = p then o else lmt x i)
      rw [if_neg hb, gsi (by omega)]
      exact h.mate hi
  · rw [gsn (by omega)]; exact h.list hi
  · rw [gsn (by omega)]; exact h.who hu
  · rw [gsn (by omega)]; exact h.held hi hu hw
def IC.wmt := @ic_wmt
theorem ic_wyr {r : Ru} {x : Lf} {m : Mem} {a : Nat} (ha : 25 ≤ a) (h : IC r x m a) (v : Nat) : IC r (syr x v) (si m (a + 1) 0 (nI v)) a := by
  refine ⟨h.1.fr (fun c _ _ j => gsn (by omega)), gss, fun i hi => ?_, fun i hi => ?_, fun i hi => ?_, fun u hu => ?_, fun i u w hi hu hw => ?_⟩
  · rw [gsn (by omega)]; exact h.age hi
  · rw [gsn (by omega)]; exact h.mate hi
  · rw [gsn (by omega)]; exact h.list hi
  · rw [gsn (by omega)]; exact h.who hu
  · rw [gsn (by omega)]; exact h.held hi hu hw
def IC.wyr := @ic_wyr
/-- held, written where the thing is on the list -/
theorem ic_whd {r : Ru} {x : Lf} {m : Mem} {a : Nat} (ha : 25 ≤ a) (hT : rT r ≤ 14) (h : IC r x m a) {p t v0 : Nat} (hp : p < rP r) (ht : t < rT r) (hv : lsn x p t = some v0) (v : Nat) : IC r (st x p t (some v)) (si m (a + 1 + 5) (p * 14 + t) (nI v)) a := by
  have e1 : ∀ i u, has (st x p t (some v)) i u = has x i u := fun i u => by
    rw [has_st]
    by_cases hb : i = p ∧ u = t
    · obtain ⟨rfl, rfl⟩ := hb
      rw [if_pos ⟨rfl, rfl⟩, has, hv]; rfl
    · rw [if_neg hb]
  refine ⟨h.1.fr (fun c _ _ j => gsn (by omega)), ?_, fun i hi => ?_, fun i hi => ?_, fun i hi => ?_, fun u hu => ?_, fun i u w hi hu hw => ?_⟩
  · rw [gsn (by omega)]; exact h.yr
  · rw [gsn (by omega)]; exact h.age hi
  · rw [gsn (by omega)]; exact h.mate hi
  · rw [gsn (by omega), ls_eq (y := x) (q := i) (fun u _ => e1 i u)]; exact h.list hi
  · rw [gsn (by omega), wh_eq (y := x) (u := u) (fun i _ => e1 i u)]; exact h.who hu
  · by_cases hb : i = p ∧ u = t
    · obtain ⟨rfl, rfl⟩ := hb
      rw [lsn_st, if_pos ⟨rfl, rfl⟩] at hw
      injection hw with hw
      subst hw
      exact gss
    · rw [lsn_st, if_neg hb] at hw
      rw [gsi (pl_ne (by omega) (by omega) hb)]
      exact h.held hi hu hw
def IC.whd := @ic_whd
