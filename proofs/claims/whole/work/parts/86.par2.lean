/-! sums and truths -/
def LWs (lw f : Nat) (cd : List Nat) (mx mm : Mem) : Prop := gi mx 39 3 = nI lw ∧ LawC mx lw cd ∧ gi mm 4 1195 = nI (f + cd.length) ∧ ∀ i, i < cd.length → gi mm 4 (1196 + f + i) = nI (cd.getD i 0)
def DL (lw : Nat) (mx : Mem) : Prop := gi mx 39 3 = nI lw ∧ ∃ n, n ≤ 900 ∧ gi mx lw 1 = nI n
def FCx (lw : Nat) (m m2 : Mem) : Prop := Fr (fun c => c = 39 ∨ c = lw ∨ c = lw + 1) m m2 ∧ ∀ j, (j < 5 ∨ ((j = 8 ∨ j = 9) ∧ gi m2 39 8 = nI 0)) → gi m2 39 j = gi m 39 j
def FMx (N : Nat) (m m2 : Mem) : Prop := Fr (fun c => c = 0 ∨ c = 4) m m2 ∧ (∀ j, j ≠ 6 → j ≠ 7 → j ≠ 9 → j ≠ 10 → j ≠ 11 → j ≠ 12 → gi m2 0 j = gi m 0 j) ∧ (∀ j, j < 1195 → gi m2 4 j = gi m 4 j) ∧ ∀ j, j < N → gi m2 4 (1196 + j) = gi m 4 (1196 + j)
theorem FCx.rf {lw : Nat} {m : Mem} : FCx lw m m := ⟨Fr.rf, fun _ _ => rfl⟩
theorem FCx.tr {lw : Nat} {m m1 m2 : Mem} (h1 : FCx lw m m1) (h2 : FCx lw m1 m2) : FCx lw m m2 := ⟨h1.1.tr h2.1, fun j a => by
  have k : j < 5 ∨ ((j = 8 ∨ j = 9) ∧ gi m1 39 8 = nI 0) := a.imp id (fun q => ⟨q.1, by rw [← h2.2 8 (Or.inr ⟨Or.inl rfl, q.2⟩)]; exact q.2⟩)
  rw [h2.2 j a, h1.2 j k]⟩
theorem FMx.rf {N : Nat} {m : Mem} : FMx N m m := ⟨Fr.rf, fun _ _ _ _ _ _ _ => rfl, fun _ _ => rfl, fun _ _ => rfl⟩
theorem FMx.tr {N N2 : Nat} {m m1 m2 : Mem} (h1 : FMx N m m1) (h2 : FMx N2 m1 m2) (hN : N ≤ N2) : FMx N m m2 := ⟨h1.1.tr h2.1, fun j a b c d e f => by rw [h2.2.1 j a b c d e f, h1.2.1 j a b c d e f], fun j a => by rw [h2.2.2.1 j a, h1.2.2.1 j a], fun j a => by rw [h2.2.2.2 j (by omega), h1.2.2.2 j a]⟩
theorem GC.x {lw : Nat} {m m2 : Mem} (h : GC m m2) : FCx lw m m2 := ⟨h.1.mono (fun c q => Or.inl q), h.2⟩
theorem GM.x {N : Nat} {m m2 : Mem} (h : GM m m2) : FMx N m m2 := ⟨h.1.mono (fun c q => Or.inl q), h.2, fun j _ => (h.1 4 (by omega) j).1, fun j _ => (h.1 4 (by omega) _).1⟩
theorem LWs.g {lw f : Nat} {cd : List Nat} {mx mm mx2 mm2 : Mem} (hw : lw = 12 ∨ lw = 14) (h : LWs lw f cd mx mm) (g : GC mx mx2) (g2 : GM mm mm2) : LWs lw f cd mx2 mm2 := by
  obtain ⟨h1, h2, h3, h4⟩ := h
  refine ⟨by rw [g.2 3 (by omega), h1], ⟨by rw [(g.1 lw (by omega) 1).1]; exact h2.1, h2.2.1, fun i hi => by rw [(g.1 (lw + 1) (by omega) i).1]; exact h2.2.2 i hi⟩, by rw [(g2.1 4 (by omega) _).1, h3], fun i hi => by rw [(g2.1 4 (by omega) _).1, h4 i hi]⟩
theorem LWs.dl {lw f : Nat} {cd : List Nat} {mx mm mx2 : Mem} (hw : lw = 12 ∨ lw = 14) (h : LWs lw f cd mx mm) (g : GC mx mx2) : DL lw mx2 := ⟨by rw [g.2 3 (by omega), h.1], cd.length, h.2.1.2.1, by rw [(g.1 lw (by omega) 1).1]; exact h.2.1.1⟩
theorem DL.g {lw : Nat} {mx mx2 : Mem} (hw : lw = 12 ∨ lw = 14) (h : DL lw mx) (g : GC mx mx2) : DL lw mx2 := by
  obtain ⟨h1, n, h2, h3⟩ := h
  exact ⟨by rw [g.2 3 (by omega), h1], n, h2, by rw [(g.1 lw (by omega) 1).1]; exact h3⟩
theorem TL.fr {tb : Nat → Nat} {L a b C K v : Nat} {mx mm mx2 mm2 : Mem} (h : TL tb L a b C K v mx mm) (g : ∀ c, c = 1 ∨ c = 39 → ∀ j, gi mx2 c j = gi mx c j) (g2 : ∀ c, c = 0 ∨ c = 3 → ∀ j, gi mm2 c j = gi mm c j) : TL tb L a b C K v mx2 mm2 := by
  obtain ⟨h1, ⟨⟨a1, a2⟩, a3, a4, a5⟩, ⟨⟨b1, b2⟩, b3, b4, b5, b6⟩, h4, h5⟩ := h
  refine ⟨h1, ⟨⟨?_, fun i hi => ?_⟩, ?_, ?_, ?_⟩, ⟨⟨?_, fun i hi => ?_⟩, ?_, ?_, ?_, fun q => ?_⟩, ?_, ?_⟩
  · rw [g 39 (by omega)]; exact a1
  · rw [g 1 (by omega)]; exact a2 i hi
  · rw [g 39 (by omega)]; exact a3
  · rw [g 39 (by omega)]; exact a4
  · rw [g 39 (by omega)]; exact a5
  · rw [g2 0 (by omega)]; exact b1
  · rw [g2 3 (by omega)]; exact b2 i hi
  · rw [g2 0 (by omega)]; exact b3
  · rw [g2 0 (by omega)]; exact b4
  · rw [g2 0 (by omega)]; exact b5
  · rw [g2 0 (by omega)]; exact b6 q
  · rw [g 39 (by omega)]; exact h4
  · rw [g2 0 (by omega)]; exact h5
/-- one step more -/
theorem adds {tb : Nat → Nat} {L a b C K v lw f u : Nat} {cd : List Nat} {w : Int32} {mx mm : Mem} (hw : lw = 12 ∨ lw = 14) (ht : TL tb L a b C K v mx mm) (h : LWs lw f cd mx mm) (hl : f + cd.length < 900) (hu : w = ccode u) : ∃ mx' mm', X4_add lw w mx = some ((), mx') ∧ X12_codes (nI u) mm = some ((), mm') ∧ TL tb L a b C K v mx' mm' ∧ LWs lw f (cd ++ [u]) mx' mm' ∧ FCx lw mx mx' ∧ FMx (f + cd.length) mm mm' := by
  obtain ⟨h1, h2, h3, h4⟩ := h
  obtain ⟨mx', e1, e2, e3⟩ := c_add hu h2 (by omega)
  have em : X12_codes (nI u) mm = some ((), si (si mm 4 (1196 + (f + cd.length)) (nI u)) 4 1195 (nI (f + cd.length + 1))) := by
    rw [X12_codes, K0, ht.2.2.2.2, if_pos rfl, K1195, K1196, chk_in (by omega) (by omega), ix_nI (by omega), h3, nadd, chk_in (by omega) (by omega), ix_nI (by omega), lq, chk_in (by omega) (by omega), chk_in (by omega) (by omega), gsi (by omega), h3, K1, nadd, lq]
  have gx : ∀ c, c = 1 ∨ c = 39 → ∀ j, gi mx' c j = gi mx c j := fun c hc j => (e3 c (by unfold s01; omega) j).1
  refine ⟨mx', _, e1, em, ht.fr gx (fun c hc j => by rw [gsn (by omega), gsn (by omega)]), ⟨by rw [gx 39 (by omega), h1], e2, by rw [gss, List.length_append]; rfl, fun i hi => ?_⟩, ⟨e3.mono (fun c q => by unfold s01 at q; omega), fun j _ => gx 39 (by omega) j⟩, ⟨(Fr.si (Or.inr rfl)).tr (Fr.si (Or.inr rfl)), fun j _ _ _ _ _ _ => by rw [gsn (by omega), gsn (by omega)], fun j hj => by rw [gsi (by omega), gsi (by omega)], fun j hj => by rw [gsi (by omega), gsi (by omega)]⟩⟩
  rw [List.length_append] at hi
  have hi : i < cd.length + 1 := hi
  rw [gsi (by omega)]
  by_cases he : i = cd.length
  · subst he
    rw [Nat.add_assoc, gss, gdr]
  · rw [gsi (by omega), gdl (by omega)]
    exact h4 i (by omega)
theorem addd {lw : Nat} {w : Int32} {mx mm : Mem} (hw : lw = 12 ∨ lw = 14) (hd : DD mx mm) (h : DL lw mx) : ∃ mx', X4_add lw w mx = some ((), mx') ∧ DD mx' mm ∧ DL lw mx' ∧ FCx lw mx mx' := by
  obtain ⟨h1, n, h2, h3⟩ := h
  rw [X4_add, h3, K900]
  by_cases hn : n = 900
  · rw [jle_t (by omega) (by omega)]
    exact ⟨mx, rfl, hd, ⟨h1, n, h2, h3⟩, FCx.rf⟩
  · rw [jle_f (by omega) (by omega), chk_in (by omega) (by omega), ix_nI (by omega), lq, gsn (by omega), h3, K1, nadd, lq]
    obtain ⟨w', pl, d1, d2, d3, d4, d5, d6, d7⟩ := hd
    refine ⟨_, rfl, ⟨w', pl, d1, d2, d3, by rw [gsn (by omega), gsn (by omega)]; exact d4, by rw [gsn (by omega), gsn (by omega)]; exact d5, d6, d7⟩, ⟨by rw [gsn (by omega), gsn (by omega), h1], n + 1, by omega, gss⟩, ⟨(Fr.si (Or.inr (Or.inr rfl))).tr (Fr.si (Or.inr (Or.inl rfl))), fun j _ => by rw [gsn (by omega), gsn (by omega)]⟩⟩
theorem okw2 {lw : Nat} (hw : lw = 12 ∨ lw = 14) : okl (nI lw) = true ∧ ix (nI lw) = lw := by
  rcases hw with h | h <;> subst h <;> decide
/-- what a stretch of a law leaves -/
def Typ (c : List Nat) (ty : Bool) (h : Nat) : Prop := ∀ st rest, st.length + h ≤ 19 → tyc (c ++ rest) st = tyc rest (ty :: st)
theorem Typ.mono {c : List Nat} {ty : Bool} {h h2 : Nat} (t : Typ c ty h) (hh : h ≤ h2) : Typ c ty h2 := fun st rest hs => t st rest (by omega)
theorem Typ.num {v h : Nat} (hv : v < 1007) (hv2 : v < 1000 ∨ 1000 ≤ v) : Typ [v] false h := fun st rest hs => by
  show tyc (v :: rest) st = _
  conv => lhs; unfold tyc
  rw [if_pos (by omega)]
  by_cases h1 : v < 1000
  · rw [if_pos h1]
  · rw [if_neg h1, if_pos (by omega)]
theorem Typ.bin {c c2 : List Nat} {h h2 op : Nat} (t : Typ c false h) (t2 : Typ c2 false h2) (hh : h2 + 1 ≤ h) (h2' : 2 ≤ h) (ho : op = 3000 ∨ op = 3001 ∨ op = 3002) : Typ (c ++ c2 ++ [op]) false h := fun st rest hs => by
  rw [List.append_assoc, List.append_assoc, t st _ hs, t2 (false :: st) _ (by rw [List.length_cons]; omega)]
  show tyc (op :: rest) (false :: false :: st) = _
  rw [tyc, if_pos (by rw [List.length_cons, List.length_cons]; omega), if_neg (by omega), if_neg (by omega)]
  show (if op = 3000 ∨ op = 3001 ∨ op = 3002 then _ else _) = _
  rw [if_pos ho]
theorem Typ.cmp {c c2 : List Nat} {h h2 op : Nat} (t : Typ c false h) (t2 : Typ c2 false h2) (hh : h2 + 1 ≤ h) (h2' : 2 ≤ h) (ho : op = 3003 ∨ op = 3004 ∨ op = 3005) : Typ (c ++ c2 ++ [op]) true h := fun st rest hs => by
  rw [List.append_assoc, List.append_assoc, t st _ hs, t2 (false :: st) _ (by rw [List.length_cons]; omega)]
  show tyc (op :: rest) (false :: false :: st) = _
  rw [tyc, if_pos (by rw [List.length_cons, List.length_cons]; omega), if_neg (by omega), if_neg (by omega)]
  show (if op = 3000 ∨ op = 3001 ∨ op = 3002 then _ else if op = 3003 ∨ op = 3004 ∨ op = 3005 then _ else _) = _
  rw [if_neg (by omega), if_pos ho]
theorem Typ.log {c c2 : List Nat} {h h2 op : Nat} (t : Typ c true h) (t2 : Typ c2 true h2) (hh : h2 + 1 ≤ h) (h2' : 2 ≤ h) (ho : op = 3006 ∨ op = 3007) : Typ (c ++ c2 ++ [op]) true h := fun st rest hs => by
  rw [List.append_assoc, List.append_assoc, t st _ hs, t2 (true :: st) _ (by rw [List.length_cons]; omega)]
  show tyc (op :: rest) (true :: true :: st) = _
  rw [tyc, if_pos (by rw [List.length_cons, List.length_cons]; omega), if_neg (by omega), if_neg (by omega)]
  show (if op = 3008 then _ else if op = 3006 ∨ op = 3007 then _ else _) = _
  rw [if_neg (by omega), if_pos ho]
theorem Typ.nt {c : List Nat} {h : Nat} (t : Typ c true h) (h2' : 1 ≤ h) : Typ (c ++ [3008]) true h := fun st rest hs => by
  rw [List.append_assoc, t st _ hs]
  show tyc (3008 :: rest) (true :: st) = _
  conv => lhs; unfold tyc
  rw [if_pos (by rw [List.length_cons]; omega), if_neg (by omega), if_neg (by omega)]
  show (if 3008 = 3008 then _ else _) = _
  rw [if_pos rfl]
def Oc (tb : Nat → Nat) (L lw : Nat) (ty : Bool) (h f : Nat) (cd : List Nat) (a0 k0 N : Nat) (mx0 mm0 : Mem) (rc : Option (Int32 × Mem)) (rm : Option (Unit × Mem)) : Prop :=
  (∃ a' b' C' K' v' c mx' mm', rc = some (nI 1, mx') ∧ rm = some ((), mm') ∧ TL tb L a' b' C' K' v' mx' mm' ∧ LWs lw f (cd ++ c) mx' mm' ∧ Typ c ty h ∧ a0 + c.length ≤ a' + k0 ∧ FCx lw mx0 mx' ∧ FMx N mm0 mm') ∨ (∃ mx' mm', rc = some (nI 0, mx') ∧ rm = some ((), mm') ∧ DD mx' mm' ∧ DL lw mx' ∧ FCx lw mx0 mx' ∧ FMx N mm0 mm')
def Sim (tb : Nat → Nat) (L lw : Nat) (ty : Bool) (h deep : Nat) (fc : Int32 → Mem → Option (Int32 × Mem)) (fm : Int32 → Mem → Option (Unit × Mem)) : Prop := ∀ a b C K v f cd mx mm, TL tb L a b C K v mx mm → LWs lw f cd mx mm → f + cd.length ≤ a → Oc tb L lw ty h f cd a 0 (f + cd.length) mx mm (fc (nI deep) mx) (fm (nI deep) mm)
