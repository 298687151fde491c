def rnw (R : Rf) (a : Nat) : Rf := fun b j => if b = a then none else R b j
def okP (N : Nat) (v : Value) : Prop := match v with
  | .ref a => a < N
  | _ => True
theorem okR {N a : Nat} (h : a < N) : okP N (.ref a) := h
def cdd (x : Sh) (j : Nat) : Prop := match x with
  | .inl c => ¬ fK c j = 0 ∧ ¬ fK c j = 1
  | .inr q => ¬ q.1 < 6
def NK (S : Nat → Sh) (N : Nat) (R : Rf) (m : Mem) : Prop := ∀ k, k < N → (∀ j b, R k j = some b → b < N) ∧ (∀ j b, cdd (S k) j → dcr (gi m k j) = some b → b < N)
theorem mv_ok {G : Gt} {ad ad2 : Nat → Nat} {N : Nat} (h : ∀ k, k < N → ad2 k = ad k) {v : Value} (hv : okP N v) : mv G ad2 v = mv G ad v := by
  cases v with
  | ref a => show Value.ref (ad2 a) = Value.ref (ad a); rw [h a hv]
  | _ => rfl
theorem map_ok {G : Gt} {ad ad2 : Nat → Nat} {N : Nat} (h : ∀ k, k < N → ad2 k = ad k) {st : List Value} (hs : ∀ v ∈ st, okP N v) : st.map (mv G ad2) = st.map (mv G ad) := List.map_congr_left (fun v hv => mv_ok h (hs v hv))
theorem lr_ok {G : Gt} {ad ad2 : Nat → Nat} {N : Nat} (h : ∀ k, k < N → ad2 k = ad k) {L : List (Nat × Value)} (hs : ∀ q ∈ L, okP N q.2) {ls : Array Slot} {nL : Nat} (hL : Lr G ad ls nL L) : Lr G ad2 ls nL L := by
  unfold Lr at hL ⊢
  rw [show L.map (fun q => (q.1, mv G ad2 q.2)) = L.map (fun q => (q.1, mv G ad q.2)) from List.map_congr_left (fun q hq => by rw [mv_ok h (hs q hq)])]
  exact hL
theorem wl_ad {G : Gt} {S : Nat → Sh} {ad ad2 : Nat → Nat} {N : Nat} {R : Rf} {m : Mem} (hk : NK S N R m) (h : ∀ k, k < N → ad2 k = ad k) : wl G S ad2 N R m = wl G S ad N R m := by
  refine wl_cong (fun k hkN => ⟨h k hkN, ?_⟩)
  obtain ⟨h1, h2⟩ := hk k hkN
  have e1 : ∀ j, (R k j).map ad2 = (R k j).map ad := fun j => by
    cases hr : R k j with
    | none => rfl
    | some b => show some (ad2 b) = some (ad b); rw [h b (h1 j b hr)]
  have e2 : ∀ j, cdd (S k) j → (dcr (gi m k j)).map ad2 = (dcr (gi m k j)).map ad := fun j hc => by
    cases hr : dcr (gi m k j) with
    | none => rfl
    | some b => show some (ad2 b) = some (ad b); rw [h b (h2 j b hc hr)]
  cases hs : S k with
  | inl c =>
    rw [hs] at e2
    simp only [entS]
    congr 3
    funext j
    unfold fv
    by_cases q0 : fK c j = 0
    · rw [if_pos q0, if_pos q0]
    · rw [if_neg q0, if_neg q0]
      by_cases q1 : fK c j = 1
      · rw [if_pos q1, if_pos q1, e1]
      · rw [if_neg q1, if_neg q1, e2 j ⟨q0, q1⟩]
  | inr q =>
    obtain ⟨ty, n⟩ := q
    rw [hs] at e2
    simp only [entS]
    congr 3
    by_cases q0 : ty < 3
    · rw [if_pos q0, if_pos q0]
    · rw [if_neg q0, if_neg q0]
      by_cases q1 : ty = 3
      · rw [if_pos q1, if_pos q1]
      · rw [if_neg q1, if_neg q1]
        by_cases q2 : ty < 6
        · rw [if_pos q2, if_pos q2]; simp only [e1]
        · rw [if_neg q2, if_neg q2]; simp only [fun j => e2 j q2]
theorem wl_nw {G : Gt} {S : Nat → Sh} {ad : Nat → Nat} {N : Nat} {R : Rf} {m : Mem} : wl G S ad N (rnw R N) (nw m N) = wl G S ad N R m := by
  refine wl_cong (fun k hkN => ⟨rfl, ?_⟩)
  have hne : k ≠ N := by omega
  exact entS_cong (by funext j; simp [gi, nw, hne]) (by funext j; simp [gl, nw, hne]) (by funext j; simp [rnw, hne]) _
theorem NK.new {S : Nat → Sh} {N : Nat} {R : Rf} {m : Mem} (h : NK S N R m) : NK S (N + 1) (rnw R N) (nw m N) := by
  intro k hk
  by_cases hn : k = N
  · subst hn
    exact ⟨fun j b hb => by simp [rnw] at hb, fun j b _ hb => by simp [gi, nw, dcr] at hb⟩
  · obtain ⟨h1, h2⟩ := h k (by omega)
    exact ⟨fun j b hb => by simp only [rnw, if_neg hn] at hb; have := h1 j b hb; omega, fun j b hc hb => by simp only [gi, nw, if_neg hn] at hb; have := h2 j b hc hb; omega⟩
theorem NK.up {S : Nat → Sh} {N a j b : Nat} {R : Rf} {m : Mem} (h : NK S N R m) (hb : b < N) : NK S N (up2 R a j (some b)) m := by
  intro k hk
  obtain ⟨h1, h2⟩ := h k hk
  refine ⟨fun i c hc => ?_, h2⟩
  unfold up2 at hc
  split at hc
  · cases hc; exact hb
  · exact h1 i c hc
abbrev sI (m : Mem) (a j : Nat) (v : Int32) : Mem := si m a j v
theorem NK.si {S : Nat → Sh} {N a j : Nat} {v : Int32} {R : Rf} {m : Mem} (h : NK S N R m) (ha : ¬ cdd (S a) j) : NK S N R (sI m a j v) := by
  intro k hk
  obtain ⟨h1, h2⟩ := h k hk
  refine ⟨h1, fun i b hc hb => ?_⟩
  have hne : ¬ (k = a ∧ i = j) := fun q => ha (by rw [← q.1, ← q.2]; exact hc)
  rw [gi_si, if_neg hne] at hb
  exact h2 i b hc hb
theorem NK.sd {S : Nat → Sh} {N a j b : Nat} {R : Rf} {m : Mem} (h : NK S N R m) (hb : b < N) (hd : dcr (nI b) = some b) : NK S N R (sI m a j (nI b)) := by
  intro k hk
  obtain ⟨h1, h2⟩ := h k hk
  refine ⟨h1, fun i c hc hb2 => ?_⟩
  rw [gi_si] at hb2
  split at hb2
  · rw [hd] at hb2; cases hb2; exact hb
  · exact h2 i c hc hb2
theorem NK.m {S : Nat → Sh} {N : Nat} {R : Rf} {m m2 : Mem} (h : NK S N R m) (h2 : ∀ k, k < N → ∀ j, cdd (S k) j → gi m2 k j = gi m k j) : NK S N R m2 := fun k hk => ⟨(h k hk).1, fun j b hc hb => (h k hk).2 j b hc (by rw [← h2 k hk j hc]; exact hb)⟩
def nwOK (ci : Nat) (q : vw_C) : Prop := ∃ ty : Nat → FieldType, (∀ k, k < q.2.2 → parseFieldDescriptor (q.2.1 k).2.2.1 = some (ty k)) ∧ ∀ j, j < q.2.2 → defaultValue (ty j) = if fK ci j = 0 then Value.int 0 else Value.null
theorem nwX0 : nwOK 0 (RX0, TX0, 2) := ⟨tyX0, tyX0_ok, by decide +kernel⟩
theorem nwX1 : nwOK 1 (RX1, TX1, 7) := ⟨tyX1, tyX1_ok, by decide +kernel⟩
theorem nwX2 : nwOK 2 (RX2, TX2, 3) := ⟨tyX2, tyX2_ok, by decide +kernel⟩
theorem nwX3 : nwOK 3 (RX3, TX3, 2) := ⟨tyX3, tyX3_ok, by decide +kernel⟩
theorem nwX4 : nwOK 4 (RX4, TX4, 2) := ⟨tyX4, tyX4_ok, by decide +kernel⟩
theorem nwX5 : nwOK 5 (RX5, TX5, 6) := ⟨tyX5, tyX5_ok, by decide +kernel⟩
theorem nwX6 : nwOK 6 (RX6, TX6, 6) := ⟨tyX6, tyX6_ok, by decide +kernel⟩
theorem nwX7 : nwOK 7 (RX7, TX7, 10) := ⟨tyX7, tyX7_ok, by decide +kernel⟩
theorem nwX8 : nwOK 8 (RX8, TX8, 9) := ⟨tyX8, tyX8_ok, by decide +kernel⟩
theorem nwX9 : nwOK 9 (RX9, TX9, 4) := ⟨tyX9, tyX9_ok, by decide +kernel⟩
theorem nwX10 : nwOK 10 (RX10, TX10, 4) := ⟨tyX10, tyX10_ok, by decide +kernel⟩
theorem nwX11 : nwOK 11 (RX11, TX11, 14) := ⟨tyX11, tyX11_ok, by decide +kernel⟩
theorem nwX12 : nwOK 12 (RX12, TX12, 33) := ⟨tyX12, tyX12_ok, by decide +kernel⟩
theorem bnd_some {β γ : Type} {f : Option (β × Mem)} {g : β → Mem → Option γ} {z : γ} (h : bnd f g = some z) : ∃ r mF, f = some (r, mF) ∧ g r mF = some z := by
  cases hf : f with
  | none => rw [hf] at h; cases h
  | some q => obtain ⟨r, mF⟩ := q; rw [hf] at h; exact ⟨r, mF, rfl, h⟩
section VR
variable {α : Type} {G : Gt} {S : Nat → Sh} {ov : α → Option Value} {l : Launch} {p : Program} {e : Env} {s : State} {mt : MethodId} {args : Array Value} {below : List Frame} {meth : Method} {c : Code} {own : String} {cc : ByteArray} {nL fr : Nat} {ret : Option FieldType} {nm : String} {A : Nat → Prop} {ad0 : Nat → Nat} {N0 Nf : Nat} {Rz : Rf} {N : Nat} {R : Rf} {pc : Nat} {L : List (Nat × Value)} {st : List Value} {m : Mem} {t : Option (α × Mem)}
theorem V.new (C : Cx G p s mt args meth c own cc nL ret nm A) {ci idx : Nat} (q : vw_C) (hq : clOK ci q) (hw : nwOK ci q) (hl : Cond.classLink own idx q.1 ∈ gtb) (hin : Cond.instantiable q.1 q.2.2 ∈ gtb) (hini : Cond.initialized q.1 ∈ gtb) (hs : S N = .inl ci) (hk : NK S N R m) (hLo : ∀ q ∈ L, okP N q.2) (hso : ∀ v ∈ st, okP N v) (hd : decode cc pc = .ok (.new idx, 3)) (k : V G S ov l p e s mt args below meth c nL fr A ad0 N0 Nf Rz (N + 1) (rnw R N) (pc + 3) L (.ref N :: st) (nw m N) t) : V G S ov l p e s mt args below meth c nL fr A ad0 N0 Nf Rz N R pc L st m t := by
  intro r mF ht
  obtain ⟨hp, k⟩ := k r mF ht
  refine ⟨by omega, fun ad H locs ls h0 h1 h2 h3 h4 h5 => ?_⟩
  obtain ⟨ty0, hty, hdf⟩ := hw
  have en := nF_ok hq
  have hsz : szs S (N + 1) = szs S N + q.2.2 := by
    show szs S N + szS (S N) = _
    rw [hs]
    show szs S N + nF ci = _
    rw [en]
  have hm := szs_mono S hp
  have hm0 := szs_mono S h0
  have hfv : ∀ (ad2 : Nat → Nat) (j : Nat), fv ad2 (rnw R N) (nw m N) N ci j = if fK ci j = 0 then Value.int 0 else Value.null := fun ad2 j => by
    unfold fv
    by_cases q0 : fK ci j = 0
    · rw [if_pos q0, if_pos q0]
      simp [gi, nw]
    · rw [if_neg q0, if_neg q0]
      by_cases q1 : fK ci j = 1
      · rw [if_pos q1]; simp [rnw, va_rf]
      · rw [if_neg q1]; simp [gi, nw, dcr, va_rf]
  refine va_new (c0 := c) C.1 C.2.1 C.2.2.2.2.1 hq.2.1 ty0 hty C.2.2.2.1 (C.2.2.2.2.1 _ hl) (C.2.2.2.2.1 _ hin) (C.2.2.2.2.1 _ hini) C.2.2.2.2.2.2.2.2.1 h2 h3 h4 C.2.2.2.2.2.2.2.2.2.1 hq.1 (fs := (List.range q.2.2).map (fv ad (rnw R N) (nw m N) N ci)) (fun j hj => ?_) (show N - N0 + 1 ≤ Nf - N0 by omega) (show szs S N - szs S N0 + q.2.2 ≤ szs S Nf - szs S N0 by omega) hd (fun qa H1 g1 g2 g3 => ?_)
  · rw [hdf j hj, vp_V, List.getD_eq_getElem?_getD, fv_get hj, hfv]
    rfl
  · have hadk : ∀ k, k < N → (fun x => if x = N then qa else ad x) k = ad k := fun k hk => if_neg (by omega)
    have e1 : wl G S (fun x => if x = N then qa else ad x) N (rnw R N) (nw m N) = wl G S ad N R m := by
      rw [wl_nw, wl_ad hk hadk]
    have e2 : entS G (fun x => if x = N then qa else ad x) (rnw R N) (nw m N) N (S N) = .inr (ci, (List.range q.2.2).map (fv ad (rnw R N) (nw m N) N ci)) := by
      rw [hs]
      show Sum.inr (ci, (List.range (nF ci)).map _) = _
      rw [en]
      congr 3
      funext j
      rw [hfv, hfv]
    rw [wl_push (q := qa) e1 (if_pos rfl) e2] at g1 g2
    have had : AdOK N0 Nf ad0 (fun x => if x = N then qa else ad x) := by
      refine Or.inr ⟨by omega, fun k hk => ?_⟩
      rw [hadk k (by omega)]
      rcases h1 with h | h
      · rw [h.2]
      · exact h.2 k hk
    have hw := k _ H1 locs ls (by omega) had g1 g2 g3 (lr_ok hadk hLo h5)
    rw [List.map_cons, map_ok hadk hso, show mv G (fun x => if x = N then qa else ad x) (.ref N) = .ref qa by simp [mv]] at hw
    rw [show N + 1 - N0 = N - N0 + 1 by omega, show szs S (N + 1) - szs S N0 = szs S N - szs S N0 + q.2.2 by omega] at hw
    exact hw
theorem V.newi (C : Cx G p s mt args meth c own cc nL ret nm A) {n : Nat} {x : Int32} (hac : Cond.arrayClass (newarray.typeOf .int) ∈ gtb) (hs : S N = .inr (0, n)) (hx : ¬ x < 0) (hn : x.toNatClampNeg = n) (hn2 : n ≤ 100000) (hk : NK S N R m) (hLo : ∀ q ∈ L, okP N q.2) (hso : ∀ v ∈ st, okP N v) (hd : decode cc pc = .ok (.newarray .int, 2)) (k : V G S ov l p e s mt args below meth c nL fr A ad0 N0 Nf Rz (N + 1) (rnw R N) (pc + 2) L (.ref N :: st) (nw m N) t) : V G S ov l p e s mt args below meth c nL fr A ad0 N0 Nf Rz N R pc L (.int x :: st) m t := by
  intro r mF ht
  obtain ⟨hp, k⟩ := k r mF ht
  refine ⟨by omega, fun ad H locs ls h0 h1 h2 h3 h4 h5 => ?_⟩
  have hsz : szs S (N + 1) = szs S N + n := by
    show szs S N + szS (S N) = _
    rw [hs]
    rfl
  have hm := szs_mono S hp
  have hm0 := szs_mono S h0
  refine va_newa C.1 C.2.1 (C.2.2.2.2.1 _ hac) (ty := .int) rfl C.2.2.2.2.2.2.2.2.1 h2 h3 h4 C.2.2.2.2.2.2.2.2.2.1 (a0 := (n, .inl (fun _ => 0))) (fun _ => rfl) hx hn (show n * 4 ≤ 536870912 by omega) (show N - N0 + 1 ≤ Nf - N0 by omega) (show szs S N - szs S N0 + n ≤ szs S Nf - szs S N0 by omega) hd (fun qa cA H1 gK g1 g2 g3 => ?_)
  have ecA : cA = G.2.1 0 := by
    have r1 := (gK.2 7 (cA, .int) rfl).2
    have r2 := (C.2.2.2.2.2.2.2.2.1.2 0 (G.2.1 0, .int) rfl).2
    exact Option.some.inj (Eq.trans (Eq.symm r1) r2)
  subst ecA
  have hadk : ∀ k, k < N → (fun x => if x = N then qa else ad x) k = ad k := fun k hk => if_neg (by omega)
  have e1 : wl G S (fun x => if x = N then qa else ad x) N (rnw R N) (nw m N) = wl G S ad N R m := by
    rw [wl_nw, wl_ad hk hadk]
  have e2 : entS G (fun x => if x = N then qa else ad x) (rnw R N) (nw m N) N (S N) = .inl (G.2.1 0, n, .inl (fun _ => 0)) := by
    rw [hs]
    show Sum.inl (G.2.1 0, n, _) = _
    congr 3
    show Sum.inl (gi (nw m N) N) = _
    congr 1
    funext j; simp [gi, nw]
  rw [wl_push (q := qa) e1 (if_pos rfl) e2] at g1 g2
  have had : AdOK N0 Nf ad0 (fun x => if x = N then qa else ad x) := by
    refine Or.inr ⟨by omega, fun k hk => ?_⟩
    rw [hadk k (by omega)]
    rcases h1 with h | h
    · rw [h.2]
    · exact h.2 k hk
  have hw := k _ H1 locs ls (by omega) had g1 g2 g3 (lr_ok hadk hLo h5)
  rw [List.map_cons, map_ok hadk hso, show mv G (fun x => if x = N then qa else ad x) (.ref N) = .ref qa by simp [mv]] at hw
  rw [show N + 1 - N0 = N - N0 + 1 by omega, show szs S (N + 1) - szs S N0 = szs S N - szs S N0 + n by omega] at hw
  exact hw
theorem V.newb (C : Cx G p s mt args meth c own cc nL ret nm A) {n : Nat} {x : Int32} (hac : Cond.arrayClass (newarray.typeOf .byte) ∈ gtb) (hs : S N = .inr (1, n)) (hx : ¬ x < 0) (hn : x.toNatClampNeg = n) (hn2 : n ≤ 100000) (hk : NK S N R m) (hLo : ∀ q ∈ L, okP N q.2) (hso : ∀ v ∈ st, okP N v) (hd : decode cc pc = .ok (.newarray .byte, 2)) (k : V G S ov l p e s mt args below meth c nL fr A ad0 N0 Nf Rz (N + 1) (rnw R N) (pc + 2) L (.ref N :: st) (nw m N) t) : V G S ov l p e s mt args below meth c nL fr A ad0 N0 Nf Rz N R pc L (.int x :: st) m t := by
  intro r mF ht
  obtain ⟨hp, k⟩ := k r mF ht
  refine ⟨by omega, fun ad H locs ls h0 h1 h2 h3 h4 h5 => ?_⟩
  have hsz : szs S (N + 1) = szs S N + n := by
    show szs S N + szS (S N) = _
    rw [hs]
    rfl
  have hm := szs_mono S hp
  have hm0 := szs_mono S h0
  refine va_newa C.1 C.2.1 (C.2.2.2.2.1 _ hac) (ty := .byte) rfl C.2.2.2.2.2.2.2.2.1 h2 h3 h4 C.2.2.2.2.2.2.2.2.2.1 (a0 := (n, .inl (fun _ => 0))) (fun _ => rfl) hx hn (show n * 1 ≤ 536870912 by omega) (show N - N0 + 1 ≤ Nf - N0 by omega) (show szs S N - szs S N0 + n ≤ szs S Nf - szs S N0 by omega) hd (fun qa cA H1 gK g1 g2 g3 => ?_)
  have ecA : cA = G.2.1 1 := by
    have r1 := (gK.2 7 (cA, .byte) rfl).2
    have r2 := (C.2.2.2.2.2.2.2.2.1.2 1 (G.2.1 1, .byte) rfl).2
    exact Option.some.inj (Eq.trans (Eq.symm r1) r2)
  subst ecA
  have hadk : ∀ k, k < N → (fun x => if x = N then qa else ad x) k = ad k := fun k hk => if_neg (by omega)
  have e1 : wl G S (fun x => if x = N then qa else ad x) N (rnw R N) (nw m N) = wl G S ad N R m := by
    rw [wl_nw, wl_ad hk hadk]
  have e2 : entS G (fun x => if x = N then qa else ad x) (rnw R N) (nw m N) N (S N) = .inl (G.2.1 1, n, .inl (fun _ => 0)) := by
    rw [hs]
    show Sum.inl (G.2.1 1, n, _) = _
    congr 3
    show Sum.inl (gi (nw m N) N) = _
    congr 1
    funext j; simp [gi, nw]
  rw [wl_push (q := qa) e1 (if_pos rfl) e2] at g1 g2
  have had : AdOK N0 Nf ad0 (fun x => if x = N then qa else ad x) := by
    refine Or.inr ⟨by omega, fun k hk => ?_⟩
    rw [hadk k (by omega)]
    rcases h1 with h | h
    · rw [h.2]
    · exact h.2 k hk
  have hw := k _ H1 locs ls (by omega) had g1 g2 g3 (lr_ok hadk hLo h5)
  rw [List.map_cons, map_ok hadk hso, show mv G (fun x => if x = N then qa else ad x) (.ref N) = .ref qa by simp [mv]] at hw
  rw [show N + 1 - N0 = N - N0 + 1 by omega, show szs S (N + 1) - szs S N0 = szs S N - szs S N0 + n by omega] at hw
  exact hw
theorem V.newz (C : Cx G p s mt args meth c own cc nL ret nm A) {n : Nat} {x : Int32} (hac : Cond.arrayClass (newarray.typeOf .boolean) ∈ gtb) (hs : S N = .inr (2, n)) (hx : ¬ x < 0) (hn : x.toNatClampNeg = n) (hn2 : n ≤ 100000) (hk : NK S N R m) (hLo : ∀ q ∈ L, okP N q.2) (hso : ∀ v ∈ st, okP N v) (hd : decode cc pc = .ok (.newarray .boolean, 2)) (k : V G S ov l p e s mt args below meth c nL fr A ad0 N0 Nf Rz (N + 1) (rnw R N) (pc + 2) L (.ref N :: st) (nw m N) t) : V G S ov l p e s mt args below meth c nL fr A ad0 N0 Nf Rz N R pc L (.int x :: st) m t := by
  intro r mF ht
  obtain ⟨hp, k⟩ := k r mF ht
  refine ⟨by omega, fun ad H locs ls h0 h1 h2 h3 h4 h5 => ?_⟩
  have hsz : szs S (N + 1) = szs S N + n := by
    show szs S N + szS (S N) = _
    rw [hs]
    rfl
  have hm := szs_mono S hp
  have hm0 := szs_mono S h0
  refine va_newa C.1 C.2.1 (C.2.2.2.2.1 _ hac) (ty := .boolean) rfl C.2.2.2.2.2.2.2.2.1 h2 h3 h4 C.2.2.2.2.2.2.2.2.2.1 (a0 := (n, .inl (fun _ => 0))) (fun _ => rfl) hx hn (show n * 1 ≤ 536870912 by omega) (show N - N0 + 1 ≤ Nf - N0 by omega) (show szs S N - szs S N0 + n ≤ szs S Nf - szs S N0 by omega) hd (fun qa cA H1 gK g1 g2 g3 => ?_)
  have ecA : cA = G.2.1 2 := by
    have r1 := (gK.2 7 (cA, .boolean) rfl).2
    have r2 := (C.2.2.2.2.2.2.2.2.1.2 2 (G.2.1 2, .boolean) rfl).2
    exact Option.some.inj (Eq.trans (Eq.symm r1) r2)
  subst ecA
  have hadk : ∀ k, k < N → (fun x => if x = N then qa else ad x) k = ad k := fun k hk => if_neg (by omega)
  have e1 : wl G S (fun x => if x = N then qa else ad x) N (rnw R N) (nw m N) = wl G S ad N R m := by
    rw [wl_nw, wl_ad hk hadk]
  have e2 : entS G (fun x => if x = N then qa else ad x) (rnw R N) (nw m N) N (S N) = .inl (G.2.1 2, n, .inl (fun _ => 0)) := by
    rw [hs]
    show Sum.inl (G.2.1 2, n, _) = _
    congr 3
    show Sum.inl (gi (nw m N) N) = _
    congr 1
    funext j; simp [gi, nw]
  rw [wl_push (q := qa) e1 (if_pos rfl) e2] at g1 g2
  have had : AdOK N0 Nf ad0 (fun x => if x = N then qa else ad x) := by
    refine Or.inr ⟨by omega, fun k hk => ?_⟩
    rw [hadk k (by omega)]
    rcases h1 with h | h
    · rw [h.2]
    · exact h.2 k hk
  have hw := k _ H1 locs ls (by omega) had g1 g2 g3 (lr_ok hadk hLo h5)
  rw [List.map_cons, map_ok hadk hso, show mv G (fun x => if x = N then qa else ad x) (.ref N) = .ref qa by simp [mv]] at hw
  rw [show N + 1 - N0 = N - N0 + 1 by omega, show szs S (N + 1) - szs S N0 = szs S N - szs S N0 + n by omega] at hw
  exact hw
theorem V.newl (C : Cx G p s mt args meth c own cc nL ret nm A) {n : Nat} {x : Int32} (hac : Cond.arrayClass (newarray.typeOf .long) ∈ gtb) (hs : S N = .inr (3, n)) (hx : ¬ x < 0) (hn : x.toNatClampNeg = n) (hn2 : n ≤ 100000) (hk : NK S N R m) (hLo : ∀ q ∈ L, okP N q.2) (hso : ∀ v ∈ st, okP N v) (hd : decode cc pc = .ok (.newarray .long, 2)) (k : V G S ov l p e s mt args below meth c nL fr A ad0 N0 Nf Rz (N + 1) (rnw R N) (pc + 2) L (.ref N :: st) (nw m N) t) : V G S ov l p e s mt args below meth c nL fr A ad0 N0 Nf Rz N R pc L (.int x :: st) m t := by
  intro r mF ht
  obtain ⟨hp, k⟩ := k r mF ht
  refine ⟨by omega, fun ad H locs ls h0 h1 h2 h3 h4 h5 => ?_⟩
  have hsz : szs S (N + 1) = szs S N + n := by
    show szs S N + szS (S N) = _
    rw [hs]
    rfl
  have hm := szs_mono S hp
  have hm0 := szs_mono S h0
  refine va_newa C.1 C.2.1 (C.2.2.2.2.1 _ hac) (ty := .long) rfl C.2.2.2.2.2.2.2.2.1 h2 h3 h4 C.2.2.2.2.2.2.2.2.2.1 (a0 := (n, .inr (.inl (fun _ => 0)))) (fun _ => rfl) hx hn (show n * 8 ≤ 536870912 by omega) (show N - N0 + 1 ≤ Nf - N0 by omega) (show szs S N - szs S N0 + n ≤ szs S Nf - szs S N0 by omega) hd (fun qa cA H1 gK g1 g2 g3 => ?_)
  have ecA : cA = G.2.1 3 := by
    have r1 := (gK.2 7 (cA, .long) rfl).2
    have r2 := (C.2.2.2.2.2.2.2.2.1.2 3 (G.2.1 3, .long) rfl).2
    exact Option.some.inj (Eq.trans (Eq.symm r1) r2)
  subst ecA
  have hadk : ∀ k, k < N → (fun x => if x = N then qa else ad x) k = ad k := fun k hk => if_neg (by omega)
  have e1 : wl G S (fun x => if x = N then qa else ad x) N (rnw R N) (nw m N) = wl G S ad N R m := by
    rw [wl_nw, wl_ad hk hadk]
  have e2 : entS G (fun x => if x = N then qa else ad x) (rnw R N) (nw m N) N (S N) = .inl (G.2.1 3, n, .inr (.inl (fun _ => 0))) := by
    rw [hs]
    show Sum.inl (G.2.1 3, n, _) = _
    congr 3
    show Sum.inr (Sum.inl (gl (nw m N) N)) = _
    congr 1
    congr 1; funext j; simp [gl, nw]
  rw [wl_push (q := qa) e1 (if_pos rfl) e2] at g1 g2
  have had : AdOK N0 Nf ad0 (fun x => if x = N then qa else ad x) := by
    refine Or.inr ⟨by omega, fun k hk => ?_⟩
    rw [hadk k (by omega)]
    rcases h1 with h | h
    · rw [h.2]
    · exact h.2 k hk
  have hw := k _ H1 locs ls (by omega) had g1 g2 g3 (lr_ok hadk hLo h5)
  rw [List.map_cons, map_ok hadk hso, show mv G (fun x => if x = N then qa else ad x) (.ref N) = .ref qa by simp [mv]] at hw
  rw [show N + 1 - N0 = N - N0 + 1 by omega, show szs S (N + 1) - szs S N0 = szs S N - szs S N0 + n by omega] at hw
  exact hw
theorem V.anewL (C : Cx G p s mt args meth c own cc nL ret nm A) {n idx : Nat} {x : Int32} (hcl : Cond.classLink own idx "LoatheMatch$Life" ∈ gtb) (hs : S N = .inr (4, n)) (hx : ¬ x < 0) (hn : x.toNatClampNeg = n) (hn2 : n ≤ 100000) (hk : NK S N R m) (hLo : ∀ q ∈ L, okP N q.2) (hso : ∀ v ∈ st, okP N v) (hd : decode cc pc = .ok (.anewarray idx, 3)) (k : V G S ov l p e s mt args below meth c nL fr A ad0 N0 Nf Rz (N + 1) (rnw R N) (pc + 3) L (.ref N :: st) (nw m N) t) : V G S ov l p e s mt args below meth c nL fr A ad0 N0 Nf Rz N R pc L (.int x :: st) m t := by
  intro r mF ht
  obtain ⟨hp, k⟩ := k r mF ht
  refine ⟨by omega, fun ad H locs ls h0 h1 h2 h3 h4 h5 => ?_⟩
  have hsz : szs S (N + 1) = szs S N + n := by
    show szs S N + szS (S N) = _
    rw [hs]
    rfl
  have hm := szs_mono S hp
  have hm0 := szs_mono S h0
  refine va_newq C.1 C.2.1 C.2.2.2.1 (C.2.2.2.2.1 _ hcl) (C.2.2.2.2.2.2.2.2.2.2.2.2.2.2.2 _ (by decide)) C.2.2.2.2.2.2.2.2.1 h2 h3 h4 C.2.2.2.2.2.2.2.2.2.1 hx hn (show n * 4 ≤ 536870912 by omega) (show N - N0 + 1 ≤ Nf - N0 by omega) (show szs S N - szs S N0 + n ≤ szs S Nf - szs S N0 by omega) hd (fun qa cA H1 gK g1 g2 g3 => ?_)
  have ecA : cA = G.2.1 4 := by
    obtain ⟨_, _, _, _, _, r1⟩ := (gK.2 7 (cA, .object "LoatheMatch$Life") rfl).2
    obtain ⟨_, _, _, _, _, r2⟩ := (C.2.2.2.2.2.2.2.2.1.2 4 (G.2.1 4, .object "LoatheMatch$Life") rfl).2
    exact Option.some.inj (Eq.trans (Eq.symm r1) r2)
  subst ecA
  have hadk : ∀ k, k < N → (fun x => if x = N then qa else ad x) k = ad k := fun k hk => if_neg (by omega)
  have e1 : wl G S (fun x => if x = N then qa else ad x) N (rnw R N) (nw m N) = wl G S ad N R m := by
    rw [wl_nw, wl_ad hk hadk]
  have e2 : entS G (fun x => if x = N then qa else ad x) (rnw R N) (nw m N) N (S N) = .inl (G.2.1 4, n, .inr (.inr (.inr (.inr (fun _ => none))))) := by
    rw [hs]
    show Sum.inl (G.2.1 4, n, _) = _
    congr 3
    show Sum.inr (Sum.inr (Sum.inr (Sum.inr _))) = _
    congr 4
    funext j
    simp [rnw]
  rw [wl_push (q := qa) e1 (if_pos rfl) e2] at g1 g2
  have had : AdOK N0 Nf ad0 (fun x => if x = N then qa else ad x) := by
    refine Or.inr ⟨by omega, fun k hk => ?_⟩
    rw [hadk k (by omega)]
    rcases h1 with h | h
    · rw [h.2]
    · exact h.2 k hk
  have hw := k _ H1 locs ls (by omega) had g1 g2 g3 (lr_ok hadk hLo h5)
  rw [List.map_cons, map_ok hadk hso, show mv G (fun x => if x = N then qa else ad x) (.ref N) = .ref qa by simp [mv]] at hw
  rw [show N + 1 - N0 = N - N0 + 1 by omega, show szs S (N + 1) - szs S N0 = szs S N - szs S N0 + n by omega] at hw
  exact hw
theorem V.anewT (C : Cx G p s mt args meth c own cc nL ret nm A) {n idx : Nat} {x : Int32} (hcl : Cond.classLink own idx "LoatheMatch$Tray" ∈ gtb) (hs : S N = .inr (5, n)) (hx : ¬ x < 0) (hn : x.toNatClampNeg = n) (hn2 : n ≤ 100000) (hk : NK S N R m) (hLo : ∀ q ∈ L, okP N q.2) (hso : ∀ v ∈ st, okP N v) (hd : decode cc pc = .ok (.anewarray idx, 3)) (k : V G S ov l p e s mt args below meth c nL fr A ad0 N0 Nf Rz (N + 1) (rnw R N) (pc + 3) L (.ref N :: st) (nw m N) t) : V G S ov l p e s mt args below meth c nL fr A ad0 N0 Nf Rz N R pc L (.int x :: st) m t := by
  intro r mF ht
  obtain ⟨hp, k⟩ := k r mF ht
  refine ⟨by omega, fun ad H locs ls h0 h1 h2 h3 h4 h5 => ?_⟩
  have hsz : szs S (N + 1) = szs S N + n := by
    show szs S N + szS (S N) = _
    rw [hs]
    rfl
  have hm := szs_mono S hp
  have hm0 := szs_mono S h0
  refine va_newq C.1 C.2.1 C.2.2.2.1 (C.2.2.2.2.1 _ hcl) (C.2.2.2.2.2.2.2.2.2.2.2.2.2.2.2 _ (by decide)) C.2.2.2.2.2.2.2.2.1 h2 h3 h4 C.2.2.2.2.2.2.2.2.2.1 hx hn (show n * 4 ≤ 536870912 by omega) (show N - N0 + 1 ≤ Nf - N0 by omega) (show szs S N - szs S N0 + n ≤ szs S Nf - szs S N0 by omega) hd (fun qa cA H1 gK g1 g2 g3 => ?_)
  have ecA : cA = G.2.1 5 := by
    obtain ⟨_, _, _, _, _, r1⟩ := (gK.2 7 (cA, .object "LoatheMatch$Tray") rfl).2
    obtain ⟨_, _, _, _, _, r2⟩ := (C.2.2.2.2.2.2.2.2.1.2 5 (G.2.1 5, .object "LoatheMatch$Tray") rfl).2
    exact Option.some.inj (Eq.trans (Eq.symm r1) r2)
  subst ecA
  have hadk : ∀ k, k < N → (fun x => if x = N then qa else ad x) k = ad k := fun k hk => if_neg (by omega)
  have e1 : wl G S (fun x => if x = N then qa else ad x) N (rnw R N) (nw m N) = wl G S ad N R m := by
    rw [wl_nw, wl_ad hk hadk]
  have e2 : entS G (fun x => if x = N then qa else ad x) (rnw R N) (nw m N) N (S N) = .inl (G.2.1 5, n, .inr (.inr (.inr (.inr (fun _ => none))))) := by
    rw [hs]
    show Sum.inl (G.2.1 5, n, _) = _
    congr 3
    show Sum.inr (Sum.inr (Sum.inr (Sum.inr _))) = _
    congr 4
    funext j
    simp [rnw]
  rw [wl_push (q := qa) e1 (if_pos rfl) e2] at g1 g2
  have had : AdOK N0 Nf ad0 (fun x => if x = N then qa else ad x) := by
    refine Or.inr ⟨by omega, fun k hk => ?_⟩
    rw [hadk k (by omega)]
    rcases h1 with h | h
    · rw [h.2]
    · exact h.2 k hk
  have hw := k _ H1 locs ls (by omega) had g1 g2 g3 (lr_ok hadk hLo h5)
  rw [List.map_cons, map_ok hadk hso, show mv G (fun x => if x = N then qa else ad x) (.ref N) = .ref qa by simp [mv]] at hw
  rw [show N + 1 - N0 = N - N0 + 1 by omega, show szs S (N + 1) - szs S N0 = szs S N - szs S N0 + n by omega] at hw
  exact hw
theorem V.anewI (C : Cx G p s mt args meth c own cc nL ret nm A) {n idx : Nat} {x : Int32} (hcl : Cond.classLink own idx "LoatheMatch$Image" ∈ gtb) (hs : S N = .inr (6, n)) (hx : ¬ x < 0) (hn : x.toNatClampNeg = n) (hn2 : n ≤ 100000) (hk : NK S N R m) (hLo : ∀ q ∈ L, okP N q.2) (hso : ∀ v ∈ st, okP N v) (hd : decode cc pc = .ok (.anewarray idx, 3)) (k : V G S ov l p e s mt args below meth c nL fr A ad0 N0 Nf Rz (N + 1) (rnw R N) (pc + 3) L (.ref N :: st) (nw m N) t) : V G S ov l p e s mt args below meth c nL fr A ad0 N0 Nf Rz N R pc L (.int x :: st) m t := by
  intro r mF ht
  obtain ⟨hp, k⟩ := k r mF ht
  refine ⟨by omega, fun ad H locs ls h0 h1 h2 h3 h4 h5 => ?_⟩
  have hsz : szs S (N + 1) = szs S N + n := by
    show szs S N + szS (S N) = _
    rw [hs]
    rfl
  have hm := szs_mono S hp
  have hm0 := szs_mono S h0
  refine va_newq C.1 C.2.1 C.2.2.2.1 (C.2.2.2.2.1 _ hcl) (C.2.2.2.2.2.2.2.2.2.2.2.2.2.2.2 _ (by decide)) C.2.2.2.2.2.2.2.2.1 h2 h3 h4 C.2.2.2.2.2.2.2.2.2.1 hx hn (show n * 4 ≤ 536870912 by omega) (show N - N0 + 1 ≤ Nf - N0 by omega) (show szs S N - szs S N0 + n ≤ szs S Nf - szs S N0 by omega) hd (fun qa cA H1 gK g1 g2 g3 => ?_)
  have ecA : cA = G.2.1 6 := by
    obtain ⟨_, _, _, _, _, r1⟩ := (gK.2 7 (cA, .object "LoatheMatch$Image") rfl).2
    obtain ⟨_, _, _, _, _, r2⟩ := (C.2.2.2.2.2.2.2.2.1.2 6 (G.2.1 6, .object "LoatheMatch$Image") rfl).2
    exact Option.some.inj (Eq.trans (Eq.symm r1) r2)
  subst ecA
  have hadk : ∀ k, k < N → (fun x => if x = N then qa else ad x) k = ad k := fun k hk => if_neg (by omega)
  have e1 : wl G S (fun x => if x = N then qa else ad x) N (rnw R N) (nw m N) = wl G S ad N R m := by
    rw [wl_nw, wl_ad hk hadk]
  have e2 : entS G (fun x => if x = N then qa else ad x) (rnw R N) (nw m N) N (S N) = .inl (G.2.1 6, n, .inr (.inr (.inr (.inr (fun _ => none))))) := by
    rw [hs]
    show Sum.inl (G.2.1 6, n, _) = _
    congr 3
    show Sum.inr (Sum.inr (Sum.inr (Sum.inr _))) = _
    congr 4
    funext j
    simp [gi, nw, dcr]
  rw [wl_push (q := qa) e1 (if_pos rfl) e2] at g1 g2
  have had : AdOK N0 Nf ad0 (fun x => if x = N then qa else ad x) := by
    refine Or.inr ⟨by omega, fun k hk => ?_⟩
    rw [hadk k (by omega)]
    rcases h1 with h | h
    · rw [h.2]
    · exact h.2 k hk
  have hw := k _ H1 locs ls (by omega) had g1 g2 g3 (lr_ok hadk hLo h5)
  rw [List.map_cons, map_ok hadk hso, show mv G (fun x => if x = N then qa else ad x) (.ref N) = .ref qa by simp [mv]] at hw
  rw [show N + 1 - N0 = N - N0 + 1 by omega, show szs S (N + 1) - szs S N0 = szs S N - szs S N0 + n by omega] at hw
  exact hw
theorem V.aastR (C : Cx G p s mt args meth c own cc nL ret nm A) {a b ty n ci : Nat} {i : Int32} {q : vw_C} (hs : S a = .inr (ty, n)) (hty : (ty = 4 ∧ q.1 = "LoatheMatch$Life") ∨ (ty = 5 ∧ q.1 = "LoatheMatch$Tray")) (hk : a < N) (hsb : S b = .inl ci) (hkb : b < N) (hq : vwCl[ci]? = some q) (hi : vp_in i n) (hd : decode cc pc = .ok (.aastore, 1)) (k : V G S ov l p e s mt args below meth c nL fr A ad0 N0 Nf Rz N (up2 R a (ix i) (some b)) (pc + 1) L st m t) : V G S ov l p e s mt args below meth c nL fr A ad0 N0 Nf Rz N R pc L (.ref b :: .int i :: .ref a :: st) m t := by
  refine V.gen (fun ad H locs ls Rm cells slots Q hP hD hS hL _ _ kk => ?_) k
  rcases hty with ⟨rfl, he⟩ | ⟨rfl, he⟩
  · refine va_astq C.1 C.2.1 C.2.2.2.2.2.2.2.2.1 hP hD hS a 4 b ci (r := q) (v := ad b) (f := fun j => (R a j).map ad) (wl_get hk hs) (by rw [he]; rfl) (wl_get hkb hsb) hq hi hd (fun H1 locs1 g1 g2 g3 => ?_)
    rw [wl_sr_arr hk hs (by decide) (by decide)] at g1 g2
    exact kk H1 locs1 ls g1 g2 g3 hL
  · refine va_astq C.1 C.2.1 C.2.2.2.2.2.2.2.2.1 hP hD hS a 5 b ci (r := q) (v := ad b) (f := fun j => (R a j).map ad) (wl_get hk hs) (by rw [he]; rfl) (wl_get hkb hsb) hq hi hd (fun H1 locs1 g1 g2 g3 => ?_)
    rw [wl_sr_arr hk hs (by decide) (by decide)] at g1 g2
    exact kk H1 locs1 ls g1 g2 g3 hL
theorem V.aastD (C : Cx G p s mt args meth c own cc nL ret nm A) {a b n ci : Nat} {i : Int32} {q : vw_C} (hs : S a = .inr (6, n)) (hq1 : q.1 = "LoatheMatch$Image") (hk : a < N) (hsb : S b = .inl ci) (hkb : b < N) (hq : vwCl[ci]? = some q) (hb : dcr (nI b) = some b) (hi : vp_in i n) (hd : decode cc pc = .ok (.aastore, 1)) (k : V G S ov l p e s mt args below meth c nL fr A ad0 N0 Nf Rz N R (pc + 1) L st (si m a (ix i) (nI b)) t) : V G S ov l p e s mt args below meth c nL fr A ad0 N0 Nf Rz N R pc L (.ref b :: .int i :: .ref a :: st) m t := by
  refine V.gen (fun ad H locs ls Rm cells slots Q hP hD hS hL _ _ kk => ?_) k
  refine va_astq C.1 C.2.1 C.2.2.2.2.2.2.2.2.1 hP hD hS a 6 b ci (r := q) (v := ad b) (f := fun j => (dcr (gi m a j)).map ad) (wl_get hk hs) (by rw [hq1]; rfl) (wl_get hkb hsb) hq hi hd (fun H1 locs1 g1 g2 g3 => ?_)
  rw [wl_sd_arr hk hs (by decide) hb] at g1 g2
  exact kk H1 locs1 ls g1 g2 g3 hL
theorem V.obj (C : Cx G p s mt args meth c own cc nL ret nm A) {a idx : Nat} (hl : Cond.methodLink own idx Lib.objectInit ∈ gtb) (hin : Cond.instanceMethod Lib.objectInit ∈ gtb) (hcd : Cond.code Lib.objectInit ⟨#[0xb1]⟩ 1 none ∈ gtb) (hfr : 1 ≤ fr) (hst : (st.map Value.category).sum ≤ 8) (hd : decode cc pc = .ok (.invokespecial idx, 3)) (k : V G S ov l p e s mt args below meth c nL fr A ad0 N0 Nf Rz N R (pc + 3) L st m t) : V G S ov l p e s mt args below meth c nL fr A ad0 N0 Nf Rz N R pc L (.ref a :: st) m t :=
  V.genc (fun ad H locs ls Rm cells slots Q hL hf1 hf2 h3 h4 kk => W.objInit C.1 C.2.1 C.2.2.2.1 (C.2.2.2.2.1 _ hl) (C.2.2.2.2.1 _ hin) (C.2.2.2.2.1 _ hcd) rfl (show ls.size = c.maxLocals by rw [C.2.2.1]; exact hL.1) rfl hd (by omega) (by have := cat_sum G ad st hst; show 2 * 0 + _ + 12 ≤ _; omega) kk) k
theorem V.runA {f : Option (Unit × Mem)} {g : Unit → Mem → Option (α × Mem)} {st0 : List Value} {N1 : Nat} {R1 : Rf} (C : Cx G p s mt args meth c own cc nL ret nm A) (hN1 : N ≤ N1) (hLo : ∀ q ∈ L, okP N q.2) (hso : ∀ v ∈ st, okP N v)
    (hr : ∀ (ad : Nat → Nat) (H : Heap) (locs : List Loc) (ls : Array Slot) (cells slots : Nat) (Rm : Room) (r : Unit) (mF : Mem), f = some (r, mF) → va_P G.1 vwCl (wl G S ad N R m) H → va_D A (wl G S ad N R m) → va_S A s.heap H locs → Lr G ad ls nL L → Rm.frames = fr → Rm.locals = 40 * fr → cells + (N1 - N) ≤ Rm.cells → slots + (szs S N1 - szs S N) ≤ Rm.slots → ∃ as : Array Value, va_Run p l e Rm s mt args below meth c H locs cells slots (N1 - N) (szs S N1 - szs S N) (F0 mt pc ls (st0.map (mv G ad))) (st.map (mv G ad)) (Qx oV G S ad N N1 R1 (AS ad N H.size) r mF as) (AS ad N H.size))
    (k : ∀ mF : Mem, f = some ((), mF) → V G S ov l p e s mt args below meth c nL fr A ad0 N0 Nf Rz N1 R1 (pc + 3) L st mF (g () mF)) : V G S ov l p e s mt args below meth c nL fr A ad0 N0 Nf Rz N R pc L st0 m (bnd f g) := by
  intro r mF ht
  cases hf : f with
  | none => rw [hf] at ht; cases ht
  | some q =>
    obtain ⟨r1, m1⟩ := q
    rw [hf] at ht
    have ht : g r1 m1 = some (r, mF) := ht
    obtain ⟨k1, k2⟩ := k m1 hf r mF ht
    refine ⟨by omega, fun ad H locs ls h0 h1 h2 h3 h4 h5 => ?_⟩
    have hm := szs_mono S k1
    have hm1 := szs_mono S hN1
    have hm0 := szs_mono S h0
    obtain ⟨as, h6⟩ := hr ad H locs ls (N - N0) (szs S N - szs S N0) (rmk fr (Nf - N0) (szs S Nf - szs S N0)) r1 m1 hf h2 h3 h4 h5 rfl rfl (show N - N0 + (N1 - N) ≤ Nf - N0 by omega) (show szs S N - szs S N0 + (szs S N1 - szs S N) ≤ szs S Nf - szs S N0 by omega)
    intro T hT X
    obtain ⟨v, st₀, u, T', Lc, g0, X', gL, e1, e2, ⟨⟨hv, ad2, had, hP2, hD2⟩, hz, hk⟩, hsteps⟩ := h6 T hT X
    have hadk : ∀ k, k < N → ad2 k = ad k := fun k hk => by
      rcases had with h | h
      · rw [h.2]
      · exact h.2 k hk
    cases hv
    rw [g0] at hz hk
    have hA : ∀ q, AS ad N H.size q → A q := fun q h => by
      rcases h with ⟨k, h1, rfl⟩ | h
      · exact h3.2 k _ (wl_get h1 rfl)
      · exact C.2.2.2.2.2.2.2.2.2.1 q (Nat.le_trans h4.1 h)
    have hS2 : va_S A s.heap T'.heap (locs ++ Lc) := ⟨Nat.le_trans h4.1 (by rw [e1]; exact hz), fun q h1 h2 => by rw [e1, hk q (Nat.lt_of_lt_of_le h1 h4.1) (fun z => h2 (hA q z))]; exact h4.2.1 q h1 h2, fun q hq => by
      rcases List.mem_append.mp hq with h | h
      · exact h4.2.2 q h
      · exact hA _ (gL q h)⟩
    have had2 : AdOK N0 Nf ad0 ad2 := by
      rcases h1 with h | h
      · rcases had with h' | h'
        · exact Or.inl ⟨h.1, by rw [h'.2, h.2]⟩
        · exfalso; omega
      · exact Or.inr ⟨h.1, fun k hk => by rw [hadk k (by omega)]; exact h.2 k hk⟩
    have hw := k2 ad2 T'.heap (locs ++ Lc) ls (by omega) had2 (by rw [e1]; exact hP2) ⟨hD2.1, fun k q hq => hA _ (hD2.2 k q hq)⟩ hS2 (lr_ok hadk hLo h5)
    rw [map_ok hadk hso, show N1 - N0 = N - N0 + (N1 - N) by omega, show szs S N1 - szs S N0 = szs S N - szs S N0 + (szs S N1 - szs S N) by omega] at hw
    obtain ⟨t2, a1, b1⟩ := hw T' rfl X'
    exact ⟨t2, hsteps t2 a1, b1⟩
theorem V.callI {f : Option (Unit × Mem)} {g : Unit → Mem → Option (α × Mem)} (C : Cx G p s mt args meth c own cc nL ret nm A) {y : MethodName} {cc1 : ByteArray} {nL1 fr1 n idx b : Nat} {As : List Value} {st0 : List Value} {N1 : Nat} {R1 : Rf} (hc : Ct l y cc1 nL1 none fr1 S oV N N1 R R1 (.ref b :: As) m f) (ck : CkB y cc1 nL1 none n) (hyn : y.name = "<init>") (hin : Cond.instanceMethod y ∈ gtb) (hl : Cond.methodLink own idx y ∈ gtb ∨ (own, idx, y, "LoatheMatch") ∈ nestW) (hN1 : N ≤ N1) (hLo : ∀ q ∈ L, okP N q.2) (hso : ∀ v ∈ st, okP N v) (hn : As.length = n) (hst0 : As.reverse ++ .ref b :: st = st0) (hst : (st.map Value.category).sum ≤ 8) (hfr : fr1 + 1 ≤ fr ∧ nL1 ≤ 21) (hd : decode cc pc = .ok (.invokespecial idx, 3))
    (k : ∀ mF : Mem, f = some ((), mF) → V G S ov l p e s mt args below meth c nL fr A ad0 N0 Nf Rz N1 R1 (pc + 3) L st mF (g () mF)) : V G S ov l p e s mt args below meth c nL fr A ad0 N0 Nf Rz N R pc L st0 m (bnd f g) := by
  subst hst0
  refine V.runA C hN1 hLo hso (fun ad H locs ls cells slots Rm r mF hf hP hD hS hL hf1 hf2 hcl hsl => ?_) k
  have hM := hc G ad H.size r mF hf
  rcases hl with hl | hl
  · refine ⟨_, va_runI (cc := cc) (nL := nL) (Ts := gtb) (own := own) (b := ad b) (As := As.map (mv G ad)) (index := idx) (bytes := cc1) (maxL := nL1) (n := n) ⟨C.1, C.2.1, C.2.2.1, C.2.2.2.1, C.2.2.2.2.1⟩ hM ?_ ⟨wb_blind G S ad N R m H.size _, fun U hU hW => ⟨rfl, wb_here C hP hD hS U hU hW⟩⟩ rfl (by rw [List.length_map]; exact hn) hL.1 (by rw [List.map_append, List.map_reverse]; rfl) (lv_room (cat_sum G ad st hst)) hd ⟨hcl, hsl⟩⟩
    exact ⟨callB_of n C.2.2.2.2.1 (ws_good ck.2.1) rfl rfl rfl (C.2.2.2.2.1 _ ck.1) (C.2.2.2.2.1 _ hl) ck.2.2 ⟨by rw [hf1]; exact hfr.1, by rw [hf2]; show 8 + (nL1 + 11) + 40 * fr1 ≤ 40 * fr; omega⟩, hyn, C.2.2.2.2.1 _ hin⟩
  · refine ⟨_, va_runIN (cc := cc) (nL := nL) (Ts := gtb) (own := own) (host := "LoatheMatch") (b := ad b) (As := As.map (mv G ad)) (index := idx) (bytes := cc1) (maxL := nL1) (n := n) ⟨C.1, C.2.1, C.2.2.1, C.2.2.2.1, C.2.2.2.2.1⟩ hM ?_ ⟨wb_blind G S ad N R m H.size _, fun U hU hW => ⟨rfl, wb_here C hP hD hS U hU hW⟩⟩ rfl (by rw [List.length_map]; exact hn) hL.1 (by rw [List.map_append, List.map_reverse]; rfl) (lv_room (cat_sum G ad st hst)) hd ⟨hcl, hsl⟩⟩
    exact ⟨va_cnB n C.2.2.2.2.1 (ws_good ck.2.1) rfl rfl rfl (C.2.2.2.2.2.2.2.2.2.2.2.2.2.2.1 _ hl) (C.2.2.2.2.1 _ ck.1) ck.2.2 ⟨by rw [hf1]; exact hfr.1, by rw [hf2]; show 8 + (nL1 + 11) + 40 * fr1 ≤ 40 * fr; omega⟩, hyn, C.2.2.2.2.1 _ hin⟩
theorem V.igeT (C : Cx G p s mt args meth c own cc nL ret nm A) {x y : Int32} {off : Int} (hd : decode cc pc = .ok (.if_icmp .ge off, 3)) (tgt : Nat) (ht : (pc : Int) + off = (tgt : Int)) (hc : y ≤ x) (k : V G S ov l p e s mt args below meth c nL fr A ad0 N0 Nf Rz N R tgt L st m t) : V G S ov l p e s mt args below meth c nL fr A ad0 N0 Nf Rz N R pc L (.int y :: .int x :: st) m t := by
  have h := V.icmp_ge (t2 := t) C hd tgt ht (fun _ => k) (fun q => absurd hc q)
  rwa [if_pos hc] at h
theorem V.igeF (C : Cx G p s mt args meth c own cc nL ret nm A) {x y : Int32} {off : Int} (hd : decode cc pc = .ok (.if_icmp .ge off, 3)) (tgt : Nat) (ht : (pc : Int) + off = (tgt : Int)) (hc : ¬ y ≤ x) (k : V G S ov l p e s mt args below meth c nL fr A ad0 N0 Nf Rz N R (pc + 3) L st m t) : V G S ov l p e s mt args below meth c nL fr A ad0 N0 Nf Rz N R pc L (.int y :: .int x :: st) m t := by
  have h := V.icmp_ge (t := t) C hd tgt ht (fun q => absurd q hc) (fun _ => k)
  rwa [if_neg hc] at h
theorem V.iastC (C : Cx G p s mt args meth c own cc nL ret nm A) {a n : Nat} {i x : Int32} (hs : S a = .inr (0, n)) (hk : a < N) (hi : inb i n = true) (hd : decode cc pc = .ok (.iastore, 1)) (k : V G S ov l p e s mt args below meth c nL fr A ad0 N0 Nf Rz N R (pc + 1) L st (si m a (ix i) x) t) : V G S ov l p e s mt args below meth c nL fr A ad0 N0 Nf Rz N R pc L (.int x :: .int i :: .ref a :: st) m t := by
  have h := V.iast C hs hk hd (fun _ => k)
  rwa [chk_eq, if_pos hi] at h
theorem V.aalN (C : Cx G p s mt args meth c own cc nL ret nm A) {a n : Nat} {i : Int32} (hs : S a = .inr (6, n)) (hk : a < N) (hr : dcr (gi m a (ix i)) = none) (hi : vp_in i n) (hd : decode cc pc = .ok (.aaload, 1)) (k : V G S ov l p e s mt args below meth c nL fr A ad0 N0 Nf Rz N R (pc + 1) L (.null :: st) m t) : V G S ov l p e s mt args below meth c nL fr A ad0 N0 Nf Rz N R pc L (.int i :: .ref a :: st) m t := by
  refine V.step (fun ad H locs ls Rm cells slots Q hP hS hL kk => ?_) k
  refine va_aldq C.1 C.2.1 C.2.2.2.2.2.2.2.2.1 hP a 6 (f := fun j => (dcr (gi m a j)).map ad) (wl_get hk hs) rfl hi hd ?_
  show W _ _ _ _ _ _ _ _ _ _ _ _ _ _ _ (F0 _ _ _ (va_rf ((dcr (gi m a (ix i))).map ad) :: _))
  rw [hr]
  exact kk
theorem V.aalR (C : Cx G p s mt args meth c own cc nL ret nm A) {a b n : Nat} {i : Int32} (hs : S a = .inr (6, n)) (hk : a < N) (hr : dcr (gi m a (ix i)) = some b) (hi : vp_in i n) (hd : decode cc pc = .ok (.aaload, 1)) (k : V G S ov l p e s mt args below meth c nL fr A ad0 N0 Nf Rz N R (pc + 1) L (.ref b :: st) m t) : V G S ov l p e s mt args below meth c nL fr A ad0 N0 Nf Rz N R pc L (.int i :: .ref a :: st) m t := by
  refine V.step (fun ad H locs ls Rm cells slots Q hP hS hL kk => ?_) k
  refine va_aldq C.1 C.2.1 C.2.2.2.2.2.2.2.2.1 hP a 6 (f := fun j => (dcr (gi m a j)).map ad) (wl_get hk hs) rfl hi hd ?_
  show W _ _ _ _ _ _ _ _ _ _ _ _ _ _ _ (F0 _ _ _ (va_rf ((dcr (gi m a (ix i))).map ad) :: _))
  rw [hr]
  exact kk
theorem V.congR {R2 : Rf} (h : ∀ ad, wl G S ad N R2 m = wl G S ad N R m) (k : V G S ov l p e s mt args below meth c nL fr A ad0 N0 Nf Rz N R2 pc L st m t) : V G S ov l p e s mt args below meth c nL fr A ad0 N0 Nf Rz N R pc L st m t := by
  intro r mF ht
  obtain ⟨hp, k⟩ := k r mF ht
  exact ⟨hp, fun ad H locs ls h0 h1 h2 h3 h4 h5 => k ad H locs ls h0 h1 (by rw [h]; exact h2) (by rw [h]; exact h3) h4 h5⟩
end VR
