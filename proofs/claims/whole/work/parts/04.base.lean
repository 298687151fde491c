/-! an abstract heap: kinds of the cells, ints, longs, references by cell and place -/
abbrev Sh : Type := Nat ⊕ (Nat × Nat)
abbrev Hp : Type := List Sh × (Nat → Nat → Int32) × (Nat → Nat → Int64) × (Nat → Nat → Option Nat)
abbrev Gt : Type := va_G × (Nat → ClassId) × (Nat → Nat) × (Nat → Nat)
def up2 {α : Type} (f : Nat → Nat → α) (a j : Nat) (v : α) : Nat → Nat → α := fun b i => if b = a ∧ i = j then v else f b i
def gi (h : Hp) (a j : Nat) : Int32 := h.2.1 a j
def gl (h : Hp) (a j : Nat) : Int64 := h.2.2.1 a j
def gr (h : Hp) (a j : Nat) : Option Nat := h.2.2.2 a j
def sh (h : Hp) (a : Nat) : Option Sh := h.1[a]?
def si (h : Hp) (a j : Nat) (v : Int32) : Hp := (h.1, up2 h.2.1 a j v, h.2.2)
def sl (h : Hp) (a j : Nat) (v : Int64) : Hp := (h.1, h.2.1, up2 h.2.2.1 a j v, h.2.2.2)
def sr (h : Hp) (a j : Nat) (v : Option Nat) : Hp := (h.1, h.2.1, h.2.2.1, up2 h.2.2.2 a j v)
/-- a new cell, all 0 -/
def nw (h : Hp) (x : Sh) : Hp := (h.1 ++ [x], (fun a j => if a = h.1.length then 0 else h.2.1 a j), (fun a j => if a = h.1.length then 0 else h.2.2.1 a j), (fun a j => if a = h.1.length then none else h.2.2.2 a j))
def nF (c : Nat) : Nat := match vwCl[c]? with
  | some q => q.2.2
  | none => 0
/-- which fields hold references -/
def fRT : List (List Bool) := [[true, true], [true, false, false, false, true, true, false], [true, false, false], [true, true], [true, false], [false, true, true, true, true, true], [false, true, true, true, true, true], [true, true, true, true, false, false, false, false, false, false], [false, false, false, false, false, true, true, true, true], [false, false, false, true], [true, true, true, false], [true, false, false, true, true, true, true, true, true, true, true, true, true, true], [false, true, true, true, true, false, false, false, false, false, false, false, false, false, false, true, true, true, true, false, false, true, true, true, true, false, false, false, false, true, true, true, true]]
def fR (c j : Nat) : Bool := (fRT.getD c []).getD j false
def fv (ad : Nat → Nat) (h : Hp) (k c j : Nat) : Value := if fR c j then va_rf ((gr h k j).map ad) else .int (gi h k j)
def entS (G : Gt) (ad : Nat → Nat) (h : Hp) (k : Nat) (x : Sh) : va_E := match x with
  | .inl c => .inr (c, (List.range (nF c)).map (fv ad h k c))
  | .inr (ty, n) => .inl (G.2.1 ty, n, if ty < 3 then .inl (gi h k) else if ty = 3 then .inr (.inl (gl h k)) else .inr (.inr (.inr (.inr (fun j => (gr h k j).map ad)))))
def ent (G : Gt) (ad : Nat → Nat) (h : Hp) (k : Nat) : va_E := match h.1[k]? with
  | some x => entS G ad h k x
  | none => .inr (0, [])
def wl (G : Gt) (ad : Nat → Nat) (h : Hp) : va_W := (List.range h.1.length).map (fun k => (ad k, ent G ad h k))
theorem wl_len (G : Gt) (ad : Nat → Nat) (h : Hp) : (wl G ad h).length = h.1.length := by simp [wl]
theorem sh_lt {h : Hp} {k : Nat} {x : Sh} (hs : sh h k = some x) : k < h.1.length := (List.getElem?_eq_some_iff.mp hs).1
theorem wl_get0 {G : Gt} {ad : Nat → Nat} {h : Hp} {k : Nat} (hk : k < h.1.length) : (wl G ad h)[k]? = some (ad k, ent G ad h k) := by
  simp [wl, hk]
theorem wl_get {G : Gt} {ad : Nat → Nat} {h : Hp} {k : Nat} {x : Sh} (hs : sh h k = some x) : (wl G ad h)[k]? = some (ad k, entS G ad h k x) := by
  rw [wl_get0 (sh_lt hs)]
  have h2 : h.1[k]? = some x := hs
  simp only [ent, h2]
/-- a world changed at one cell -/
theorem wl_set {G : Gt} {ad : Nat → Nat} {h h2 : Hp} {k : Nat} {x : Sh} {E : va_E} (hs : sh h k = some x) (h1 : h2.1 = h.1) (hE : entS G ad h2 k x = E) (ho : ∀ b, b ≠ k → ∀ y, entS G ad h2 b y = entS G ad h b y) : (wl G ad h).set k (ad k, E) = wl G ad h2 := by
  have hk := sh_lt hs
  apply List.ext_getElem?
  intro i
  rw [List.getElem?_set]
  by_cases hi : k = i
  · subst hi
    have hs2 : sh h2 k = some x := by show h2.1[k]? = some x; rw [h1]; exact hs
    rw [if_pos rfl, if_pos (by rw [wl_len]; exact hk), wl_get hs2, hE]
  · rw [if_neg hi]
    by_cases hl : i < h.1.length
    · have hl2 : i < h2.1.length := by rw [h1]; exact hl
      rw [wl_get0 hl, wl_get0 hl2]
      have e1 : ent G ad h2 i = ent G ad h i := by
        unfold ent
        rw [h1]
        cases h.1[i]? with
        | none => rfl
        | some y => exact ho i (fun q => hi q.symm) y
      rw [e1]
    · rw [List.getElem?_eq_none (by rw [wl_len]; omega), List.getElem?_eq_none (by rw [wl_len, h1]; omega)]
theorem up2_ne {α : Type} {f : Nat → Nat → α} {a j : Nat} {v : α} {b : Nat} (hb : b ≠ a) : up2 f a j v b = f b := by
  funext i
  simp [up2, hb]
theorem up2_at {α : Type} {f : Nat → Nat → α} {a j : Nat} {v : α} (i : Nat) : up2 f a j v a i = if i = j then v else f a i := by
  simp [up2]
theorem entS_cong {G : Gt} {ad : Nat → Nat} {h h2 : Hp} {b : Nat} (a1 : gi h2 b = gi h b) (a2 : gl h2 b = gl h b) (a3 : gr h2 b = gr h b) (y : Sh) : entS G ad h2 b y = entS G ad h b y := by
  cases y with
  | inl c =>
    have e : fv ad h2 b c = fv ad h b c := by funext i; simp only [fv, a1, a3]
    simp only [entS, e]
  | inr q => simp only [entS, a1, a2, a3]
theorem wl_si_arr {G : Gt} {ad : Nat → Nat} {h : Hp} {k ty n j : Nat} {v : Int32} (hs : sh h k = some (.inr (ty, n))) (ht : ty < 3) : (wl G ad h).set k (ad k, .inl (G.2.1 ty, n, .inl (upd (gi h k) j v))) = wl G ad (si h k j v) := by
  refine wl_set hs rfl ?_ ?_
  · simp only [entS, ht, if_true]
    congr 4
    funext i
    simp [gi, si, up2_at, upd]
  · intro b hb y
    exact entS_cong (by first | rfl | exact up2_ne hb) (by first | rfl | exact up2_ne hb) (by first | rfl | exact up2_ne hb) y
theorem wl_sl_arr {G : Gt} {ad : Nat → Nat} {h : Hp} {k n j : Nat} {v : Int64} (hs : sh h k = some (.inr (3, n))) : (wl G ad h).set k (ad k, .inl (G.2.1 3, n, .inr (.inl (vp_updL (gl h k) j v)))) = wl G ad (sl h k j v) := by
  refine wl_set hs rfl ?_ ?_
  · simp only [entS]
    simp only [if_neg (show ¬ (3 < 3) by decide), if_true]
    congr 5
    funext i
    simp [gl, sl, up2_at, vp_updL]
  · intro b hb y
    exact entS_cong (by first | rfl | exact up2_ne hb) (by first | rfl | exact up2_ne hb) (by first | rfl | exact up2_ne hb) y
theorem wl_sr_arr {G : Gt} {ad : Nat → Nat} {h : Hp} {k ty n j : Nat} {v : Option Nat} (hs : sh h k = some (.inr (ty, n))) (ht : 3 < ty) : (wl G ad h).set k (ad k, .inl (G.2.1 ty, n, .inr (.inr (.inr (.inr (va_up (fun j => (gr h k j).map ad) j (v.map ad))))))) = wl G ad (sr h k j v) := by
  refine wl_set hs rfl ?_ ?_
  · simp only [entS]
    simp only [if_neg (show ¬ (ty < 3) by omega), if_neg (show ¬ (ty = 3) by omega)]
    congr 7
    funext i
    simp only [gr, sr, up2_at, va_up]
    split <;> rfl
  · intro b hb y
    exact entS_cong (by first | rfl | exact up2_ne hb) (by first | rfl | exact up2_ne hb) (by first | rfl | exact up2_ne hb) y
theorem range_map_set {β : Type} (f : Nat → β) (N j : Nat) (v : β) : ((List.range N).map f).set j v = (List.range N).map (fun i => if i = j then v else f i) := by
  apply List.ext_getElem?
  intro i
  rw [List.getElem?_set]
  by_cases hi : j = i
  · subst hi
    by_cases hl : j < N
    · simp [hl]
    · simp [hl]
  · rw [if_neg hi]
    by_cases hl : i < N
    · simp [hl, Ne.symm hi]
    · simp [hl]
theorem wl_si_obj {G : Gt} {ad : Nat → Nat} {h : Hp} {k c j : Nat} {v : Int32} (hs : sh h k = some (.inl c)) (hr : fR c j = false) : (wl G ad h).set k (ad k, .inr (c, ((List.range (nF c)).map (fv ad h k c)).set j (.int v))) = wl G ad (si h k j v) := by
  refine wl_set hs rfl ?_ ?_
  · simp only [entS, range_map_set]
    congr 3
    funext i
    simp only [fv, gi, gr, si, up2_at]
    by_cases hi : i = j
    · subst hi; simp [hr]
    · simp [hi]
  · intro b hb y
    exact entS_cong (by first | rfl | exact up2_ne hb) (by first | rfl | exact up2_ne hb) (by first | rfl | exact up2_ne hb) y
theorem wl_sr_obj {G : Gt} {ad : Nat → Nat} {h : Hp} {k c j : Nat} {v : Option Nat} (hs : sh h k = some (.inl c)) (hr : fR c j = true) : (wl G ad h).set k (ad k, .inr (c, ((List.range (nF c)).map (fv ad h k c)).set j (va_rf (v.map ad)))) = wl G ad (sr h k j v) := by
  refine wl_set hs rfl ?_ ?_
  · simp only [entS, range_map_set]
    congr 3
    funext i
    simp only [fv, gi, gr, sr, up2_at]
    by_cases hi : i = j
    · subst hi; simp [hr]
    · simp [hi]
  · intro b hb y
    exact entS_cong (by first | rfl | exact up2_ne hb) (by first | rfl | exact up2_ne hb) (by first | rfl | exact up2_ne hb) y
/-- a world with a new cell -/
theorem wl_nw {G : Gt} {ad : Nat → Nat} {h : Hp} {x : Sh} {E : va_E} (hE : entS G ad (nw h x) h.1.length x = E) : wl G ad h ++ [(ad h.1.length, E)] = wl G ad (nw h x) := by
  apply List.ext_getElem?
  intro i
  have hlen : (nw h x).1.length = h.1.length + 1 := by simp [nw]
  by_cases hi : i < h.1.length
  · rw [List.getElem?_append_left (by rw [wl_len]; exact hi), wl_get0 hi, wl_get0 (by omega)]
    have hne : i ≠ h.1.length := by omega
    have e1 : ent G ad (nw h x) i = ent G ad h i := by
      unfold ent
      rw [show (nw h x).1[i]? = h.1[i]? by simp [nw, List.getElem?_append_left hi]]
      cases h.1[i]? with
      | none => rfl
      | some y => exact entS_cong (by funext j; simp [gi, nw, hne]) (by funext j; simp [gl, nw, hne]) (by funext j; simp [gr, nw, hne]) y
    rw [e1]
  · by_cases h2 : i = h.1.length
    · subst h2
      rw [List.getElem?_append_right (by rw [wl_len]; omega), wl_len, Nat.sub_self, wl_get (x := x) (by simp [sh, nw]), hE]
      rfl
    · rw [List.getElem?_eq_none (by simp [wl_len]; omega), List.getElem?_eq_none (by rw [wl_len, hlen]; omega)]
