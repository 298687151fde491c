/-! an abstract memory: the cells are numbered in the order in which they are made; a cell's shape is fixed by its number; ints and longs by cell and place; references of final fields by a table, others as ints -/
abbrev Sh : Type := Nat ⊕ (Nat × Nat)
abbrev Mem : Type := (Nat → Nat → Int32) × (Nat → Nat → Int64)
abbrev Rf : Type := Nat → Nat → Option Nat
abbrev Gt : Type := va_G × (Nat → ClassId) × (Nat → Nat) × (Nat → Nat)
def up2 {α : Type} (f : Nat → Nat → α) (a j : Nat) (v : α) : Nat → Nat → α := fun b i => if b = a ∧ i = j then v else f b i
def ix (i : Int32) : Nat := i.toNatClampNeg
def gi (m : Mem) (a j : Nat) : Int32 := m.1 a j
def gl (m : Mem) (a j : Nat) : Int64 := m.2 a j
def si (m : Mem) (a j : Nat) (v : Int32) : Mem := (up2 m.1 a j v, m.2)
def sl (m : Mem) (a j : Nat) (v : Int64) : Mem := (m.1, up2 m.2 a j v)
/-- a new cell: all 0 -/
def nw (m : Mem) (a : Nat) : Mem := ((fun b j => if b = a then 0 else m.1 b j), (fun b j => if b = a then 0 else m.2 b j))
/-- a copy of ints from cell to cell -/
def cpm (m : Mem) (a b sp dp n : Nat) : Mem := ((fun x j => if x = b then va_cpy (m.1 a) (m.1 b) sp dp n j else m.1 x j), m.2)
def dcr (v : Int32) : Option Nat := if v = 0 then none else some v.toNatClampNeg
def nF (c : Nat) : Nat := match vwCl[c]? with
  | some q => q.2.2
  | none => 0
/-- which fields hold what: 0 ints, 1 references that stay, 2 references told as ints -/
def fKT : List (List Nat) := [[1, 1], [1, 0, 0, 0, 1, 1, 0], [1, 0, 0], [1, 1], [1, 0], [0, 1, 1, 1, 1, 1], [0, 1, 1, 1, 1, 1], [1, 1, 1, 2, 0, 0, 0, 0, 0, 0], [0, 0, 0, 0, 0, 1, 1, 1, 1], [0, 0, 0, 1], [1, 1, 1, 0], [1, 0, 0, 1, 1, 1, 1, 1, 1, 1, 1, 1, 1, 1], [0, 1, 1, 1, 1, 0, 0, 0, 0, 0, 0, 0, 0, 0, 0, 1, 1, 1, 1, 0, 0, 1, 1, 1, 1, 0, 0, 0, 0, 1, 1, 1, 1]]
def fK (c j : Nat) : Nat := (fKT.getD c []).getD j 0
def fv (ad : Nat → Nat) (R : Rf) (m : Mem) (k c j : Nat) : Value := if fK c j = 0 then .int (gi m k j) else if fK c j = 1 then va_rf ((R k j).map ad) else va_rf ((dcr (gi m k j)).map ad)
def entS (G : Gt) (ad : Nat → Nat) (R : Rf) (m : Mem) (k : Nat) (x : Sh) : va_E := match x with
  | .inl c => .inr (c, (List.range (nF c)).map (fv ad R m k c))
  | .inr (ty, n) => .inl (G.2.1 ty, n, if ty < 3 then .inl (gi m k) else if ty = 3 then .inr (.inl (gl m k)) else if ty < 6 then .inr (.inr (.inr (.inr (fun j => (R k j).map ad)))) else .inr (.inr (.inr (.inr (fun j => (dcr (gi m k j)).map ad)))))
def wl (G : Gt) (S : Nat → Sh) (ad : Nat → Nat) (N : Nat) (R : Rf) (m : Mem) : va_W := (List.range N).map (fun k => (ad k, entS G ad R m k (S k)))
theorem wl_len (G : Gt) (S : Nat → Sh) (ad : Nat → Nat) (N : Nat) (R : Rf) (m : Mem) : (wl G S ad N R m).length = N := by simp [wl]
theorem wl_get {G : Gt} {S : Nat → Sh} {ad : Nat → Nat} {N : Nat} {R : Rf} {m : Mem} {k : Nat} {x : Sh} (hk : k < N) (hs : S k = x) : (wl G S ad N R m)[k]? = some (ad k, entS G ad R m k x) := by
  simp [wl, hk, hs]
theorem wl_of {G : Gt} {S : Nat → Sh} {ad : Nat → Nat} {N : Nat} {R : Rf} {m : Mem} {k : Nat} {q : Nat × va_E} (h : (wl G S ad N R m)[k]? = some q) : k < N ∧ q = (ad k, entS G ad R m k (S k)) := by
  have hk : k < N := by
    have h2 := (List.getElem?_eq_some_iff.mp h).1
    rwa [wl_len] at h2
  refine ⟨hk, ?_⟩
  rw [wl_get hk rfl] at h
  exact (Option.some.inj h).symm
/-- a world changed at one cell -/
theorem wl_set {G : Gt} {S : Nat → Sh} {ad : Nat → Nat} {N : Nat} {R R2 : Rf} {m m2 : Mem} {k : Nat} {x : Sh} {E : va_E} (hk : k < N) (hs : S k = x) (hE : entS G ad R2 m2 k x = E) (ho : ∀ b, b ≠ k → ∀ y, entS G ad R2 m2 b y = entS G ad R m b y) : (wl G S ad N R m).set k (ad k, E) = wl G S ad N R2 m2 := by
  apply List.ext_getElem?
  intro i
  rw [List.getElem?_set]
  by_cases hi : k = i
  · subst hi
    rw [if_pos rfl, if_pos (by rw [wl_len]; exact hk), wl_get hk hs, hE]
  · rw [if_neg hi]
    by_cases hl : i < N
    · rw [wl_get hl rfl, wl_get hl rfl, ho i (fun q => hi q.symm)]
    · rw [List.getElem?_eq_none (by rw [wl_len]; omega), List.getElem?_eq_none (by rw [wl_len]; omega)]
theorem up2_ne {α : Type} {f : Nat → Nat → α} {a j : Nat} {v : α} {b : Nat} (hb : b ≠ a) : up2 f a j v b = f b := by
  funext i
  simp [up2, hb]
theorem up2_at {α : Type} {f : Nat → Nat → α} {a j : Nat} {v : α} (i : Nat) : up2 f a j v a i = if i = j then v else f a i := by
  simp [up2]
theorem entS_cong {G : Gt} {ad : Nat → Nat} {R R2 : Rf} {m m2 : Mem} {b : Nat} (a1 : gi m2 b = gi m b) (a2 : gl m2 b = gl m b) (a3 : R2 b = R b) (y : Sh) : entS G ad R2 m2 b y = entS G ad R m b y := by
  cases y with
  | inl c =>
    have e : fv ad R2 m2 b c = fv ad R m b c := by funext i; simp only [fv, a1, a3]
    simp only [entS, e]
  | inr q => simp only [entS, a1, a2, a3]
theorem gi_si (m : Mem) (a j : Nat) (v : Int32) (b i : Nat) : gi (si m a j v) b i = if b = a ∧ i = j then v else gi m b i := rfl
theorem gl_sl (m : Mem) (a j : Nat) (v : Int64) (b i : Nat) : gl (sl m a j v) b i = if b = a ∧ i = j then v else gl m b i := rfl
theorem gi_sl (m : Mem) (a j : Nat) (v : Int64) (b i : Nat) : gi (sl m a j v) b i = gi m b i := rfl
theorem gl_si (m : Mem) (a j : Nat) (v : Int32) (b i : Nat) : gl (si m a j v) b i = gl m b i := rfl
theorem gi_cpm (m : Mem) (a b sp dp n x j : Nat) : gi (cpm m a b sp dp n) x j = if x = b ∧ dp ≤ j ∧ j < dp + n then gi m a (sp + (j - dp)) else gi m x j := by
  simp only [gi, cpm, va_cpy]
  by_cases h : x = b
  · subst h; simp
  · simp [h]
theorem gl_cpm (m : Mem) (a b sp dp n x j : Nat) : gl (cpm m a b sp dp n) x j = gl m x j := rfl
theorem wl_si_arr {G : Gt} {S : Nat → Sh} {ad : Nat → Nat} {N : Nat} {R : Rf} {m : Mem} {k ty n j : Nat} {v : Int32} (hk : k < N) (hs : S k = .inr (ty, n)) (ht : ty < 3) : (wl G S ad N R m).set k (ad k, .inl (G.2.1 ty, n, .inl (upd (gi m k) j v))) = wl G S ad N R (si m k j v) := by
  refine wl_set hk hs ?_ ?_
  · simp only [entS, ht, if_true]
    congr 4
    funext i
    simp [gi, si, up2_at, upd]
  · intro b hb y
    exact entS_cong (by first | rfl | exact up2_ne hb) (by first | rfl | exact up2_ne hb) (by first | rfl | exact up2_ne hb) y
theorem wl_cpm {G : Gt} {S : Nat → Sh} {ad : Nat → Nat} {N : Nat} {R : Rf} {m : Mem} {k a ty n sp dp w : Nat} (hk : k < N) (hs : S k = .inr (ty, n)) (ht : ty < 3) : (wl G S ad N R m).set k (ad k, .inl (G.2.1 ty, n, .inl (va_cpy (gi m a) (gi m k) sp dp w))) = wl G S ad N R (cpm m a k sp dp w) := by
  refine wl_set hk hs ?_ ?_
  · simp only [entS, ht, if_true]
    congr 4
    funext i
    simp [gi, cpm]
    rfl
  · intro b hb y
    exact entS_cong (m := m) (m2 := cpm m a k sp dp w) (by funext j; simp [gi, cpm, hb]) rfl rfl y
theorem wl_sl_arr {G : Gt} {S : Nat → Sh} {ad : Nat → Nat} {N : Nat} {R : Rf} {m : Mem} {k n j : Nat} {v : Int64} (hk : k < N) (hs : S k = .inr (3, n)) : (wl G S ad N R m).set k (ad k, .inl (G.2.1 3, n, .inr (.inl (vp_updL (gl m k) j v)))) = wl G S ad N R (sl m k j v) := by
  refine wl_set hk hs ?_ ?_
  · simp only [entS]
    simp only [if_neg (show ¬ (3 < 3) by decide), if_true]
    congr 5
    funext i
    simp [gl, sl, up2_at, vp_updL]
  · intro b hb y
    exact entS_cong (by first | rfl | exact up2_ne hb) (by first | rfl | exact up2_ne hb) (by first | rfl | exact up2_ne hb) y
theorem wl_sr_arr {G : Gt} {S : Nat → Sh} {ad : Nat → Nat} {N : Nat} {R : Rf} {m : Mem} {k ty n j b : Nat} (hk : k < N) (hs : S k = .inr (ty, n)) (ht : 3 < ty) (ht2 : ty < 6) : (wl G S ad N R m).set k (ad k, .inl (G.2.1 ty, n, .inr (.inr (.inr (.inr (va_up (fun j => (R k j).map ad) j (some (ad b)))))))) = wl G S ad N (up2 R k j (some b)) m := by
  refine wl_set hk hs ?_ ?_
  · simp only [entS]
    simp only [if_neg (show ¬ (ty < 3) by omega), if_neg (show ¬ (ty = 3) by omega), if_pos ht2]
    congr 7
    funext i
    simp only [up2_at, va_up]
    split <;> rfl
  · intro b hb y
    exact entS_cong (by first | rfl | exact up2_ne hb) (by first | rfl | exact up2_ne hb) (by first | rfl | exact up2_ne hb) y
theorem wl_sd_arr {G : Gt} {S : Nat → Sh} {ad : Nat → Nat} {N : Nat} {R : Rf} {m : Mem} {k ty n j b : Nat} (hk : k < N) (hs : S k = .inr (ty, n)) (ht : 5 < ty) (hb : dcr (nI b) = some b) : (wl G S ad N R m).set k (ad k, .inl (G.2.1 ty, n, .inr (.inr (.inr (.inr (va_up (fun j => (dcr (gi m k j)).map ad) j (some (ad b)))))))) = wl G S ad N R (si m k j (nI b)) := by
  refine wl_set hk hs ?_ ?_
  · simp only [entS]
    simp only [if_neg (show ¬ (ty < 3) by omega), if_neg (show ¬ (ty = 3) by omega), if_neg (show ¬ (ty < 6) by omega)]
    congr 7
    funext i
    simp only [gi, si, up2_at, va_up]
    split
    · rw [hb]; rfl
    · rfl
  · intro b hb y
    exact entS_cong (by first | rfl | exact up2_ne hb) (by first | rfl | exact up2_ne hb) (by first | rfl | exact up2_ne hb) y
theorem range_map_set {β : Type} (f : Nat → β) (N j : Nat) (v : β) : ((List.range N).map f).set j v = (List.range N).map (fun i => if i = j then v else f i) := by
  apply List.ext_getElem?
  intro i
  rw [List.getElem?_set]
  by_cases hi : j = i
  · subst hi
    by_cases hl : j < N
    · simp [hl]
    · simp [hl]
  · rw [if_neg hi]
    by_cases hl : i < N
    · simp [hl, Ne.symm hi]
    · simp [hl]
theorem wl_si_obj {G : Gt} {S : Nat → Sh} {ad : Nat → Nat} {N : Nat} {R : Rf} {m : Mem} {k c j : Nat} {v : Int32} (hk : k < N) (hs : S k = .inl c) (hr : fK c j = 0) : (wl G S ad N R m).set k (ad k, .inr (c, ((List.range (nF c)).map (fv ad R m k c)).set j (.int v))) = wl G S ad N R (si m k j v) := by
  refine wl_set hk hs ?_ ?_
  · simp only [entS, range_map_set]
    congr 3
    funext i
    simp only [fv, gi, si, up2_at]
    by_cases hi : i = j
    · subst hi; simp [hr]
    · simp [hi]
  · intro b hb y
    exact entS_cong (by first | rfl | exact up2_ne hb) (by first | rfl | exact up2_ne hb) (by first | rfl | exact up2_ne hb) y
theorem wl_sr_obj {G : Gt} {S : Nat → Sh} {ad : Nat → Nat} {N : Nat} {R : Rf} {m : Mem} {k c j b : Nat} (hk : k < N) (hs : S k = .inl c) (hr : fK c j = 1) : (wl G S ad N R m).set k (ad k, .inr (c, ((List.range (nF c)).map (fv ad R m k c)).set j (.ref (ad b)))) = wl G S ad N (up2 R k j (some b)) m := by
  refine wl_set hk hs ?_ ?_
  · simp only [entS, range_map_set]
    congr 3
    funext i
    simp only [fv, up2_at]
    by_cases hi : i = j
    · subst hi; simp [hr, va_rf]
    · simp [hi]
  · intro b hb y
    exact entS_cong (by first | rfl | exact up2_ne hb) (by first | rfl | exact up2_ne hb) (by first | rfl | exact up2_ne hb) y
theorem wl_sd_obj {G : Gt} {S : Nat → Sh} {ad : Nat → Nat} {N : Nat} {R : Rf} {m : Mem} {k c j b : Nat} (hk : k < N) (hs : S k = .inl c) (hr : fK c j = 2) (hb : dcr (nI b) = some b) : (wl G S ad N R m).set k (ad k, .inr (c, ((List.range (nF c)).map (fv ad R m k c)).set j (.ref (ad b)))) = wl G S ad N R (si m k j (nI b)) := by
  refine wl_set hk hs ?_ ?_
  · simp only [entS, range_map_set]
    congr 3
    funext i
    simp only [fv, gi, si, up2_at]
    by_cases hi : i = j
    · subst hi; simp [hr, hb, va_rf]
    · simp [hi]
  · intro b hb y
    exact entS_cong (by first | rfl | exact up2_ne hb) (by first | rfl | exact up2_ne hb) (by first | rfl | exact up2_ne hb) y
/-- the same world, told by tables that are alike below N -/
theorem wl_cong {G : Gt} {S : Nat → Sh} {ad ad2 : Nat → Nat} {N : Nat} {R R2 : Rf} {m m2 : Mem} (h : ∀ k, k < N → ad2 k = ad k ∧ entS G ad2 R2 m2 k (S k) = entS G ad R m k (S k)) : wl G S ad2 N R2 m2 = wl G S ad N R m := by
  unfold wl
  apply List.map_congr_left
  intro k hk
  have h2 := h k (List.mem_range.mp hk)
  rw [h2.1, h2.2]
theorem wl_push {G : Gt} {S : Nat → Sh} {ad ad2 : Nat → Nat} {N : Nat} {R R2 : Rf} {m m2 : Mem} {E : va_E} {q : Nat} (h : wl G S ad2 N R2 m2 = wl G S ad N R m) (hq : ad2 N = q) (hE : entS G ad2 R2 m2 N (S N) = E) : wl G S ad N R m ++ [(q, E)] = wl G S ad2 (N + 1) R2 m2 := by
  rw [← h, ← hq, ← hE]
  simp [wl, List.range_succ]
