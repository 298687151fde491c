/-! the best matching, the first of like ones -/
abbrev PL : Type := List (Nat × Nat)
def sgI (G : Nat → Nat → Int32) : PL → Int
  | [] => 0
  | (p, q) :: l => (G p q).toInt + sgI G l
def vl (G : Nat → Nat → Int32) : PL → Int
  | [] => 0
  | (p, q) :: l => 100000000 + (G p q).toInt + vl G l
def cmb (G : Nat → Nat → Int32) (a b : Option PL) : Option PL := match a, b with
  | none, b => b
  | some x, none => some x
  | some x, some y => if vl G x < vl G y then some y else some x
theorem cmb_n (G : Nat → Nat → Int32) (a : Option PL) : cmb G a none = a := by cases a <;> rfl
theorem cmb_assoc (G : Nat → Nat → Int32) (a b c : Option PL) : cmb G (cmb G a b) c = cmb G a (cmb G b c) := by
  cases a with
  | none => rfl
  | some x =>
    cases b with
    | none => rfl
    | some y =>
      cases c with
      | none => rw [cmb_n, cmb_n]
      | some z =>
        show cmb G (if vl G x < vl G y then some y else some x) (some z) = cmb G (some x) (if vl G y < vl G z then some z else some y)
        by_cases h1 : vl G x < vl G y
        · rw [if_pos h1]
          by_cases h2 : vl G y < vl G z
          · rw [if_pos h2]
            show (if vl G y < vl G z then some z else some y) = (if vl G x < vl G z then some z else some x)
            rw [if_pos h2, if_pos (by omega)]
          · rw [if_neg h2]
            show (if vl G y < vl G z then some z else some y) = (if vl G x < vl G y then some y else some x)
            rw [if_neg h2, if_pos h1]
        · rw [if_neg h1]
          by_cases h2 : vl G y < vl G z
          · rw [if_pos h2]
          · rw [if_neg h2]
            show (if vl G x < vl G z then some z else some x) = (if vl G x < vl G y then some y else some x)
            rw [if_neg (by omega), if_neg h1]
def fmx (G : Nat → Nat → Int32) : List PL → Option PL
  | [] => none
  | l :: L => cmb G (some l) (fmx G L)
theorem fmx_app (G : Nat → Nat → Int32) : ∀ A B : List PL, fmx G (A ++ B) = cmb G (fmx G A) (fmx G B)
  | [], B => rfl
  | l :: A, B => by
    show cmb G (some l) (fmx G (A ++ B)) = cmb G (cmb G (some l) (fmx G A)) (fmx G B)
    rw [fmx_app G A B, cmb_assoc]
theorem cmb_map (G : Nat → Nat → Int32) (x : Nat × Nat) (a b : Option PL) : cmb G (a.map (fun l => x :: l)) (b.map (fun l => x :: l)) = (cmb G a b).map (fun l => x :: l) := by
  cases a with
  | none => rfl
  | some y =>
    cases b with
    | none => rfl
    | some z =>
      show (if vl G (x :: y) < vl G (x :: z) then some (x :: z) else some (x :: y)) = (if vl G y < vl G z then some z else some y).map (fun l => x :: l)
      obtain ⟨a, b⟩ := x
      show (if 100000000 + (G a b).toInt + vl G y < 100000000 + (G a b).toInt + vl G z then some ((a, b) :: z) else some ((a, b) :: y)) = _
      by_cases h : vl G y < vl G z
      · rw [if_pos h, if_pos (by omega)]; rfl
      · rw [if_neg h, if_neg (by omega)]; rfl
theorem fmx_map (G : Nat → Nat → Int32) (x : Nat × Nat) : ∀ L : List PL, fmx G (L.map (fun l => x :: l)) = (fmx G L).map (fun l => x :: l)
  | [] => rfl
  | l :: L => by
    show cmb G (some (x :: l)) (fmx G (L.map (fun l => x :: l))) = (cmb G (some l) (fmx G L)).map (fun l => x :: l)
    rw [fmx_map G x L, ← cmb_map]
    rfl
/-- the best by its first person -/
def bq' (G : Nat → Nat → Int32) (F : Nat → Option PL) : Nat → Nat → Option PL → Option PL
  | 0, _, acc => acc
  | c + 1, q, acc => bq' G F c (q + 1) (cmb G acc (F q))
def bst (P : Nat) (O : Nat → Nat → Bool) (G : Nat → Nat → Int32) : Nat → Nat → Nat → PL
  | 0, _, _ => []
  | n + 1, p, S => if S.testBit p then (match cmb G (bq' G (fun q => if S.testBit q && O p q then some ((p, q) :: bst P O G n (p + 1) (nd (nd S (2 ^ p)) (2 ^ q))) else none) (P - (p + 1)) (p + 1) none) (some (bst P O G n (p + 1) (nd S (2 ^ p)))) with
    | some l => l
    | none => []) else bst P O G n (p + 1) S
theorem bq_acc (G : Nat → Nat → Int32) (F : Nat → Option PL) : ∀ c q acc, bq' G F c q acc = cmb G acc (bq' G F c q none)
  | 0, q, acc => (cmb_n G acc).symm
  | c + 1, q, acc => by
    rw [bq', bq', bq_acc G F c (q + 1) (cmb G acc (F q)), bq_acc G F c (q + 1) (cmb G none (F q)), cmb_assoc]
    rfl
theorem fmx_rq (G : Nat → Nat → Int32) (F : Nat → List PL) : ∀ c q, fmx G (rq F c q) = bq' G (fun q => fmx G (F q)) c q none
  | 0, q => rfl
  | c + 1, q => by
    rw [rq, fmx_app, fmx_rq G F c (q + 1), bq']
    exact (bq_acc G (fun q => fmx G (F q)) c (q + 1) (fmx G (F q))).symm
theorem cmb_s (G : Nat → Nat → Int32) (a : Option PL) (l : PL) : ∃ x, cmb G a (some l) = some x := by
  cases a with
  | none => exact ⟨l, rfl⟩
  | some y =>
    show ∃ x, (if vl G y < vl G l then some l else some y) = some x
    split
    · exact ⟨_, rfl⟩
    · exact ⟨_, rfl⟩
theorem fmx_rl {P : Nat} {O : Nat → Nat → Bool} {G : Nat → Nat → Int32} : ∀ n p S, fmx G (rl P O n p S) = some (bst P O G n p S)
  | 0, p, S => rfl
  | n + 1, p, S => by
    rw [rl, bst]
    split
    · rw [fmx_app, fmx_rq, fmx_rl n]
      have e : (fun q => fmx G (if S.testBit q && O p q then (rl P O n (p + 1) (nd (nd S (2 ^ p)) (2 ^ q))).map (fun l => (p, q) :: l) else [])) = (fun q => if S.testBit q && O p q then some ((p, q) :: bst P O G n (p + 1) (nd (nd S (2 ^ p)) (2 ^ q))) else none) := by
        funext q
        split
        · rw [fmx_map, fmx_rl n]; rfl
        · rfl
      rw [e]
      obtain ⟨x, hx⟩ := cmb_s G (bq' G (fun q => if S.testBit q && O p q then some ((p, q) :: bst P O G n (p + 1) (nd (nd S (2 ^ p)) (2 ^ q))) else none) (P - (p + 1)) (p + 1) none) (bst P O G n (p + 1) (nd S (2 ^ p)))
      rw [hx]
    · exact fmx_rl n _ _
/-- lists of pairs, as they may be -/
def okL (P lo : Nat) (l : PL) : Prop := ∀ x, x ∈ l → lo ≤ x.1 ∧ x.1 < x.2 ∧ x.2 < P
theorem okL.mono {P lo lo2 : Nat} {l : PL} (h : okL P lo l) (hl : lo2 ≤ lo) : okL P lo2 l := fun x hx => ⟨by have := (h x hx).1; omega, (h x hx).2⟩
theorem okL.cons {P lo p q : Nat} {l : PL} (h : okL P lo l) (h1 : lo ≤ p) (h2 : p < q) (h3 : q < P) : okL P lo ((p, q) :: l) := fun x hx => by
  rcases List.mem_cons.mp hx with rfl | hx
  · exact ⟨h1, h2, h3⟩
  · exact h x hx
theorem mem_rq {α : Type} {F : Nat → List α} {x : α} : ∀ c q, x ∈ rq F c q → ∃ i, q ≤ i ∧ i < q + c ∧ x ∈ F i
  | 0, q, h => by cases h
  | c + 1, q, h => by
    rw [rq] at h
    rcases List.mem_append.mp h with h | h
    · exact ⟨q, by omega, by omega, h⟩
    · obtain ⟨i, h1, h2, h3⟩ := mem_rq c (q + 1) h
      exact ⟨i, by omega, by omega, h3⟩
theorem rl_ok {P : Nat} {O : Nat → Nat → Bool} : ∀ n p S, n + p = P → ∀ l, l ∈ rl P O n p S → okL P p l ∧ l.length ≤ n
  | 0, p, S, _, l, h => by
    have h : l ∈ [[]] := h
    rw [List.mem_singleton] at h
    subst h
    exact ⟨fun x hx => (by cases hx), Nat.le_refl _⟩
  | n + 1, p, S, hp, l, h => by
    rw [rl] at h
    split at h
    · rcases List.mem_append.mp h with h | h
      · obtain ⟨q, h1, h2, h3⟩ := mem_rq _ _ h
        split at h3
        · obtain ⟨l', hl', rfl⟩ := List.mem_map.mp h3
          have := rl_ok n (p + 1) _ (by omega) l' hl'
          exact ⟨(this.1.mono (by omega)).cons (by omega) (by omega) (by omega), by rw [List.length_cons]; omega⟩
        · cases h3
      · have := rl_ok n (p + 1) _ (by omega) l h
        exact ⟨this.1.mono (by omega), by omega⟩
    · have := rl_ok n (p + 1) _ (by omega) l h
      exact ⟨this.1.mono (by omega), by omega⟩
theorem sg_ok {P : Nat} {G : Nat → Nat → Int32} (hG : GB P G) : ∀ l : PL, okL P 0 l → l.length ≤ 8 → (sgd G l).toInt = sgI G l ∧ -1000000 * (l.length : Int) ≤ sgI G l ∧ sgI G l ≤ 1000000 * (l.length : Int) ∧ vl G l = 100000000 * (l.length : Int) + sgI G l
  | [], _, _ => ⟨show (nI 0).toInt = 0 by decide, by simp [sgI], by simp [sgI], by simp [vl, sgI]⟩
  | (p, q) :: l, h, hl => by
    rw [List.length_cons] at hl
    obtain ⟨h1, h2, h3, h4⟩ := sg_ok hG l (fun x hx => h x (List.mem_cons_of_mem _ hx)) (by omega)
    have hx := h (p, q) List.mem_cons_self
    have hg := hG p q (by have := hx.2.1; have := hx.2.2; omega) hx.2.2
    have e : sgI G ((p, q) :: l) = (G p q).toInt + sgI G l := rfl
    have e2 : vl G ((p, q) :: l) = 100000000 + (G p q).toInt + vl G l := rfl
    have hl' : (((p, q) :: l).length : Int) = (l.length : Int) + 1 := by rw [List.length_cons]; omega
    have hb : (l.length : Int) ≤ 7 := by omega
    refine ⟨?_, by omega, by omega, by omega⟩
    show (G p q + sgd G l).toInt = _
    rw [Int32.toInt_add, h1, e, Int.bmod_def]
    omega
/-- what the search has kept, told by a matching -/
def BR (G : Nat → Nat → Int32) (o : Option PL) (st : Bs) : Prop := match o with
  | none => st.1 = NO
  | some l => st.1 = nI l.length ∧ st.2.1 = sgd G l ∧ ∀ i, st.2.2.2 i = oN (apw (fun _ => none) l i)
theorem fold_br {P : Nat} {O : Nat → Nat → Bool} {G : Nat → Nat → Int32} {just : Nat} (hG : GB P G) : ∀ (L : List PL) (o : Option PL) (st : Bs), (∀ l, l ∈ L → okL P 0 l ∧ l.length ≤ 8) → (∀ l, o = some l → okL P 0 l ∧ l.length ≤ 8) → BR G o st → BR G (cmb G o (fmx G L)) (L.foldl (fst' P O G false just (fun _ => none) 0 (nI 0)) st)
  | [], o, st, _, _, h => by rw [fmx, cmb_n]; exact h
  | l :: L, o, st, hL, ho, h => by
    have hl := hL l List.mem_cons_self
    rw [List.foldl_cons, fmx, ← cmb_assoc]
    have key : BR G (cmb G o (some l)) (fst' P O G false just (fun _ => none) 0 (nI 0) st l) := by
      have z : nI 0 + sgd G l = sgd G l := by rw [← K0]; simp
      rw [fst', Nat.zero_add, z, lst]
      cases o with
      | none =>
        have h : st.1 = NO := h
        have hb : btr P O G false (apw (fun _ => none) l) l.length (sgd G l) st = true := by
          rw [btr, h]
          simp [m1_lt l.length (by omega)]
        rw [hb, if_pos rfl]
        exact ⟨rfl, rfl, fun i => rfl⟩
      | some b =>
        obtain ⟨h1, h2, h3⟩ := h
        have hbk := ho b rfl
        obtain ⟨x1, x2, x3, x4⟩ := sg_ok hG l hl.1 hl.2
        obtain ⟨y1, y2, y3, y4⟩ := sg_ok hG b hbk.1 hbk.2
        have hl8 : (l.length : Int) ≤ 8 := by omega
        have hb8 : (b.length : Int) ≤ 8 := by omega
        show BR G (if vl G b < vl G l then some l else some b) _
        have hb : btr P O G false (apw (fun _ => none) l) l.length (sgd G l) st = decide (vl G b < vl G l) := by
          rw [btr, h1, h2]
          simp only [if_false, Bool.false_eq_true]
          by_cases c1 : b.length < l.length
          · have q1 : nI b.length < nI l.length := nI_lt c1 (by omega)
            have q2 : vl G b < vl G l := by omega
            simp [q1, q2]
          · have q1 : ¬ nI b.length < nI l.length := fun q => c1 ((nI_ltI (by omega) (by omega)).mp q)
            by_cases c2 : l.length = b.length
            · have q2 : nI l.length = nI b.length := by rw [c2]
              by_cases c3 : sgI G b < sgI G l
              · have q3 : ¬ sgd G l ≤ sgd G b := by rw [le_iff]; omega
                have q4 : vl G b < vl G l := by omega
                simp [q2, q3, q4]
              · have q3 : sgd G l ≤ sgd G b := by rw [le_iff]; omega
                have q4 : ¬ vl G b < vl G l := by omega
                simp [q1, q3, q4]
            · have q2 : ¬ nI l.length = nI b.length := fun q => c2 (nI_inj (by omega) (by omega) q)
              have q4 : ¬ vl G b < vl G l := by omega
              simp [q1, q2, q4]
        rw [hb]
        by_cases c : vl G b < vl G l
        · rw [if_pos c, decide_eq_true c, if_pos rfl]
          exact ⟨rfl, rfl, fun i => rfl⟩
        · rw [if_neg c, decide_eq_false c, if_neg (by decide)]
          exact ⟨h1, h2, h3⟩
    refine fold_br hG L _ _ (fun l' h' => hL l' (List.mem_cons_of_mem _ h')) (fun l' hl' => ?_) key
    cases o with
    | none =>
      injection hl' with hl'
      subst hl'
      exact hl
    | some b =>
      have hl' : (if vl G b < vl G l then some l else some b) = some l' := hl'
      split at hl'
      · injection hl' with hl'
        subst hl'
        exact hl
      · injection hl' with hl'
        subst hl'
        exact ho _ rfl
theorem fold_best {P : Nat} {O : Nat → Nat → Bool} {G : Nat → Nat → Int32} {just : Nat} {st : Bs} (hP : P ≤ 8) (hG : GB P G) (hs : st.1 = NO) : BR G (some (bst P O G P 0 (evy P))) ((rl P O P 0 (evy P)).foldl (fst' P O G false just (fun _ => none) 0 (nI 0)) st) := by
  have h := fold_br (O := O) (just := just) hG (rl P O P 0 (evy P)) none st (fun l hl => by
    have := rl_ok P 0 _ (by omega) l hl
    exact ⟨this.1, by omega⟩) (fun l e => by cases e) hs
  rw [fmx_rl] at h
  exact h
