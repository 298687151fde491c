abbrev Lf : Type := (Nat → Nat) × (Nat → Option Nat) × (Nat → Nat → Option Nat) × Nat
def lag (x : Lf) : Nat → Nat := x.1
def lmt (x : Lf) : Nat → Option Nat := x.2.1
def lsn (x : Lf) : Nat → Nat → Option Nat := x.2.2.1
def lyr (x : Lf) : Nat := x.2.2.2
abbrev Ru : Type := Nat × Nat × Nat × Nat × Nat × (Nat → Nat) × (Nat → Nat) × Option (List Nat) × Option (List Nat)
def rT (r : Ru) : Nat := r.1
def rP (r : Ru) : Nat := r.2.1
def rbar (r : Ru) : Nat := r.2.2.1
def rroom (r : Ru) : Nat := r.2.2.2.1
def rlin (r : Ru) : Nat := r.2.2.2.2.1
def rwan (r : Ru) : Nat → Nat := r.2.2.2.2.2.1
def rtr (r : Ru) : Nat → Nat := r.2.2.2.2.2.2.1
def rgood (r : Ru) : Option (List Nat) := r.2.2.2.2.2.2.2.1
def rmay (r : Ru) : Option (List Nat) := r.2.2.2.2.2.2.2.2
def has (x : Lf) (p t : Nat) : Bool := (lsn x p t).isSome
def ls (r : Ru) (x : Lf) (p : Nat) : Nat := bs (rT r) (fun t => has x p t)
def wh (r : Ru) (x : Lf) (t : Nat) : Nat := bs (rP r) (fun p => has x p t)
def egood (r : Ru) : List Nat := (rgood r).getD [1001, 1002, 2, 3002, 3001]
def emay (r : Ru) : List Nat := (rmay r).getD [1]
/-- a step of a law, as the class writes it -/
def ccode (v : Nat) : Int32 := if v < 1000 then nI v else if v < 3000 then -1 - nI (v - 1000) else if v = 3000 then -8 else if v = 3001 then -9 else if v = 3002 then -10 else if v = 3003 then -11 else if v = 3004 then -12 else if v = 3005 then -13 else if v = 3006 then -15 else if v = 3007 then -16 else -14
def LawC (m : Mem) (a : Nat) (cd : List Nat) : Prop := gi m a 1 = nI cd.length ∧ cd.length ≤ 900 ∧ ∀ i, i < cd.length → gi m (a + 1) i = ccode (cd.getD i 0)
/-- rules as the class holds them at cell a -/
def CR (r : Ru) (m : Mem) (a : Nat) : Prop := gi m a 0 = nI (rT r) ∧ gi m a 1 = nI (rP r) ∧ gi m a 2 = nI (rbar r) ∧ gi m a 3 = nI (rroom r) ∧ gi m a 4 = nI (rlin r) ∧ (∀ t, t < rT r → gi m (a + 1) t = nI (rwan r t)) ∧ (∀ p, p < rP r → gi m (a + 2) p = nI (rtr r p)) ∧ LawC m (a + 3) (egood r) ∧ LawC m (a + 5) (emay r)
/-- a life as the class holds it at cell a -/
def CL (r : Ru) (x : Lf) (m : Mem) (a : Nat) : Prop := gi m a 0 = nI (lyr x) ∧ (∀ p, p < rP r → gi m (a + 1) p = nI (lag x p)) ∧ (∀ p, p < rP r → gi m (a + 2) p = oN (lmt x p)) ∧ (∀ p, p < rP r → gi m (a + 3) p = nI (ls r x p)) ∧ (∀ t, t < rT r → gi m (a + 4) t = nI (wh r x t)) ∧ (∀ p t v, p < rP r → t < rT r → lsn x p t = some v → gi m (a + 5) (p * 14 + t) = nI v)
/-- rules and life as the reference holds them in the array c from place o on -/
def MLaw (m : Mem) (c o k : Nat) (cd : Option (List Nat)) : Prop := match cd with
  | none => gi m c (o + 5 + k) = nI 0
  | some cd => gi m c (o + 5 + k) = nI 1 ∧ gi m c (o + 9 + k) = nI cd.length ∧ ∃ f, gi m c (o + 7 + k) = nI f ∧ f + cd.length ≤ 900 ∧ ∀ i, i < cd.length → gi m c (o + 1196 + f + i) = nI (cd.getD i 0)
def MR (r : Ru) (m : Mem) (c o : Nat) : Prop := gi m c o = nI (rlin r) ∧ gi m c (o + 1) = nI (rT r) ∧ gi m c (o + 2) = nI (rP r) ∧ gi m c (o + 3) = nI (rbar r) ∧ gi m c (o + 4) = nI (rroom r) ∧ (∀ t, t < rT r → gi m c (o + 11 + t) = nI (rwan r t)) ∧ (∀ p, p < rP r → gi m c (o + 25 + p) = nI (rtr r p)) ∧ MLaw m c o 0 (rgood r) ∧ MLaw m c o 1 (rmay r)
def ML (r : Ru) (x : Lf) (m : Mem) (c o : Nat) : Prop := (∀ p, p < rP r → gi m c (o + p) = nI (lag x p)) ∧ (∀ p t, p < rP r → t < rT r → gi m c (o + 8 + 14 * p + t) = oN (lsn x p t)) ∧ (∀ p, p < rP r → gi m c (o + 120 + p) = oN (lmt x p)) ∧ gi m c (o + 128) = nI (lyr x)
/-- the kinds of what a law leaves: false a number, true a truth; with how many at most -/
def tyc : List Nat → List Bool → Option (List Bool)
  | [], st => some st
  | v :: cd, st => if st.length < 20 then (if v < 1000 then tyc cd (false :: st) else if 1000 ≤ v ∧ v < 1007 then tyc cd (false :: st) else match st with
    | true :: st1 => if v = 3008 then tyc cd (true :: st1) else (match st1 with
      | true :: st2 => if v = 3006 ∨ v = 3007 then tyc cd (true :: st2) else none
      | _ => none)
    | false :: false :: st2 => if v = 3000 ∨ v = 3001 ∨ v = 3002 then tyc cd (false :: st2) else if v = 3003 ∨ v = 3004 ∨ v = 3005 then tyc cd (true :: st2) else none
    | _ => none) else none
def WR (r : Ru) : Prop := rT r ≤ 14 ∧ rP r ≤ 8 ∧ rbar r ≤ 999 ∧ 1 ≤ rroom r ∧ rroom r ≤ 14 ∧ rlin r ≤ 900 ∧ (∀ t, t < rT r → rwan r t ≤ 99) ∧ (∀ p, p < rP r → rtr r p < 2 ^ rT r) ∧ tyc (egood r) [] = some [false] ∧ (rmay r = none ∨ tyc (emay r) [] = some [true])
def WL (r : Ru) (x : Lf) (B : Nat) : Prop := (∀ p, p < rP r → lag x p ≤ B) ∧ lyr x ≤ B ∧ (∀ p t v, lsn x p t = some v → v ≤ B) ∧ ∀ p q, p < rP r → lmt x p = some q → q < rP r ∧ q ≠ p ∧ lmt x q = some p
/-- what is not of the cells S stays -/
def Fr (S : Nat → Prop) (m m2 : Mem) : Prop := ∀ c, ¬ S c → ∀ j, gi m2 c j = gi m c j ∧ gl m2 c j = gl m c j
theorem Fr.rf {S : Nat → Prop} {m : Mem} : Fr S m m := fun _ _ _ => ⟨rfl, rfl⟩
theorem Fr.tr {S : Nat → Prop} {m m1 m2 : Mem} (h1 : Fr S m m1) (h2 : Fr S m1 m2) : Fr S m m2 := fun c hc j => ⟨by rw [(h2 c hc j).1, (h1 c hc j).1], by rw [(h2 c hc j).2, (h1 c hc j).2]⟩
theorem Fr.mono {S S2 : Nat → Prop} {m m1 : Mem} (h : Fr S m m1) (hs : ∀ c, S c → S2 c) : Fr S2 m m1 := fun c hc j => h c (fun q => hc (hs c q)) j
theorem Fr.si {S : Nat → Prop} {m : Mem} {a j : Nat} {v : Int32} (h : S a) : Fr S m (si m a j v) := fun c hc i => ⟨by rw [gi_si, if_neg (fun (q : c = a ∧ i = j) => hc (q.1 ▸ h))], rfl⟩
theorem CL.fr {r : Ru} {x : Lf} {m m2 : Mem} {a : Nat} (h : CL r x m a) (hf : ∀ c, a ≤ c → c ≤ a + 5 → ∀ j, gi m2 c j = gi m c j) : CL r x m2 a := by
  obtain ⟨h1, h2, h3, h4, h5, h6⟩ := h
  refine ⟨?_, fun p hp => ?_, fun p hp => ?_, fun p hp => ?_, fun t ht => ?_, fun p t v hp ht hv => ?_⟩
  · rw [hf a (by omega) (by omega)]; exact h1
  · rw [hf _ (by omega) (by omega)]; exact h2 p hp
  · rw [hf _ (by omega) (by omega)]; exact h3 p hp
  · rw [hf _ (by omega) (by omega)]; exact h4 p hp
  · rw [hf _ (by omega) (by omega)]; exact h5 t ht
  · rw [hf _ (by omega) (by omega)]; exact h6 p t v hp ht hv
theorem LawC.fr {m m2 : Mem} {a : Nat} {cd : List Nat} (h : LawC m a cd) (hf : ∀ c, a ≤ c → c ≤ a + 1 → ∀ j, gi m2 c j = gi m c j) : LawC m2 a cd := by
  obtain ⟨h1, h2, h3⟩ := h
  refine ⟨?_, h2, fun i hi => ?_⟩
  · rw [hf a (by omega) (by omega)]; exact h1
  · rw [hf _ (by omega) (by omega)]; exact h3 i hi
theorem CR.fr {r : Ru} {m m2 : Mem} {a : Nat} (h : CR r m a) (hf : ∀ c, a ≤ c → c ≤ a + 6 → ∀ j, gi m2 c j = gi m c j) : CR r m2 a := by
  obtain ⟨h1, h2, h3, h4, h5, h6, h7, h8, h9⟩ := h
  refine ⟨?_, ?_, ?_, ?_, ?_, fun t ht => ?_, fun p hp => ?_, h8.fr (fun c h1 h2 => hf c (by omega) (by omega)), h9.fr (fun c h1 h2 => hf c (by omega) (by omega))⟩
  · rw [hf a (by omega) (by omega)]; exact h1
  · rw [hf a (by omega) (by omega)]; exact h2
  · rw [hf a (by omega) (by omega)]; exact h3
  · rw [hf a (by omega) (by omega)]; exact h4
  · rw [hf a (by omega) (by omega)]; exact h5
  · rw [hf _ (by omega) (by omega)]; exact h6 t ht
  · rw [hf _ (by omega) (by omega)]; exact h7 p hp
theorem ls_lt {r : Ru} (h : rT r ≤ 14) (x : Lf) (p : Nat) : ls r x p < 16384 := bs_lt14 _ h
theorem wh_lt {r : Ru} (h : rP r ≤ 8) (x : Lf) (t : Nat) : wh r x t < 256 := Nat.lt_of_lt_of_le (bs_lt _ _) (Nat.pow_le_pow_right (by decide) h : 2 ^ rP r ≤ 2 ^ 8)
