theorem chk_in {β : Type} {j n : Nat} {t : Option β} (h : j < n) (hn : n ≤ 1000000) : chk (inb (nI j) n) t = t := by
  have h1 : inb (nI j) n = true := by
    unfold inb ix
    rw [nI_clamp (by omega)]
    simp only [Bool.and_eq_true, decide_eq_true_eq]
    exact ⟨nI_pos (by omega), h⟩
  rw [chk_eq, if_pos h1]
theorem chk_tt {β : Type} {b : Bool} {t : Option β} (h : b = true) : chk b t = t := by rw [chk_eq, if_pos h]
theorem bnd_eq {β γ : Type} (r : β) (m : Mem) (g : β → Mem → Option γ) : bnd (some (r, m)) g = g r m := rfl
theorem lt_eq {β γ : Type} (x : β) (k : β → γ) : lt x k = k x := rfl
theorem ix_nI {j : Nat} (h : j < 2147483648) : ix (nI j) = j := nI_clamp h
theorem ile_t {β : Type} {a b : Nat} {x y : β} (h : a ≤ b) (hb : b < 2147483648) : (if nI a ≤ nI b then x else y) = x := if_pos (nI_le h hb)
theorem ile_f {β : Type} {a b : Nat} {x y : β} (h : b < a) (ha : a < 2147483648) : (if nI a ≤ nI b then x else y) = y := if_neg (fun q => absurd ((nI_leI (by omega) (by omega)).mp q) (by omega))
theorem ilt_t {β : Type} {a b : Nat} {x y : β} (h : a < b) (hb : b < 2147483648) : (if nI a < nI b then x else y) = x := if_pos (nI_lt h hb)
theorem ilt_f {β : Type} {a b : Nat} {x y : β} (h : b ≤ a) (ha : a < 2147483648) : (if nI a < nI b then x else y) = y := if_neg (fun q => absurd ((nI_ltI (by omega) (by omega)).mp q) (by omega))
theorem ieq_t {β : Type} {a b : Nat} {x y : β} (h : a = b) : (if nI a = nI b then x else y) = x := if_pos (by rw [h])
theorem ieq_f {β : Type} {a b : Nat} {x y : β} (h : a ≠ b) (ha : a < 2147483648) (hb : b < 2147483648) : (if nI a = nI b then x else y) = y := if_neg (fun q => h ((nI_eq (by omega) (by omega)).mp q))
theorem nadd (a b : Nat) : nI a + nI b = nI (a + b) := nI_add a b
theorem nmul (a b : Nat) : nI a * nI b = nI (a * b) := pk_mul a b
theorem nsub {a b : Nat} (h : b ≤ a) : nI a - nI b = nI (a - b) := pk_sub h
def NO : Int32 := -1
theorem n1 : (-1 : Int32) = NO := rfl
theorem L0 : (0 : Int32) = nI 0 := rfl
theorem L1 : (1 : Int32) = nI 1 := rfl
theorem L2 : (2 : Int32) = nI 2 := rfl
theorem L3 : (3 : Int32) = nI 3 := rfl
theorem L4 : (4 : Int32) = nI 4 := rfl
theorem L5 : (5 : Int32) = nI 5 := rfl
theorem L6 : (6 : Int32) = nI 6 := rfl
theorem L7 : (7 : Int32) = nI 7 := rfl
theorem L8 : (8 : Int32) = nI 8 := rfl
theorem L9 : (9 : Int32) = nI 9 := rfl
theorem L10 : (10 : Int32) = nI 10 := rfl
theorem L11 : (11 : Int32) = nI 11 := rfl
theorem L12 : (12 : Int32) = nI 12 := rfl
theorem L13 : (13 : Int32) = nI 13 := rfl
theorem L14 : (14 : Int32) = nI 14 := rfl
theorem L20 : (20 : Int32) = nI 20 := rfl
theorem L24 : (24 : Int32) = nI 24 := rfl
theorem L25 : (25 : Int32) = nI 25 := rfl
theorem L32 : (32 : Int32) = nI 32 := rfl
theorem L33 : (33 : Int32) = nI 33 := rfl
theorem L40 : (40 : Int32) = nI 40 := rfl
theorem L41 : (41 : Int32) = nI 41 := rfl
theorem L60 : (60 : Int32) = nI 60 := rfl
theorem L63 : (63 : Int32) = nI 63 := rfl
theorem L64 : (64 : Int32) = nI 64 := rfl
theorem L100 : (100 : Int32) = nI 100 := rfl
theorem L112 : (112 : Int32) = nI 112 := rfl
theorem L120 : (120 : Int32) = nI 120 := rfl
theorem L128 : (128 : Int32) = nI 128 := rfl
theorem L129 : (129 : Int32) = nI 129 := rfl
theorem L153 : (153 : Int32) = nI 153 := rfl
theorem L161 : (161 : Int32) = nI 161 := rfl
theorem L162 : (162 : Int32) = nI 162 := rfl
theorem L163 : (163 : Int32) = nI 163 := rfl
theorem L255 : (255 : Int32) = nI 255 := rfl
theorem L256 : (256 : Int32) = nI 256 := rfl
theorem L900 : (900 : Int32) = nI 900 := rfl
theorem L903 : (903 : Int32) = nI 903 := rfl
theorem L999 : (999 : Int32) = nI 999 := rfl
theorem L1000 : (1000 : Int32) = nI 1000 := rfl
theorem L1195 : (1195 : Int32) = nI 1195 := rfl
theorem L1196 : (1196 : Int32) = nI 1196 := rfl
theorem L2000 : (2000 : Int32) = nI 2000 := rfl
theorem L2096 : (2096 : Int32) = nI 2096 := rfl
theorem L3000 : (3000 : Int32) = nI 3000 := rfl
theorem L3001 : (3001 : Int32) = nI 3001 := rfl
theorem L3002 : (3002 : Int32) = nI 3002 := rfl
theorem L3003 : (3003 : Int32) = nI 3003 := rfl
theorem L3004 : (3004 : Int32) = nI 3004 := rfl
theorem L3005 : (3005 : Int32) = nI 3005 := rfl
theorem L3006 : (3006 : Int32) = nI 3006 := rfl
theorem L3007 : (3007 : Int32) = nI 3007 := rfl
theorem L3008 : (3008 : Int32) = nI 3008 := rfl
def oN (x : Option Nat) : Int32 := match x with
  | none => NO
  | some n => nI n
theorem oN_none : oN none = NO := rfl
theorem oN_some (n : Nat) : oN (some n) = nI n := rfl
theorem nI_ne_m1 {n : Nat} (h : n < 2147483648) : ¬ nI n = NO := fun q => by
  have h1 := nI_toInt (show n < 2 ^ 31 by omega)
  rw [q] at h1
  have h2 : NO.toInt = -1 := by decide
  omega
theorem nI_inj {a b : Nat} (ha : a < 2147483648) (hb : b < 2147483648) (h : nI a = nI b) : a = b := (nI_eq (by omega) (by omega)).mp h
theorem m1_lt (n : Nat) (h : n < 2147483648) : NO < nI n := by
  rw [Int32.lt_iff_toInt_lt, nI_toInt (by omega)]
  have h2 : NO.toInt = -1 := by decide
  omega
theorem no_t {β : Type} {x : Option Nat} {u v : β} (h : x = none) : (if oN x = NO then u else v) = u := if_pos (by rw [h]; rfl)
theorem no_f {β : Type} {x : Option Nat} {n : Nat} {u v : β} (h : x = some n) (hn : n < 2147483648) : (if oN x = NO then u else v) = v := if_neg (by rw [h]; exact nI_ne_m1 hn)
/-! bits -/
theorem nand (a b : Nat) : nI a &&& nI b = nI (a &&& b) := by
  apply Int32.toBitVec_inj.mp
  show (BitVec.ofNat 32 a) &&& (BitVec.ofNat 32 b) = BitVec.ofNat 32 (a &&& b)
  exact (BitVec.ofNat_and).symm
theorem nor (a b : Nat) : nI a ||| nI b = nI (a ||| b) := by
  apply Int32.toBitVec_inj.mp
  show (BitVec.ofNat 32 a) ||| (BitVec.ofNat 32 b) = BitVec.ofNat 32 (a ||| b)
  exact (BitVec.ofNat_or).symm
theorem nxor (a b : Nat) : nI a ^^^ nI b = nI (a ^^^ b) := by
  apply Int32.toBitVec_inj.mp
  show (BitVec.ofNat 32 a) ^^^ (BitVec.ofNat 32 b) = BitVec.ofNat 32 (a ^^^ b)
  exact (BitVec.ofNat_xor).symm
theorem n_m1 : NO = nI 4294967295 := by decide
theorem nshl_ : ∀ t, t < 31 → nI 1 <<< (nI t &&& 31) = nI (2 ^ t) := by decide +kernel
theorem nshl {t : Nat} (h : t < 31) : nI 1 <<< (nI t &&& 31) = nI (2 ^ t) := nshl_ t h
theorem nshl2_ : ∀ t, t < 30 → nI 2 <<< (nI t &&& 31) = nI (2 ^ (t + 1)) := by decide +kernel
theorem nshl2 {t : Nat} (h : t < 30) : nI 2 <<< (nI t &&& 31) = nI (2 ^ (t + 1)) := nshl2_ t h
/-- a without the bits of b -/
def nd (a b : Nat) : Nat := a &&& (b ^^^ 4294967295)
theorem nandn (a b : Nat) : nI a &&& (nI b ^^^ NO) = nI (nd a b) := by rw [n_m1, nxor, nand]; rfl
theorem nd_bit {a b i : Nat} (ha : a < 2 ^ 32) : (nd a b).testBit i = (a.testBit i && !b.testBit i) := by
  unfold nd
  rw [Nat.testBit_and, Nat.testBit_xor]
  by_cases hi : i < 32
  · have h : Nat.testBit 4294967295 i = true := by
      rw [show (4294967295 : Nat) = 2 ^ 32 - 1 by decide, Nat.testBit_two_pow_sub_one]
      simp [hi]
    rw [h]
    simp
  · rw [Nat.testBit_lt_two_pow (show a < 2 ^ i from Nat.lt_of_lt_of_le ha (Nat.pow_le_pow_right (by decide) (by omega)))]
    simp
theorem nd_le (a b : Nat) : nd a b ≤ a := Nat.and_le_left
theorem bit0 {a t : Nat} (ha : a < 2147483648) : (nI a &&& nI (2 ^ t) = nI 0) ↔ a.testBit t = false := by
  rw [nand]
  constructor
  · intro h
    have h1 : a &&& 2 ^ t = 0 := nI_inj (Nat.lt_of_le_of_lt Nat.and_le_left ha) (by decide) h
    have h2 : (a &&& 2 ^ t).testBit t = false := by rw [h1]; simp
    rw [Nat.testBit_and, Nat.testBit_two_pow_self] at h2
    simpa using h2
  · intro h
    have h1 : a &&& 2 ^ t = 0 := by
      apply Nat.eq_of_testBit_eq
      intro i
      rw [Nat.testBit_and, Nat.testBit_two_pow, Nat.zero_testBit]
      by_cases hi : t = i
      · subst hi; simp [h]
      · simp [hi]
    rw [h1]
def bs : Nat → (Nat → Bool) → Nat
  | 0, _ => 0
  | n + 1, f => bs n f ||| (if f n then 2 ^ n else 0)
theorem bs_lt (f : Nat → Bool) : ∀ n, bs n f < 2 ^ n
  | 0 => by show 0 < 2 ^ 0; decide
  | n + 1 => by
    have h := bs_lt f n
    have h2 : 2 ^ n < 2 ^ (n + 1) := Nat.pow_lt_pow_right (by decide) (by omega)
    show bs n f ||| (if f n then 2 ^ n else 0) < _
    refine Nat.or_lt_two_pow (by omega) ?_
    split <;> omega
theorem bs_bit (f : Nat → Bool) : ∀ n i, (bs n f).testBit i = (decide (i < n) && f i)
  | 0, i => by show Nat.testBit 0 i = _; simp
  | n + 1, i => by
    have ih := bs_bit f n i
    show (bs n f ||| (if f n then 2 ^ n else 0)).testBit i = _
    rw [Nat.testBit_or, ih]
    by_cases hi : i = n
    · subst hi
      by_cases hf : f i = true
      · simp [hf, Nat.testBit_two_pow_self]
      · simp [hf]
    · have h2 : (if f n then 2 ^ n else 0).testBit i = false := by
        split
        · rw [Nat.testBit_two_pow]; simp; omega
        · simp
      rw [h2]
      have h3 : (decide (i < n + 1)) = decide (i < n) := by
        apply decide_eq_decide.mpr
        omega
      rw [h3]
      simp
theorem bs_cong {f g : Nat → Bool} : ∀ {n : Nat}, (∀ i, i < n → f i = g i) → bs n f = bs n g
  | 0, _ => rfl
  | n + 1, h => by
    show bs n f ||| (if f n then 2 ^ n else 0) = bs n g ||| (if g n then 2 ^ n else 0)
    rw [bs_cong (fun i hi => h i (by omega)), h n (by omega)]
theorem bs_lt14 {n : Nat} (f : Nat → Bool) (h : n ≤ 14) : bs n f < 16384 := Nat.lt_of_lt_of_le (bs_lt f n) (Nat.pow_le_pow_right (by decide) h : 2 ^ n ≤ 2 ^ 14)
theorem nat_ext {a b n : Nat} (ha : a < 2 ^ n) (hb : b < 2 ^ n) (h : ∀ i, i < n → a.testBit i = b.testBit i) : a = b := by
  apply Nat.eq_of_testBit_eq
  intro i
  by_cases hi : i < n
  · exact h i hi
  · rw [Nat.testBit_lt_two_pow (Nat.lt_of_lt_of_le ha (Nat.pow_le_pow_right (by decide) (by omega))), Nat.testBit_lt_two_pow (Nat.lt_of_lt_of_le hb (Nat.pow_le_pow_right (by decide) (by omega)))]
theorem bs_of {n v : Nat} (h : v < 2 ^ n) : bs n (fun i => v.testBit i) = v := by
  refine nat_ext (bs_lt _ n) h (fun i hi => ?_)
  rw [bs_bit]
  simp [hi]
/-- how many of f are true below n -/
def ct (f : Nat → Bool) : Nat → Nat
  | 0 => 0
  | n + 1 => ct f n + (if f n then 1 else 0)
theorem ct_le (f : Nat → Bool) : ∀ n, ct f n ≤ n
  | 0 => Nat.le_refl 0
  | n + 1 => by
    have := ct_le f n
    show ct f n + (if f n then 1 else 0) ≤ n + 1
    split <;> omega
theorem ct_cong {f g : Nat → Bool} : ∀ {n : Nat}, (∀ i, i < n → f i = g i) → ct f n = ct g n
  | 0, _ => rfl
  | n + 1, h => by
    show ct f n + _ = ct g n + _
    rw [ct_cong (fun i hi => h i (by omega)), h n (by omega)]
/-- the number of bits, as far as 14 -/
def pcn (v : Nat) : Nat := ct (fun i => v.testBit i) 14
theorem pcn_le (v : Nat) : pcn v ≤ 14 := ct_le _ 14
