/-! not by rfl, for the kernel's sake -/
theorem bq {β γ : Type} (r : β) (m : Mem) (g : β → Mem → Option γ) : bnd (some (r, m)) g = g r m := (bnd_eq r m g).symm.symm
theorem lq {β γ : Type} (x : β) (k : β → γ) : lt x k = k x := (lt_eq x k).symm.symm
theorem gsn {m : Mem} {a j b i : Nat} {v : Int32} (h : b ≠ a) : gi (si m a j v) b i = gi m b i := by rw [gi_si, if_neg (fun q => h q.1)]
theorem gss {m : Mem} {a j : Nat} {v : Int32} : gi (si m a j v) a j = v := by rw [gi_si, if_pos ⟨rfl, rfl⟩]
theorem gsi {m : Mem} {a j i : Nat} {v : Int32} (h : i ≠ j) : gi (si m a j v) a i = gi m a i := by rw [gi_si, if_neg (fun q => h q.2)]
/-! numbers as the code writes them (not by rfl: simp must carry what decides along) -/
theorem kn1 : (-1 : Int32) = NO := n1.symm.symm
theorem K0 : (0 : Int32) = nI 0 := L0.symm.symm
theorem K1 : (1 : Int32) = nI 1 := L1.symm.symm
theorem K2 : (2 : Int32) = nI 2 := L2.symm.symm
theorem K3 : (3 : Int32) = nI 3 := L3.symm.symm
theorem K4 : (4 : Int32) = nI 4 := L4.symm.symm
theorem K5 : (5 : Int32) = nI 5 := L5.symm.symm
theorem K6 : (6 : Int32) = nI 6 := L6.symm.symm
theorem K7 : (7 : Int32) = nI 7 := L7.symm.symm
theorem K8 : (8 : Int32) = nI 8 := L8.symm.symm
theorem K9 : (9 : Int32) = nI 9 := L9.symm.symm
theorem K10 : (10 : Int32) = nI 10 := L10.symm.symm
theorem K11 : (11 : Int32) = nI 11 := L11.symm.symm
theorem K12 : (12 : Int32) = nI 12 := L12.symm.symm
theorem K13 : (13 : Int32) = nI 13 := L13.symm.symm
theorem K14 : (14 : Int32) = nI 14 := L14.symm.symm
theorem K20 : (20 : Int32) = nI 20 := L20.symm.symm
theorem K24 : (24 : Int32) = nI 24 := L24.symm.symm
theorem K25 : (25 : Int32) = nI 25 := L25.symm.symm
theorem K32 : (32 : Int32) = nI 32 := L32.symm.symm
theorem K33 : (33 : Int32) = nI 33 := L33.symm.symm
theorem K40 : (40 : Int32) = nI 40 := L40.symm.symm
theorem K41 : (41 : Int32) = nI 41 := L41.symm.symm
theorem K60 : (60 : Int32) = nI 60 := L60.symm.symm
theorem K63 : (63 : Int32) = nI 63 := L63.symm.symm
theorem K64 : (64 : Int32) = nI 64 := L64.symm.symm
theorem K100 : (100 : Int32) = nI 100 := L100.symm.symm
theorem K112 : (112 : Int32) = nI 112 := L112.symm.symm
theorem K120 : (120 : Int32) = nI 120 := L120.symm.symm
theorem K128 : (128 : Int32) = nI 128 := L128.symm.symm
theorem K129 : (129 : Int32) = nI 129 := L129.symm.symm
theorem K153 : (153 : Int32) = nI 153 := L153.symm.symm
theorem K161 : (161 : Int32) = nI 161 := L161.symm.symm
theorem K162 : (162 : Int32) = nI 162 := L162.symm.symm
theorem K163 : (163 : Int32) = nI 163 := L163.symm.symm
theorem K255 : (255 : Int32) = nI 255 := L255.symm.symm
theorem K256 : (256 : Int32) = nI 256 := L256.symm.symm
theorem K900 : (900 : Int32) = nI 900 := L900.symm.symm
theorem K903 : (903 : Int32) = nI 903 := L903.symm.symm
theorem K999 : (999 : Int32) = nI 999 := L999.symm.symm
theorem K1000 : (1000 : Int32) = nI 1000 := L1000.symm.symm
theorem K1195 : (1195 : Int32) = nI 1195 := L1195.symm.symm
theorem K1196 : (1196 : Int32) = nI 1196 := L1196.symm.symm
theorem K2000 : (2000 : Int32) = nI 2000 := L2000.symm.symm
theorem K2096 : (2096 : Int32) = nI 2096 := L2096.symm.symm
theorem K3000 : (3000 : Int32) = nI 3000 := L3000.symm.symm
theorem K3001 : (3001 : Int32) = nI 3001 := L3001.symm.symm
theorem K3002 : (3002 : Int32) = nI 3002 := L3002.symm.symm
theorem K3003 : (3003 : Int32) = nI 3003 := L3003.symm.symm
theorem K3004 : (3004 : Int32) = nI 3004 := L3004.symm.symm
theorem K3005 : (3005 : Int32) = nI 3005 := L3005.symm.symm
theorem K3006 : (3006 : Int32) = nI 3006 := L3006.symm.symm
theorem K3007 : (3007 : Int32) = nI 3007 := L3007.symm.symm
theorem K3008 : (3008 : Int32) = nI 3008 := L3008.symm.symm
/-! branches, whatever decides them -/
theorem jle_t {β : Type} {a b : Nat} {x y : β} {D : Decidable (nI a ≤ nI b)} (h : a ≤ b) (hb : b < 2147483648) : @ite β (nI a ≤ nI b) D x y = x := if_pos (nI_le h hb)
theorem jle_f {β : Type} {a b : Nat} {x y : β} {D : Decidable (nI a ≤ nI b)} (h : b < a) (ha : a < 2147483648) : @ite β (nI a ≤ nI b) D x y = y := if_neg (fun q => absurd ((nI_leI (by omega) (by omega)).mp q) (by omega))
theorem jlt_t {β : Type} {a b : Nat} {x y : β} {D : Decidable (nI a < nI b)} (h : a < b) (hb : b < 2147483648) : @ite β (nI a < nI b) D x y = x := if_pos (nI_lt h hb)
theorem jlt_f {β : Type} {a b : Nat} {x y : β} {D : Decidable (nI a < nI b)} (h : b ≤ a) (ha : a < 2147483648) : @ite β (nI a < nI b) D x y = y := if_neg (fun q => absurd ((nI_ltI (by omega) (by omega)).mp q) (by omega))
theorem jeq_t {β : Type} {a b : Nat} {x y : β} {D : Decidable (nI a = nI b)} (h : a = b) : @ite β (nI a = nI b) D x y = x := if_pos (by rw [h])
theorem jeq_f {β : Type} {a b : Nat} {x y : β} {D : Decidable (nI a = nI b)} (h : a ≠ b) (ha : a < 2147483648) (hb : b < 2147483648) : @ite β (nI a = nI b) D x y = y := if_neg (fun q => h (nI_inj ha hb q))
theorem jno_t {β : Type} {x : Option Nat} {u v : β} {D : Decidable (oN x = NO)} (h : x = none) : @ite β (oN x = NO) D u v = u := if_pos (by rw [h]; rfl)
theorem jno_f {β : Type} {x : Option Nat} {n : Nat} {u v : β} {D : Decidable (oN x = NO)} (h : x = some n) (hn : n < 2147483648) : @ite β (oN x = NO) D u v = v := if_neg (by rw [h]; exact nI_ne_m1 hn)
theorem jm_f {β : Type} {n : Nat} {u v : β} {D : Decidable (nI n = NO)} (hn : n < 2147483648) : @ite β (nI n = NO) D u v = v := if_neg (nI_ne_m1 hn)
theorem jm_t {β : Type} {u v : β} {D : Decidable (NO = NO)} : @ite β (NO = NO) D u v = u := if_pos rfl
theorem jml_t {β : Type} {n : Nat} {u v : β} {D : Decidable (NO ≤ nI n)} (hn : n < 2147483648) : @ite β (NO ≤ nI n) D u v = u := if_pos (by
  have := m1_lt n hn
  rw [Int32.lt_iff_toInt_lt] at this
  rw [Int32.le_iff_toInt_le]
  omega)
theorem nadn {k : Nat} (h : 1 ≤ k) : nI k + NO = nI (k - 1) := by
  rw [← nsub h]
  show nI k + (-1 : Int32) = nI k - (1 : Int32)
  rw [Int32.sub_eq_add_neg]
/-! single bits -/
theorem sh_n : ∀ n, n < 32 → ((nI n &&& 31).toBitVec.smod 32).toNat = n := by decide +kernel
theorem sh_m : ∀ n, n < 32 → ((Int32.toInt64 (nI n) &&& 63).toBitVec.smod 64).toNat = n := by decide +kernel
theorem nI_bits (v i : Nat) : (nI v).toBitVec.getLsbD i = (decide (i < 32) && v.testBit i) := by
  show (BitVec.ofNat 32 v).getLsbD i = _
  rw [BitVec.getLsbD_ofNat]
theorem nI_msb {v : Nat} (h : v < 2147483648) : (nI v).toBitVec.msb = false := by
  show (BitVec.ofNat 32 v).msb = _
  rw [BitVec.msb_eq_getLsbD_last, BitVec.getLsbD_ofNat]
  rw [Nat.testBit_lt_two_pow (show v < 2 ^ (32 - 1) by omega)]
  rfl
theorem bit_of (v k : Nat) : (v >>> k) % 2 = if v.testBit k then 1 else 0 := by
  rw [Nat.testBit_eq_decide_div_mod_eq, Nat.shiftRight_eq_div_pow]
  by_cases h : v / 2 ^ k % 2 = 1
  · simp [h]
  · have : v / 2 ^ k % 2 = 0 := by omega
    simp [this]
theorem nshr {v k : Nat} (hv : v < 2147483648) (hk : k < 32) : (nI v >>> (nI k &&& 31)) &&& nI 1 = nI (if v.testBit k then 1 else 0) := by
  apply Int32.toBitVec_inj.mp
  apply BitVec.eq_of_getLsbD_eq
  intro i hi
  rw [Int32.toBitVec_and, Int32.toBitVec_shiftRight, BitVec.getLsbD_and, BitVec.sshiftRight', sh_n k hk, BitVec.getLsbD_sshiftRight, nI_bits, nI_bits, nI_bits, nI_msb hv]
  by_cases h0 : i = 0
  · subst h0
    by_cases hb : v.testBit k = true
    · simp [hb, hk]
    · simp [hb]
  · have e1 : Nat.testBit 1 i = false := by
      rw [show (1 : Nat) = 2 ^ 0 by rfl, Nat.testBit_two_pow]
      simp; omega
    have e2 : Nat.testBit (if v.testBit k then 1 else 0) i = false := by
      split
      · exact e1
      · simp
    rw [e1, e2]
    simp
theorem isIn_e {v k : Nat} (hv : v < 2147483648) (hk : k < 32) (m : Mem) : X12_isIn (Int32.toInt64 (nI v)) (nI k) m = some (nI (if v.testBit k then 1 else 0), m) := by
  have e : (Int32.toInt64 (nI v) >>> (Int32.toInt64 (nI k) &&& 63)) &&& 1 = Int32.toInt64 (nI (if v.testBit k then 1 else 0)) := by
    apply Int64.toBitVec_inj.mp
    apply BitVec.eq_of_getLsbD_eq
    intro i hi
    rw [Int64.toBitVec_and, Int64.toBitVec_shiftRight, BitVec.getLsbD_and, BitVec.sshiftRight', sh_m k hk, BitVec.getLsbD_sshiftRight]
    show (_ && (1#64).getLsbD i) = _
    rw [Int32.toBitVec_toInt64, Int32.toBitVec_toInt64, BitVec.getLsbD_signExtend, BitVec.getLsbD_signExtend, nI_bits, nI_bits, nI_msb hv, nI_msb (by split <;> decide), BitVec.msb_signExtend, nI_msb hv]
    by_cases h0 : i = 0
    · subst h0
      by_cases hb : v.testBit k = true
      · simp [hb, hk]; omega
      · simp [hb]
    · have e1 : (1#64).getLsbD i = false := by
        rw [show (1#64 : BitVec 64) = BitVec.ofNat 64 1 by rfl, BitVec.getLsbD_ofNat, show (1 : Nat) = 2 ^ 0 by rfl, Nat.testBit_two_pow]
        simp; omega
      have e2 : Nat.testBit (if v.testBit k then 1 else 0) i = false := by
        split
        · rw [show (1 : Nat) = 2 ^ 0 by rfl, Nat.testBit_two_pow]
          simp; omega
        · simp
      rw [e1, e2]
      simp
  rw [X12_isIn, e]
  by_cases hb : v.testBit k = true
  · rw [if_pos hb]; rfl
  · rw [if_neg hb]; rfl
theorem pcn_m {v : Nat} (hv : v < 2147483648) (m : Mem) : ∀ n k, k ≤ 14 → 14 - k < n → X12_bitsOf_b4 n (nI v) (nI (ct (fun i => v.testBit i) k)) (nI k) m = some (nI (pcn v), m) := by
  intro n
  induction n with
  | zero => intro k _ h; omega
  | succ n ih =>
    intro k hk hn
    rw [X12_bitsOf_b4]
    rcases Nat.eq_or_lt_of_le hk with he | hl
    · subst he
      simp (disch := omega) only [nadn, gsn, gss, gsi, if_true, if_false, chk_in, chk_tt, bq, lq, ix_nI, jle_t, jle_f, jlt_t, jlt_f, jeq_t, jeq_f, nadd, nmul, nsub, nshl, nshl2, nor, nand, nandn, ↓kn1, K0, K1, K2, K3, K4, K5, K6, K7, K8, K9, K10, K11, K12, K13, K14, K20, K24, K25, K32, K33, K40, K41, K60, K63, K64, K100, K112, K120, K128, K129, K153, K161, K162, K163, K255, K256, K900, K903, K999, K1000, K1195, K1196, K2000, K2096, K3000, K3001, K3002, K3003, K3004, K3005, K3006, K3007, K3008]
      rfl
    · have ih2 := ih (k + 1) (by omega) (by omega)
      simp (disch := omega) only [nadn, gsn, gss, gsi, if_true, if_false, chk_in, chk_tt, bq, lq, ix_nI, jle_t, jle_f, jlt_t, jlt_f, jeq_t, jeq_f, nadd, nmul, nsub, nshl, nshl2, nor, nand, nandn, ↓kn1, K0, K1, K2, K3, K4, K5, K6, K7, K8, K9, K10, K11, K12, K13, K14, K20, K24, K25, K32, K33, K40, K41, K60, K63, K64, K100, K112, K120, K128, K129, K153, K161, K162, K163, K255, K256, K900, K903, K999, K1000, K1195, K1196, K2000, K2096, K3000, K3001, K3002, K3003, K3004, K3005, K3006, K3007, K3008, nshr]
      exact ih2
theorem m_bitsOf {v : Nat} (hv : v < 2147483648) (m : Mem) : X12_bitsOf (nI v) m = some (nI (pcn v), m) :=
  pcn_m hv m FU 0 (by omega) (by unfold FU; omega)
