/-! bytes -/
theorem sx_all : ∀ n, n < 256 → (nI n).toInt8.toInt32 = sx n := by decide +kernel
theorem low8 (w : Int32) : ∃ n, n < 256 ∧ w &&& nI 255 = nI n ∧ w.toInt8.toInt32 = sx n := by
  have hb : ∀ i, (w.toBitVec.toNat % 256).testBit i = (decide (i < 8) && w.toBitVec.getLsbD i) := fun i => by
    rw [show (256 : Nat) = 2 ^ 8 by decide, Nat.testBit_mod_two_pow]
    rfl
  refine ⟨w.toBitVec.toNat % 256, Nat.mod_lt _ (by decide), ?_, ?_⟩
  · apply Int32.toBitVec_inj.mp
    apply BitVec.eq_of_getLsbD_eq
    intro i hi
    rw [Int32.toBitVec_and, BitVec.getLsbD_and, nI_bits, nI_bits, hb, show (255 : Nat) = 2 ^ 8 - 1 by decide, Nat.testBit_two_pow_sub_one]
    simp [hi, Bool.and_comm]
  · rw [← sx_all _ (Nat.mod_lt _ (by decide))]
    congr 1
    apply Int8.toBitVec_inj.mp
    rw [Int32.toBitVec_toInt8, Int32.toBitVec_toInt8]
    apply BitVec.eq_of_getLsbD_eq
    intro i hi
    have h32 : i < 32 := by omega
    rw [BitVec.getLsbD_signExtend, BitVec.getLsbD_signExtend, nI_bits, hb]
    simp [hi, h32]
/-- ints written one by one -/
def wig (m : Mem) (c o n : Nat) (f : Nat → Int32) : Mem := ((fun b j => if b = c ∧ o ≤ j ∧ j < o + n then f (j - o) else m.1 b j), m.2)
theorem gi_wig (m : Mem) (c o n : Nat) (f : Nat → Int32) (b j : Nat) : gi (wig m c o n f) b j = if b = c ∧ o ≤ j ∧ j < o + n then f (j - o) else gi m b j := rfl
theorem wig_z (m : Mem) (c o : Nat) (f : Nat → Int32) : wig m c o 0 f = m := by
  refine Prod.ext (funext fun b => funext fun j => ?_) rfl
  show (if b = c ∧ o ≤ j ∧ j < o + 0 then _ else _) = _
  rw [if_neg (by omega)]
theorem wig_s (m : Mem) (c o k : Nat) (f : Nat → Int32) (j : Nat) (hj : j = o + k) : si (wig m c o k f) c j (f k) = wig m c o (k + 1) f := by
  subst hj
  refine Prod.ext (funext fun b => funext fun i => ?_) rfl
  show (if b = c ∧ i = o + k then f k else if b = c ∧ o ≤ i ∧ i < o + k then f (i - o) else m.1 b i) = (if b = c ∧ o ≤ i ∧ i < o + (k + 1) then f (i - o) else m.1 b i)
  by_cases h1 : b = c ∧ i = o + k
  · rw [if_pos h1, if_pos (by omega), show i - o = k by omega]
  · rw [if_neg h1]
    by_cases h2 : b = c ∧ o ≤ i ∧ i < o + k
    · rw [if_pos h2, if_pos (by omega)]
    · rw [if_neg h2, if_neg (by omega)]
theorem si_3 {m : Mem} {a i b j : Nat} {u v w : Int32} (h : ¬ (b = a ∧ j = i)) : si (si (si m a i u) b j v) a i w = si (si m b j v) a i w := by
  refine Prod.ext (funext fun c => funext fun k => ?_) rfl
  show (if c = a ∧ k = i then w else if c = b ∧ k = j then v else if c = a ∧ k = i then u else m.1 c k) = (if c = a ∧ k = i then w else if c = b ∧ k = j then v else m.1 c k)
  by_cases h1 : c = a ∧ k = i
  · rw [if_pos h1, if_pos h1]
  · rw [if_neg h1, if_neg h1, if_neg h1]
def shf (v : Int32) (j : Nat) : Int32 := v >>> (nI (24 - 8 * j) &&& 31)
def sel (a b c d e : Int32) (k : Nat) : Int32 := if k < 4 then a else if k < 8 then b else if k < 12 then c else if k < 16 then d else e
/-- the byte at a place of what is fed -/
def byt (a b c d e : Int32) (k : Nat) : Nat := ix (shf (sel a b c d e k) (k % 4) &&& nI 255)
theorem byt_ok (a b c d e : Int32) (k : Nat) : byt a b c d e k < 256 ∧ shf (sel a b c d e k) (k % 4) &&& nI 255 = nI (byt a b c d e k) ∧ (shf (sel a b c d e k) (k % 4)).toInt8.toInt32 = sx (byt a b c d e k) := by
  obtain ⟨n, h1, h2, h3⟩ := low8 (shf (sel a b c d e k) (k % 4))
  have e : byt a b c d e k = n := by rw [byt, h2, ix_nI (by omega)]
  rw [e]
  exact ⟨h1, h2, h3⟩
/-- the class's memory with so many bytes more -/
def FdC (m : Mem) (nt : Nat) (f : Nat → Nat) (k : Nat) : Mem := si (wig m 1 nt k (fun i => sx (f i))) 0 1 (nI (nt + k))
def FdM (m : Mem) (nt : Nat) (f : Nat → Nat) (k : Nat) : Mem := si (wig m 3 nt k (fun i => nI (f i))) 0 5 (nI (nt + k))
theorem nar8 (w : Int32) : vp_nar .byte w.toInt8.toInt32 = w.toInt8.toInt32 := by
  show w.toInt8.toInt32.toInt8.toInt32 = w.toInt8.toInt32
  rw [Int8.toInt8_toInt32]
theorem c_four_step {m : Mem} {nt k j n : Nat} {f : Nat → Nat} {v : Int32} (hk : nt + k < 900) (hj : j < 4) (hf : (shf v j).toInt8.toInt32 = sx (f k)) : X11_tapeFour_b3 (n + 1) v (nI (24 - 8 * j)) (FdC m nt f k) = X11_tapeFour_b3 n v (nI (24 - 8 * j) + (-8)) (FdC m nt f (k + 1)) := by
  have e : gi (FdC m nt f k) 0 1 = nI (nt + k) := gss
  rw [X11_tapeFour_b3, e, K900, if_neg (by rw [L0, nI_ltI (by omega) (by omega)]; omega), jle_f (by omega) (by omega), chk_in (by omega) (by omega), nar8, ix_nI (by omega), lq, gsn (by omega), e, lq, K1, nadd]
  have e2 : (v >>> (nI (24 - 8 * j) &&& 31)).toInt8.toInt32 = sx (f k) := hf
  rw [e2, FdC, si_3 (by omega), wig_s m 1 nt k (fun i => sx (f i)) _ rfl]
  rfl
theorem s8a : nI 24 + (-8) = nI (24 - 8 * 1) := by decide
theorem s8b : nI 16 + (-8) = nI (24 - 8 * 2) := by decide
theorem s8c : nI 8 + (-8) = nI (24 - 8 * 3) := by decide
theorem s8d : ¬ ¬ (nI 0 + (-8) < 0) := by decide
theorem c_four {m : Mem} {nt k : Nat} {f : Nat → Nat} {v : Int32} (hk : nt + k + 4 ≤ 900) (hf : ∀ j, j < 4 → (shf v j).toInt8.toInt32 = sx (f (k + j))) : X11_tapeFour v (FdC m nt f k) = some ((), FdC m nt f (k + 4)) := by
  have h1 := c_four_step (m := m) (n := 19999) (v := v) (f := f) (nt := nt) (k := k) (j := 0) (by omega) (by omega) (hf 0 (by omega))
  have h2 := c_four_step (m := m) (n := 19998) (v := v) (f := f) (nt := nt) (k := k + 1) (j := 1) (by omega) (by omega) (hf 1 (by omega))
  have h3 := c_four_step (m := m) (n := 19997) (v := v) (f := f) (nt := nt) (k := k + 2) (j := 2) (by omega) (by omega) (hf 2 (by omega))
  have h4 := c_four_step (m := m) (n := 19996) (v := v) (f := f) (nt := nt) (k := k + 3) (j := 3) (by omega) (by omega) (hf 3 (by omega))
  rw [X11_tapeFour]
  refine Eq.trans (show _ = X11_tapeFour_b3 (19999 + 1) v (nI (24 - 8 * 0)) (FdC m nt f k) from rfl) ?_
  rw [h1, show nI (24 - 8 * 0) + (-8) = nI (24 - 8 * 1) from s8a]
  refine Eq.trans h2 ?_
  rw [show nI (24 - 8 * 1) + (-8) = nI (24 - 8 * 2) from s8b]
  refine Eq.trans h3 ?_
  rw [show nI (24 - 8 * 2) + (-8) = nI (24 - 8 * 3) from s8c]
  refine Eq.trans h4 ?_
  show X11_tapeFour_b3 (19995 + 1) v (nI 0 + (-8)) _ = _
  rw [X11_tapeFour_b3, if_pos (by decide)]
theorem m_feed_step {m : Mem} {nt : Nat} (a b c d e : Int32) {n k : Nat} (hk : nt + k < 900) (hk2 : k < 20) : X12_feed_b24 (n + 1) a b c d e (nI k) (FdM m nt (byt a b c d e) k) = X12_feed_b24 n a b c d e (nI (k + 1)) (FdM m nt (byt a b c d e) (k + 1)) := by
  have key : X12_feed_b77 (X12_feed_b24 n) a b c d e (nI k) (sel a b c d e k) (FdM m nt (byt a b c d e) k) = X12_feed_b24 n a b c d e (nI (k + 1)) (FdM m nt (byt a b c d e) (k + 1)) := by
    have e0 : gi (FdM m nt (byt a b c d e) k) 0 5 = nI (nt + k) := gss
    have es : sel a b c d e k >>> ((24 - 8 * (nI k - nI k / 4 * 4)) &&& 31) &&& 255 = nI (byt a b c d e k) := by
      rw [K4, pk_rem (by omega) (by omega) (by omega), K24, K8, nmul, nsub (by omega), K255]
      exact (byt_ok a b c d e k).2.1
    rw [X12_feed_b77, e0, chk_in (by omega) (by omega), ix_nI (by omega), lq, es, gsn (by omega), e0, lq, K1, nadd, nadd, FdM, si_3 (by omega), wig_s m 3 nt k (fun i => nI (byt a b c d e i)) _ rfl]
    rfl
  rw [X12_feed_b24, K20, K4, K8, K12, show (16 : Int32) = nI 16 from rfl, jle_f hk2 (by omega)]
  rw [sel] at key
  by_cases h4 : k < 4
  · rw [jle_f h4 (by omega)]
    rw [if_pos h4] at key
    exact key
  · rw [jle_t (by omega) (by omega)]
    rw [if_neg h4] at key
    by_cases h8 : k < 8
    · rw [jle_f h8 (by omega)]
      rw [if_pos h8] at key
      exact key
    · rw [jle_t (by omega) (by omega)]
      rw [if_neg h8] at key
      by_cases h12 : k < 12
      · rw [jle_f h12 (by omega)]
        rw [if_pos h12] at key
        exact key
      · rw [jle_t (by omega) (by omega)]
        rw [if_neg h12] at key
        by_cases h16 : k < 16
        · rw [jle_f h16 (by omega)]
          rw [if_pos h16] at key
          exact key
        · rw [jle_t (by omega) (by omega)]
          rw [if_neg h16] at key
          exact key
theorem m_feed_loop {m : Mem} {nt : Nat} (a b c d e : Int32) (hnt : nt + 20 ≤ 900) : ∀ n k, k ≤ 20 → 20 - k < n → X12_feed_b24 n a b c d e (nI k) (FdM m nt (byt a b c d e) k) = some (nI (nt + 20), FdM m nt (byt a b c d e) 20) := by
  intro n
  induction n with
  | zero => intro k _ h; omega
  | succ n ih =>
    intro k hk hn
    rcases Nat.eq_or_lt_of_le hk with he | hl
    · subst he
      have e0 : gi (FdM m nt (byt a b c d e) 20) 0 5 = nI (nt + 20) := gss
      rw [X12_feed_b24, K20, jle_t (by omega) (by omega), e0]
    · rw [m_feed_step a b c d e (by omega) hl]
      exact ih (k + 1) (by omega) (by omega)
def sTape (s : Sg) (n : Nat) (f : Nat → Nat) : Sg := ((n, f), s.2)
theorem FdC_z {m : Mem} {nt : Nat} {f : Nat → Nat} (h : gi m 0 1 = nI nt) : FdC m nt f 0 = m := by
  rw [FdC, wig_z]
  refine Prod.ext (funext fun c => funext fun k => ?_) rfl
  show (if c = 0 ∧ k = 1 then nI (nt + 0) else m.1 c k) = m.1 c k
  split
  · rename_i hq
    rw [hq.1, hq.2]
    exact h.symm
  · rfl
theorem FdM_z {m : Mem} {nt : Nat} {f : Nat → Nat} (h : gi m 0 5 = nI nt) : FdM m nt f 0 = m := by
  rw [FdM, wig_z]
  refine Prod.ext (funext fun c => funext fun k => ?_) rfl
  show (if c = 0 ∧ k = 5 then nI (nt + 0) else m.1 c k) = m.1 c k
  split
  · rename_i hq
    rw [hq.1, hq.2]
    exact h.symm
  · rfl
theorem St_feed_ok : St_feed Rel := by
  intro k N mx mm hk ⟨s, e, ib, hw, hc, hm⟩ a1 a2 a3 a4 a5
  have hm0 := hm.th
  have fin : Rel (k + 1) N mx (si mm 0 0 (nI 0)) := Rel.rd hk hw hc hm FX.rf FM.th
  have c1 : gi mx 0 1 = nI (sNt s) := hc.1.1
  have d1 : gi (si mm 0 0 (nI 0)) 0 5 = nI (sNt s) := hm0.1.1
  have hnt : sNt s ≤ 900 := hw.2.1
  rw [X11_feed, X12_feed, K0, lq, c1, d1, K20, nadd, K900, show (880 : Int32) = nI 880 from rfl]
  by_cases hb : sNt s ≤ 880
  · have f1 : ∀ j0 v, (∀ j, j < 4 → sel a1 a2 a3 a4 a5 (4 * j0 + j) = v) → ∀ j, j < 4 → (shf v j).toInt8.toInt32 = sx (byt a1 a2 a3 a4 a5 (4 * j0 + j)) := fun j0 v hv j hj => by
      have h := (byt_ok a1 a2 a3 a4 a5 (4 * j0 + j)).2.2
      rw [hv j hj, show (4 * j0 + j) % 4 = j by omega] at h
      exact h
    have g0 := c_four (m := mx) (nt := sNt s) (k := 0) (f := byt a1 a2 a3 a4 a5) (v := a1) (by omega) (by
      have := f1 0 a1 (fun j hj => by rw [sel, if_pos (by omega)])
      simpa using this)
    have g1 := c_four (m := mx) (nt := sNt s) (k := 4) (f := byt a1 a2 a3 a4 a5) (v := a2) (by omega) (f1 1 a2 (fun j hj => by rw [sel, if_neg (by omega), if_pos (by omega)]))
    have g2 := c_four (m := mx) (nt := sNt s) (k := 8) (f := byt a1 a2 a3 a4 a5) (v := a3) (by omega) (f1 2 a3 (fun j hj => by rw [sel, if_neg (by omega), if_neg (by omega), if_pos (by omega)]))
    have g3 := c_four (m := mx) (nt := sNt s) (k := 12) (f := byt a1 a2 a3 a4 a5) (v := a4) (by omega) (f1 3 a4 (fun j hj => by rw [sel, if_neg (by omega), if_neg (by omega), if_neg (by omega), if_pos (by omega)]))
    have g4 := c_four (m := mx) (nt := sNt s) (k := 16) (f := byt a1 a2 a3 a4 a5) (v := a5) (by omega) (f1 4 a5 (fun j hj => by rw [sel, if_neg (by omega), if_neg (by omega), if_neg (by omega), if_neg (by omega)]))
    rw [FdC_z c1] at g0
    have h0 := m_feed_loop (m := si mm 0 0 (nI 0)) (nt := sNt s) a1 a2 a3 a4 a5 (by omega) FU 0 (by omega) (by unfold FU; omega)
    rw [FdM_z d1] at h0
    have e20 : gi (FdC mx (sNt s) (byt a1 a2 a3 a4 a5) 20) 0 1 = nI (sNt s + 20) := gss
    rw [jle_t hb (by omega), jle_t (by omega) (by omega), g0, bq, g1, bq, g2, bq, g3, bq, g4, bq, e20, h0]
    refine ⟨_, _, _, rfl, rfl, sTape s (sNt s + 20) (fun i => if i < sNt s then sTp s i else byt a1 a2 a3 a4 a5 (i - sNt s)), e, ib, ?_, ?_, ?_⟩
    · obtain ⟨b1, b2, b3, b4⟩ := hw.mono (k := k + 1) (by omega) (by omega)
      refine ⟨b1, by show sNt s + 20 ≤ 900; omega, fun i hi => ?_, b4⟩
      show (if i < sNt s then sTp s i else byt a1 a2 a3 a4 a5 (i - sNt s)) < 256
      split
      · exact b3 i (by assumption)
      · exact (byt_ok _ _ _ _ _ _).1
    · have hf : FX mx (FdC mx (sNt s) (byt a1 a2 a3 a4 a5) 20) → False → True := fun _ _ => True.intro
      obtain ⟨⟨q1, q2⟩, q3, ⟨q4, q5, q6, q7⟩, ⟨q8, q9, q10⟩, q11, q12, q13⟩ := hc
      have kk : ∀ c, c ≠ 0 → c ≠ 1 → ∀ j, gi (FdC mx (sNt s) (byt a1 a2 a3 a4 a5) 20) c j = gi mx c j := fun c h0 h1 j => by
        rw [FdC, gsn h0, gi_wig, if_neg (fun q => h1 q.1)]
      refine ⟨⟨gss, fun i hi => ?_⟩, q3.fr (fun c hc j => kk c (by omega) (by omega) j), ⟨q4, (kk 40 (by omega) (by omega) _).trans q5, (kk 40 (by omega) (by omega) _).trans q6, fun i hi => (q7 i hi).fr (fun c h1 h2 j => kk c (by omega) (by omega) j)⟩, ⟨⟨by rw [kk 39 (by omega) (by omega)]; exact q8.1, fun j hj => (kk 108 (by omega) (by omega) j).trans (q8.2 j hj)⟩, (kk 39 (by omega) (by omega) _).trans q9, (kk 39 (by omega) (by omega) _).trans q10⟩, fun i hi => ?_, q12, fun i hi => ⟨(kk 108 (by omega) (by omega) i).trans (q13 i hi).1, fun y hy => ?_⟩⟩
      · have hi : i < sNt s + 20 := hi
        show gi (FdC mx (sNt s) (byt a1 a2 a3 a4 a5) 20) 1 i = sx (if i < sNt s then sTp s i else byt a1 a2 a3 a4 a5 (i - sNt s))
        rw [FdC, gsn (by omega), gi_wig]
        by_cases hin : i < sNt s
        · rw [if_neg (by omega), if_pos hin]
          exact q2 i hin
        · rw [if_pos (by omega), if_neg hin]
      · have q := q11 i hi
        show match sT s i with
          | none => gi (FdC mx (sNt s) (byt a1 a2 a3 a4 a5) 20) (100 + 2 * i) 0 = nI 0
          | some t => gi (FdC mx (sNt s) (byt a1 a2 a3 a4 a5) 20) (100 + 2 * i) 0 = nI 1 ∧ gi (FdC mx (sNt s) (byt a1 a2 a3 a4 a5) 20) (100 + 2 * i) 1 = nI t.2.1 ∧ gi (FdC mx (sNt s) (byt a1 a2 a3 a4 a5) 20) (100 + 2 * i) 2 = nI t.1 ∧ ∀ l, l < t.2.1 → gl mx (101 + 2 * i) l = t.2.2 l
        cases ht : sT s i with
        | none =>
          rw [ht] at q
          exact (kk _ (by omega) (by omega) _).trans q
        | some t =>
          rw [ht] at q
          exact ⟨(kk _ (by omega) (by omega) _).trans q.1, (kk _ (by omega) (by omega) _).trans q.2.1, (kk _ (by omega) (by omega) _).trans q.2.2.1, q.2.2.2⟩
      · have q := (q13 i hi).2 y hy
        have hb := (q12.1 i hi).2.1 (by have hy2 : sIm s i = some y := hy; rw [hy2]; rfl)
        exact ⟨q.1.fr (fun c h1 h2 j => kk c (by omega) (by omega) j), q.2.fr (fun c h1 h2 j => kk c (by omega) (by omega) j)⟩
    · obtain ⟨⟨q1, q2⟩, q3, ⟨q4, q5⟩, ⟨q6, q7⟩, q8, q9⟩ := hm0
      have kk : ∀ c, c ≠ 0 → c ≠ 3 → ∀ j, gi (FdM (si mm 0 0 (nI 0)) (sNt s) (byt a1 a2 a3 a4 a5) 20) c j = gi (si mm 0 0 (nI 0)) c j := fun c h0 h1 j => by
        rw [FdM, gsn h0, gi_wig, if_neg (fun q => h1 q.1)]
      have k0 : ∀ j, j ≠ 5 → gi (FdM (si mm 0 0 (nI 0)) (sNt s) (byt a1 a2 a3 a4 a5) 20) 0 j = gi (si mm 0 0 (nI 0)) 0 j := fun j hj => by
        rw [FdM, gsi hj, gi_wig, if_neg (by omega)]
      have k1 := kk 1 (by omega) (by omega)
      refine ⟨⟨gss, fun i hi => ?_⟩, q3.fr k1, ⟨(k1 _).trans q4, fun i hi => (q5 i hi).fr k1⟩, ⟨(k0 13 (by omega)).trans q6, (k0 14 (by omega)).trans q7⟩, fun i hi => ?_, fun i hi => ?_⟩
      · have hi : i < sNt s + 20 := hi
        show gi (FdM (si mm 0 0 (nI 0)) (sNt s) (byt a1 a2 a3 a4 a5) 20) 3 i = nI (if i < sNt s then sTp s i else byt a1 a2 a3 a4 a5 (i - sNt s))
        rw [FdM, gsn (by omega), gi_wig]
        by_cases hin : i < sNt s
        · rw [if_neg (by omega), if_pos hin]
          exact q2 i hin
        · rw [if_pos (by omega), if_neg hin]
      · have q := q8 i hi
        show match sT s i with
          | none => gi (FdM (si mm 0 0 (nI 0)) (sNt s) (byt a1 a2 a3 a4 a5) 20) 14 i = NO
          | some t => gi (FdM (si mm 0 0 (nI 0)) (sNt s) (byt a1 a2 a3 a4 a5) 20) 14 i = nI t.1 ∧ gi (FdM (si mm 0 0 (nI 0)) (sNt s) (byt a1 a2 a3 a4 a5) 20) 15 i = nI t.2.1 ∧ ∀ l, l < t.2.1 → gl (si mm 0 0 (nI 0)) 16 (40 * i + l) = t.2.2 l
        cases ht : sT s i with
        | none =>
          rw [ht] at q
          exact (kk 14 (by omega) (by omega) _).trans q
        | some t =>
          rw [ht] at q
          exact ⟨(kk 14 (by omega) (by omega) _).trans q.1, (kk 15 (by omega) (by omega) _).trans q.2.1, q.2.2⟩
      · have q := q9 i hi
        show match sIm s i with
          | none => gi (FdM (si mm 0 0 (nI 0)) (sNt s) (byt a1 a2 a3 a4 a5) 20) 2 i = nI 0
          | some y => gi (FdM (si mm 0 0 (nI 0)) (sNt s) (byt a1 a2 a3 a4 a5) 20) 2 i = nI 1 ∧ MR y.1 (FdM (si mm 0 0 (nI 0)) (sNt s) (byt a1 a2 a3 a4 a5) 20) 1 (2096 * (i + 1)) ∧ ML y.1 y.2 (FdM (si mm 0 0 (nI 0)) (sNt s) (byt a1 a2 a3 a4 a5) 20) 1 (2096 * (i + 1) + 33)
        cases ht : sIm s i with
        | none =>
          rw [ht] at q
          exact (kk 2 (by omega) (by omega) _).trans q
        | some y =>
          rw [ht] at q
          exact ⟨(kk 2 (by omega) (by omega) _).trans q.1, q.2.1.fr k1, q.2.2.fr k1⟩
  · rw [jle_f (by omega) (by omega), jle_f (by omega) (by omega)]
    exact ⟨_, _, _, rfl, rfl, fin⟩
