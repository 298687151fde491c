/-! all matchings, in their order -/
def rq {α : Type} (F : Nat → List α) : Nat → Nat → List α
  | 0, _ => []
  | n + 1, q => F q ++ rq F n (q + 1)
def rl (P : Nat) (O : Nat → Nat → Bool) : Nat → Nat → Nat → List (List (Nat × Nat))
  | 0, _, _ => [[]]
  | n + 1, p, S => if S.testBit p then rq (fun q => if S.testBit q && O p q then (rl P O n (p + 1) (nd (nd S (2 ^ p)) (2 ^ q))).map (fun l => (p, q) :: l) else []) (P - (p + 1)) (p + 1) ++ rl P O n (p + 1) (nd S (2 ^ p)) else rl P O n (p + 1) S
/-- two are with one another -/
def swd (w : Nat → Option Nat) (p q i : Nat) : Option Nat := if i = q then some p else if i = p then some q else w i
def apw (w : Nat → Option Nat) : List (Nat × Nat) → Nat → Option Nat
  | [] => w
  | (p, q) :: l => apw (swd w p q) l
def sgd (G : Nat → Nat → Int32) : List (Nat × Nat) → Int32
  | [] => nI 0
  | (p, q) :: l => G p q + sgd G l
/-- what the search keeps: pairs, good, how many, who with whom -/
abbrev Bs : Type := Int32 × Int32 × Int32 × (Nat → Int32)
def btr (P : Nat) (O : Nat → Nat → Bool) (G : Nat → Nat → Int32) (stb : Bool) (w : Nat → Option Nat) (k : Nat) (g : Int32) (st : Bs) : Bool := if stb then decide (st.1 = NO) && (fb P (bk O G w) P 0).isNone else decide (st.1 < nI k) || (decide (nI k = st.1) && decide (¬ g ≤ st.2.1))
def lst (P : Nat) (O : Nat → Nat → Bool) (G : Nat → Nat → Int32) (stb : Bool) (just : Nat) (w : Nat → Option Nat) (k : Nat) (g : Int32) (st : Bs) : Bs := if btr P O G stb w k g st then (nI k, g, st.2.2.1 + nI (if k = just then 1 else 0), fun i => oN (w i)) else (st.1, st.2.1, st.2.2.1 + nI (if k = just then 1 else 0), st.2.2.2)
def fst' (P : Nat) (O : Nat → Nat → Bool) (G : Nat → Nat → Int32) (stb : Bool) (just : Nat) (w : Nat → Option Nat) (k : Nat) (g : Int32) (st : Bs) (l : List (Nat × Nat)) : Bs := lst P O G stb just (apw w l) (k + l.length) (g + sgd G l) st
def RS (m : Mem) (st : Bs) : Prop := gi m 0 25 = st.1 ∧ gi m 0 26 = st.2.1 ∧ gi m 0 27 = st.2.2.1 ∧ ∀ i, i < 8 → gi m 11 i = st.2.2.2 i
/-- the table, the number of people, who is with whom, what is asked for -/
def RG (P : Nat) (O : Nat → Nat → Bool) (G : Nat → Nat → Int32) (stb : Bool) (w : Nat → Option Nat) (m : Mem) : Prop := MT P O G m ∧ gi m 1 2 = nI P ∧ (∀ i, i < 8 → gi m 10 i = oN (w i)) ∧ gi m 0 28 = nI (b1 stb)
theorem RG.fr {P : Nat} {O : Nat → Nat → Bool} {G : Nat → Nat → Int32} {stb : Bool} {w : Nat → Option Nat} {m m2 : Mem} (h : RG P O G stb w m) (h9 : ∀ j, gi m2 9 j = gi m 9 j) (h12 : ∀ j, gi m2 12 j = gi m 12 j) (h1 : gi m2 1 2 = gi m 1 2) (h10 : ∀ j, gi m2 10 j = gi m 10 j) (h0 : gi m2 0 28 = gi m 0 28) : RG P O G stb w m2 := ⟨fun p q hp hq hn => ⟨(h9 _).trans (h.1 p q hp hq hn).1, (h12 _).trans (h.1 p q hp hq hn).2⟩, h1.trans h.2.1, fun i hi => (h10 i).trans (h.2.2.1 i hi), h0.trans h.2.2.2⟩
/-- a good state of who is with whom -/
def WV (P : Nat) (w : Nat → Option Nat) : Prop := VW P w ∧ ∀ i, P ≤ i → w i = none
theorem WV.sw {P : Nat} {w : Nat → Option Nat} {p q : Nat} (h : WV P w) (hp : p < P) (hq : q < P) (hn : p ≠ q) : WV P (swd w p q) := by
  refine ⟨fun i u hi hu => ?_, fun i hi => ?_⟩
  · rw [swd] at hu
    split at hu
    · injection hu with hu; omega
    · split at hu
      · injection hu with hu; omega
      · exact h.1 i u hi hu
  · rw [swd, if_neg (by omega), if_neg (by omega)]
    exact h.2 i hi
theorem fmz {m : Mem} {j : Nat} {v : Int32} (h : 25 ≤ j) : FM m (si m 0 j v) := FM.s0 (by omega) (by omega) (by omega)
theorem m_best {m : Mem} {f : Int32 → Int32 → Int32 → Int32 → Mem → Option (Unit × Mem)} : ∀ n k, k ≤ 8 → 8 - k < n → X12_goesMatch_b115 f n (nI k) (cq m 10 0 11 0 k) = some ((), cq m 10 0 11 0 8) := by
  intro n
  induction n with
  | zero => intro k _ h; omega
  | succ n ih =>
    intro k hk hn
    rw [X12_goesMatch_b115]
    rcases Nat.eq_or_lt_of_le hk with he | hl
    · subst he
      simp (disch := omega) only [nadn, gsn, gss, gsi, if_true, if_false, chk_in, chk_tt, bq, lq, ix_nI, jle_t, jle_f, jlt_t, jlt_f, jeq_t, jeq_f, nadd, nmul, nsub, nshl, nshl2, nor, nand, nandn, ↓kn1, K0, K1, K2, K3, K4, K5, K6, K7, K8, K9, K10, K11, K12, K13, K14, K20, K24, K25, K32, K33, K40, K41, K60, K63, K64, K100, K112, K120, K128, K129, K153, K161, K162, K163, K255, K256, K900, K903, K999, K1000, K1195, K1196, K2000, K2096, K3000, K3001, K3002, K3003, K3004, K3005, K3006, K3007, K3008]
    · have ih2 := ih (k + 1) (by omega) (by omega)
      have e : gi (cq m 10 0 11 0 k) 10 k = gi m 10 (0 + k) := by rw [gi_cq, if_neg (by omega), Nat.zero_add]
      simp (disch := omega) only [nadn, gsn, gss, gsi, if_true, if_false, chk_in, chk_tt, bq, lq, ix_nI, jle_t, jle_f, jlt_t, jlt_f, jeq_t, jeq_f, nadd, nmul, nsub, nshl, nshl2, nor, nand, nandn, ↓kn1, K0, K1, K2, K3, K4, K5, K6, K7, K8, K9, K10, K11, K12, K13, K14, K20, K24, K25, K32, K33, K40, K41, K60, K63, K64, K100, K112, K120, K128, K129, K153, K161, K162, K163, K255, K256, K900, K903, K999, K1000, K1195, K1196, K2000, K2096, K3000, K3001, K3002, K3003, K3004, K3005, K3006, K3007, K3008, e]
      rw [cq_s _ _ _ _ _ _ _ (by omega)]
      exact ih2
/-- a leaf -/
theorem m_leaf {P k just : Nat} {O : Nat → Nat → Bool} {G : Nat → Nat → Int32} {stb : Bool} {w : Nat → Option Nat} {g : Int32} {st : Bs} {m : Mem} {f : Int32 → Int32 → Int32 → Int32 → Mem → Option (Unit × Mem)} (hP : P ≤ 8) (hk : k ≤ 8) (hj : just ≤ 8) (hG : GB P G) (hw : WV P w) (h : RG P O G stb w m) (hs : RS m st) : ∃ m2, X12_goesMatch f (nI P) (nI k) g (nI just) m = some ((), m2) ∧ RS m2 (lst P O G stb just w k g st) ∧ RG P O G stb w m2 ∧ FM m m2 := by
  obtain ⟨h1, h2, h3, h4⟩ := h
  obtain ⟨s1, s2, s3, s4⟩ := hs
  have hin : ∀ {β : Type} (t : Option β), chk (inb 2 6288) t = t := fun t => chk_tt (by decide)
  have key : ∀ z : Nat, z = (if k = just then 1 else 0) → ∃ m2, X12_goesMatch_b26 f (nI k) g (nI z) (gi m 0 27) m = some ((), m2) ∧ RS m2 (lst P O G stb just w k g st) ∧ RG P O G stb w m2 ∧ FM m m2 := by
    intro z hz
    rw [X12_goesMatch_b26, s3, lq, gsi (by omega), gsi (by omega), gsi (by omega), h4, s1, s2, kn1, K0]
    have fa : FM m (si m 0 27 (st.2.2.1 + nI z)) := fmz (by omega)
    have rga : RG P O G stb w (si m 0 27 (st.2.2.1 + nI z)) := RG.fr ⟨h1, h2, h3, h4⟩ (fun j => gsn (by omega)) (fun j => gsn (by omega)) (gsn (by omega)) (fun j => gsn (by omega)) (gsi (by omega))
    have no : btr P O G stb w k g st = false → ∃ m2, X12_goesMatch_b94 f (nI k) g (nI 0) (si m 0 27 (st.2.2.1 + nI z)) = some ((), m2) ∧ RS m2 (lst P O G stb just w k g st) ∧ RG P O G stb w m2 ∧ FM m m2 := fun hb => by
      rw [X12_goesMatch_b94, K0, jeq_t rfl]
      refine ⟨_, rfl, ?_, rga, fa⟩
      rw [lst, hb, if_neg (by decide), ← hz]
      exact ⟨by rw [gsi (by omega)]; exact s1, by rw [gsi (by omega)]; exact s2, gss, fun i hi => by rw [gsn (by omega)]; exact s4 i hi⟩
    have yes : btr P O G stb w k g st = true → ∃ m2, X12_goesMatch_b94 f (nI k) g (nI 1) (si m 0 27 (st.2.2.1 + nI z)) = some ((), m2) ∧ RS m2 (lst P O G stb just w k g st) ∧ RG P O G stb w m2 ∧ FM m m2 := fun hb => by
      have hb1 := m_best (f := f) (m := si (si (si m 0 27 (st.2.2.1 + nI z)) 0 25 (nI k)) 0 26 g) FU 0 (by omega) (by unfold FU; omega)
      rw [cq_z] at hb1
      rw [X12_goesMatch_b94, K0, jeq_f (by omega) (by omega) (by omega), lq, lq, hb1]
      refine ⟨_, rfl, ?_, ?_, ?_⟩
      · rw [lst, hb, if_pos rfl, ← hz]
        refine ⟨?_, ?_, ?_, fun i hi => ?_⟩
        · rw [gi_cq, if_neg (by omega), gsi (by omega), gss]
        · rw [gi_cq, if_neg (by omega), gss]
        · rw [gi_cq, if_neg (by omega), gsi (by omega), gsi (by omega), gss]
        · rw [gi_cq, if_pos (by omega), gsn (by omega), gsn (by omega), gsn (by omega), show 0 + (i - 0) = i by omega]
          exact h3 i hi
      · refine RG.fr ⟨h1, h2, h3, h4⟩ (fun j => ?_) (fun j => ?_) ?_ (fun j => ?_) ?_
        · rw [gi_cq, if_neg (by omega), gsn (by omega), gsn (by omega), gsn (by omega)]
        · rw [gi_cq, if_neg (by omega), gsn (by omega), gsn (by omega), gsn (by omega)]
        · rw [gi_cq, if_neg (by omega), gsn (by omega), gsn (by omega), gsn (by omega)]
        · rw [gi_cq, if_neg (by omega), gsn (by omega), gsn (by omega), gsn (by omega)]
        · rw [gi_cq, if_neg (by omega), gsi (by omega), gsi (by omega), gsi (by omega)]
      · exact ((fa.tr (fmz (j := 25) (v := nI k) (by omega))).tr (fmz (j := 26) (v := g) (by omega))).tr (Fr.fm (S := fun c => c = 11) (fun c hc j => ⟨by rw [gi_cq, if_neg (fun q => hc q.1)], rfl⟩) (fun c q => by unfold scm; omega))
    cases stb with
    | false =>
      rw [if_pos (show nI (b1 false) = nI 0 by decide)]
      by_cases c1 : st.1 < nI k
      · rw [if_pos c1]
        exact yes (by simp [btr, c1])
      · rw [if_neg c1]
        by_cases c2 : nI k = st.1
        · rw [if_pos c2]
          by_cases c3 : g ≤ st.2.1
          · rw [if_pos c3]
            exact no (by simp [btr, c1, c3])
          · rw [if_neg c3]
            exact yes (by simp [btr, c2, c3])
        · rw [if_neg c2]
          exact no (by simp [btr, c1, c2])
    | true =>
      rw [if_neg (show ¬ nI (b1 true) = nI 0 by decide)]
      by_cases c1 : st.1 = NO
      · have e2 := m_fb hP hG rga.2.1 rga.1 (w := w) (fun i hi => rga.2.2.1 i (by omega)) hw.1 FU 0 (by omega) (by unfold FU; omega)
        rw [if_pos c1, X12_breaksOf, K0, e2, bq, Nat.sub_zero]
        cases hf : fb P (bk O G w) P 0 with
        | none =>
          rw [oN_none, jm_t]
          exact yes (by simp [btr, c1, hf])
        | some u =>
          have hu : u < 2147483648 := by
            have : ∀ n p u, n + p ≤ P → fb P (bk O G w) n p = some u → u < 100 := by
              intro n
              induction n with
              | zero => intro p u _ hq; cases hq
              | succ n ih =>
                intro p u hp hq
                rw [fb] at hq
                have hff : ∀ f n q u, n + q ≤ P → ff f n q = some u → u < P := by
                  intro f n
                  induction n with
                  | zero => intro q u _ hq; cases hq
                  | succ n ih =>
                    intro q u hq2 hq
                    rw [ff] at hq
                    split at hq
                    · injection hq with hq; omega
                    · exact ih (q + 1) u (by omega) hq
                split at hq
                · rename_i v hv
                  injection hq with hq
                  have := hff _ _ _ _ (by omega) hv
                  omega
                · exact ih (p + 1) u (by omega) hq
            have := this P 0 u (by omega) hf
            omega
          rw [oN_some, jm_f hu]
          exact no (by simp [btr, hf])
      · rw [if_neg c1]
        exact no (by simp [btr, c1])
  rw [X12_goesMatch, hin, show ix 2 = 2 by decide, h2, if_pos rfl]
  by_cases hkj : k = just
  · rw [jeq_t hkj]
    exact key 1 (by rw [if_pos hkj])
  · rw [jeq_f hkj (by omega) (by omega)]
    exact key 0 (by rw [if_neg hkj])
theorem swd_c {w : Nat → Option Nat} {p q i : Nat} : swd w p q i = if i = q then some p else if i = p then some q else w i := rfl
theorem foldl_map_cons {P : Nat} {O : Nat → Nat → Bool} {G : Nat → Nat → Int32} {stb : Bool} {just : Nat} {w : Nat → Option Nat} {k : Nat} {g : Int32} {p q : Nat} (L : List (List (Nat × Nat))) (st : Bs) : (L.map (fun l => (p, q) :: l)).foldl (fst' P O G stb just w k g) st = L.foldl (fst' P O G stb just (swd w p q) (k + 1) (g + G p q)) st := by
  rw [List.foldl_map]
  congr 1
  funext s l
  rw [fst', fst', apw, sgd, List.length_cons, show k + (l.length + 1) = k + 1 + l.length by omega, Int32.add_assoc]
theorem m_go {P just : Nat} {O : Nat → Nat → Bool} {G : Nat → Nat → Int32} {stb : Bool} (hP : P ≤ 8) (hj : just ≤ 8) (hG : GB P G) : ∀ n d p k g w S st m, n + p = P → n < d → k + n ≤ 8 → S < 256 → WV P w → (∀ i, p ≤ i → i < P → S.testBit i = (w i).isNone) → RG P O G stb w m → RS m st → ∃ m2, g_X12_goesMatch d (nI p) (nI k) g (nI just) m = some ((), m2) ∧ RS m2 ((rl P O n p S).foldl (fst' P O G stb just w k g) st) ∧ RG P O G stb w m2 ∧ FM m m2 := by
  intro n
  induction n with
  | zero =>
    intro d p k g w S st m hp hd hk hS hw hSw h hs
    obtain ⟨d, rfl⟩ : ∃ d2, d = d2 + 1 := ⟨d - 1, by omega⟩
    have hp : p = P := by omega
    subst hp
    obtain ⟨m2, e1, e2, e3, e4⟩ := m_leaf (f := g_X12_goesMatch d) hP (show k ≤ 8 by omega) hj hG hw h hs
    refine ⟨m2, e1, ?_, e3, e4⟩
    show RS m2 (fst' p O G stb just w k g st [])
    rw [fst', apw, sgd, add_n0]
    exact e2
  | succ n ih =>
    intro d p k g w S st m hp hd hk hS hw hSw h hs
    obtain ⟨d, rfl⟩ : ∃ d2, d = d2 + 1 := ⟨d - 1, by omega⟩
    have hpP : p < P := by omega
    show ∃ m2, X12_goesMatch (g_X12_goesMatch d) (nI p) (nI k) g (nI just) m = some ((), m2) ∧ _
    have hin : ∀ {β : Type} (t : Option β), chk (inb 2 6288) t = t := fun t => chk_tt (by decide)
    have i2 : ix 2 = 2 := by decide
    rw [X12_goesMatch, hin, i2, h.2.1, jeq_f (by omega) (by omega) (by omega), chk_in (by omega) (by omega), ix_nI (by omega), h.2.2.1 p (by omega), rl, hSw p (Nat.le_refl _) hpP, kn1]
    cases hwp : w p with
    | some u =>
      have hu := hw.1 p u hpP hwp
      obtain ⟨m2, e1, e2, e3, e4⟩ := ih d (p + 1) k g w S st m (by omega) (by omega) (by omega) hS hw (fun i h1 h2 => hSw i (by omega) h2) h hs
      rw [oN_some, jm_f (by omega), K1, nadd, e1, bq, if_neg (show ¬ (some u).isNone = true from Bool.noConfusion)]
      exact ⟨m2, rfl, e2, e3, e4⟩
    | none =>
      have hb : ∀ i, (nd S (2 ^ p)).testBit i = (S.testBit i && !decide (p = i)) := fun i => by rw [nd_bit (by omega), Nat.testBit_two_pow]
      have hb2 : ∀ q i, (nd (nd S (2 ^ p)) (2 ^ q)).testBit i = (S.testBit i && !decide (p = i) && !decide (q = i)) := fun q i => by
        have := nd_le S (2 ^ p)
        rw [nd_bit (by omega), Nat.testBit_two_pow, hb]
      have hS1 : nd S (2 ^ p) < 256 := Nat.lt_of_le_of_lt (nd_le _ _) hS
      have hS2 : ∀ q, nd (nd S (2 ^ p)) (2 ^ q) < 256 := fun q => Nat.lt_of_le_of_lt (nd_le _ _) hS1
      -- the loop over partners
      have lp : ∀ c q fu m st, c + q = P → p < q → c < fu → RG P O G stb w m → RS m st → ∃ m2, X12_goesMatch_b170 (g_X12_goesMatch d) fu (nI p) (nI k) g (nI just) (nI q) m = (bnd (g_X12_goesMatch d (nI (p + 1)) (nI k) g (nI just) m2) fun _ m_3 => some ((), m_3)) ∧ RS m2 ((rq (fun q => if S.testBit q && O p q then (rl P O n (p + 1) (nd (nd S (2 ^ p)) (2 ^ q))).map (fun l => (p, q) :: l) else []) c q).foldl (fst' P O G stb just w k g) st) ∧ RG P O G stb w m2 ∧ FM m m2 := by
        intro c
        induction c with
        | zero =>
          intro q fu m st hq hpq hf h hs
          obtain ⟨fu, rfl⟩ : ∃ f2, fu = f2 + 1 := ⟨fu - 1, by omega⟩
          have hq : q = P := by omega
          subst hq
          rw [X12_goesMatch_b170, hin, i2, h.2.1, jle_t (by omega) (by omega), K1, nadd]
          exact ⟨m, rfl, hs, h, FM.rf⟩
        | succ c ihc =>
          intro q fu m st hq hpq hf h hs
          obtain ⟨fu, rfl⟩ : ∃ f2, fu = f2 + 1 := ⟨fu - 1, by omega⟩
          have hqP : q < P := by omega
          obtain ⟨t1, t2⟩ := h.1 p q hpP hqP (by omega)
          rw [X12_goesMatch_b170, hin, i2, h.2.1, jle_f (by omega) (by omega), chk_in (by omega) (by omega), ix_nI (by omega), h.2.2.1 q (by omega), kn1, K1, K0, K8, rq, List.foldl_append, hSw q (by omega) hqP, nadd]
          simp (disch := omega) only [nmul, nadd, chk_in, ix_nI, t2]
          cases hwq : w q with
          | some u =>
            have hu := hw.1 q u hqP hwq
            obtain ⟨m2, e1, e2, e3, e4⟩ := ihc (q + 1) fu m st (by omega) (by omega) (by omega) h hs
            rw [oN_some, jm_f (by omega)]
            exact ⟨m2, e1, e2, e3, e4⟩
          | none =>
            rw [oN_none, jm_t]
            cases hO : O p q with
            | false =>
              obtain ⟨m2, e1, e2, e3, e4⟩ := ihc (q + 1) fu m st (by omega) (by omega) (by omega) h hs
              rw [if_pos (show nI (b1 false) = nI 0 by decide)]
              exact ⟨m2, e1, e2, e3, e4⟩
            | true =>
              rw [if_neg (show ¬ nI (b1 true) = nI 0 by decide)]
              -- down
              have h5 : RG P O G stb (swd w p q) (si (si m 10 p (nI q)) 10 q (nI p)) := by
                refine ⟨fun a b ha hb2 hn => ⟨?_, ?_⟩, ?_, fun i hi => ?_, ?_⟩
                · rw [gsn (by omega), gsn (by omega)]; exact (h.1 a b ha hb2 hn).1
                · rw [gsn (by omega), gsn (by omega)]; exact (h.1 a b ha hb2 hn).2
                · rw [gsn (by omega), gsn (by omega)]; exact h.2.1
                · rw [swd_c]
                  by_cases c1 : i = q
                  · rw [if_pos c1, c1, gss]; rfl
                  · rw [if_neg c1, gsi c1]
                    by_cases c2 : i = p
                    · rw [if_pos c2, c2, gss]; rfl
                    · rw [if_neg c2, gsi c2]; exact h.2.2.1 i hi
                · rw [gsn (by omega), gsn (by omega)]; exact h.2.2.2
              have s5 : RS (si (si m 10 p (nI q)) 10 q (nI p)) st := ⟨by rw [gsn (by omega), gsn (by omega)]; exact hs.1, by rw [gsn (by omega), gsn (by omega)]; exact hs.2.1, by rw [gsn (by omega), gsn (by omega)]; exact hs.2.2.1, fun i hi => by rw [gsn (by omega), gsn (by omega)]; exact hs.2.2.2 i hi⟩
              have f10 : ∀ {m : Mem} {j : Nat} {v : Int32}, FM m (si m 10 j v) := Fr.fm (S := fun c => c = 10) (Fr.si rfl) (fun c q => by unfold scm; omega)
              have n1 : 1 ≤ n := by omega
              obtain ⟨m3, a1, a2, a3, a4⟩ := ih d (p + 1) (k + 1) (g + G p q) (swd w p q) (nd (nd S (2 ^ p)) (2 ^ q)) st _ (by omega) (by omega) (by omega) (hS2 q) (hw.sw hpP hqP (by omega)) (fun i h1 h2 => by
                rw [hb2, hSw i (by omega) h2, swd_c]
                by_cases c1 : i = q
                · subst c1; simp
                · have c2 : i ≠ p := by omega
                  simp [c1, c2, Ne.symm c1, Ne.symm c2]) h5 s5
              -- and back
              have h9 : RG P O G stb w (si (si m3 10 p NO) 10 q NO) := by
                refine ⟨fun a b ha hb2 hn => ⟨?_, ?_⟩, ?_, fun i hi => ?_, ?_⟩
                · rw [gsn (by omega), gsn (by omega)]; exact (a3.1 a b ha hb2 hn).1
                · rw [gsn (by omega), gsn (by omega)]; exact (a3.1 a b ha hb2 hn).2
                · rw [gsn (by omega), gsn (by omega)]; exact a3.2.1
                · by_cases c1 : i = q
                  · rw [c1, gss, hwq]; rfl
                  · rw [gsi c1]
                    by_cases c2 : i = p
                    · rw [c2, gss, hwp]; rfl
                    · rw [gsi c2, a3.2.2.1 i hi, swd_c, if_neg c1, if_neg c2]
                · rw [gsn (by omega), gsn (by omega)]; exact a3.2.2.2
              have s9 : RS (si (si m3 10 p NO) 10 q NO) ((rl P O n (p + 1) (nd (nd S (2 ^ p)) (2 ^ q))).foldl (fst' P O G stb just (swd w p q) (k + 1) (g + G p q)) st) := ⟨by rw [gsn (by omega), gsn (by omega)]; exact a2.1, by rw [gsn (by omega), gsn (by omega)]; exact a2.2.1, by rw [gsn (by omega), gsn (by omega)]; exact a2.2.2.1, fun i hi => by rw [gsn (by omega), gsn (by omega)]; exact a2.2.2.2 i hi⟩
              obtain ⟨m2, e1, e2, e3, e4⟩ := ihc (q + 1) fu _ _ (by omega) (by omega) (by omega) h9 s9
              refine ⟨m2, ?_, ?_, e3, (((f10.tr f10).tr a4).tr (f10.tr f10)).tr e4⟩
              · have t9 : gi (si (si m 10 p (nI q)) 10 q (nI p)) 9 (8 * p + q) = G p q := (h5.1 p q hpP hqP (by omega)).1
                simp (disch := omega) only [lq, t9, a1, bq]
                exact e1
              · rw [show ((none : Option Nat).isNone && true) = true from rfl, if_pos rfl, foldl_map_cons]
                exact e2
      obtain ⟨m1, a1, a2, a3, a4⟩ := lp (P - (p + 1)) (p + 1) FU m st (by omega) (by omega) (by unfold FU; omega) h hs
      obtain ⟨m2, e1, e2, e3, e4⟩ := ih d (p + 1) k g w (nd S (2 ^ p)) _ m1 (by omega) (by omega) (by omega) hS1 hw (fun i h1 h2 => by
        rw [hb, hSw i (by omega) h2]
        have c2 : p ≠ i := by omega
        simp [c2]) a3 a2
      rw [oN_none, jm_t, K1, nadd, lq, a1, e1, bq, if_pos (by rfl), List.foldl_append]
      exact ⟨m2, rfl, e2, e3, a4.tr e4⟩
