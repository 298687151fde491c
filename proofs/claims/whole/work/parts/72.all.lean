/-! all are wed as the best tells -/
def IV (P : Nat) (w : Nat → Option Nat) : Prop := ∀ i q, i < P → w i = some q → q < P ∧ q ≠ i ∧ w q = some i
theorem IV.sw {P p q : Nat} {w : Nat → Option Nat} (h : IV P w) (hp : p < P) (hq : q < P) (hn : p ≠ q) (h1 : w p = none) (h2 : w q = none) : IV P (swd w p q) := by
  intro i u hi hu
  rw [swd_c] at hu ⊢
  by_cases e1 : i = q
  · rw [if_pos e1] at hu
    injection hu with hu
    subst hu e1
    exact ⟨hp, hn, by rw [if_neg hn, if_pos rfl]⟩
  · rw [if_neg e1] at hu
    by_cases e2 : i = p
    · rw [if_pos e2] at hu
      injection hu with hu
      subst hu e2
      exact ⟨hq, Ne.symm hn, by rw [if_pos rfl]⟩
    · rw [if_neg e2] at hu
      have k := h i u hi hu
      refine ⟨k.1, k.2.1, ?_⟩
      rw [if_neg (fun e => ?_), if_neg (fun e => ?_)]
      · exact k.2.2
      · rw [e, h1] at k; exact absurd k.2.2 (fun q => by cases q)
      · rw [e, h2] at k; exact absurd k.2.2 (fun q => by cases q)
def wdf (w : Nat → Option Nat) (i : Nat) : Bool := match w i with
  | none => false
  | some q => decide (i < q)
def cf (f : Nat → Bool) : Nat → Nat → Nat
  | 0, _ => 0
  | n + 1, p => (if f p then 1 else 0) + cf f n (p + 1)
theorem ct_cf (f : Nat → Bool) : ∀ n k, ct f (k + n) = ct f k + cf f n k
  | 0, k => rfl
  | n + 1, k => by
    rw [show k + (n + 1) = (k + 1) + n by omega, ct_cf f n (k + 1), cf, ct]
    omega
theorem apw_all {P : Nat} {O : Nat → Nat → Bool} : ∀ n p S l w, n + p = P → S < 256 → l ∈ rl P O n p S → (∀ i, p ≤ i → i < P → S.testBit i = (w i).isNone) → (∀ i u, w i = some u → p ≤ i → u < p) → IV P w → IV P (apw w l) ∧ cf (wdf (apw w l)) n p = l.length := by
  intro n
  induction n with
  | zero =>
    intro p S l w hp hS8 hl hS hu hv
    have hl : l ∈ [[]] := hl
    rw [List.mem_singleton] at hl
    subst hl
    exact ⟨hv, rfl⟩
  | succ n ih =>
    intro p S l w hp hS8 hl hS hu hv
    have hpP : p < P := by omega
    rw [rl] at hl
    have hS1 : nd S (2 ^ p) < 256 := Nat.lt_of_le_of_lt (nd_le _ _) hS8
    have e := hS p (Nat.le_refl _) hpP
    cases hb : S.testBit p with
    | false =>
      rw [hb, if_neg (by decide)] at hl
      rw [hb] at e
      have ok := (rl_ok n (p + 1) _ (by omega) l hl).1
      obtain ⟨i1, i2⟩ := ih (p + 1) S l w (by omega) hS8 hl (fun i h1 h2 => hS i (by omega) h2) (fun i u h1 h2 => by have := hu i u h1 (by omega); omega) hv
      refine ⟨i1, ?_⟩
      rw [cf, i2, wdf, apw_o l w ok (by omega)]
      cases hw0 : w p with
      | none => rw [hw0] at e; cases e
      | some u =>
        have := hu p u hw0 (Nat.le_refl _)
        have h2 : ¬ p < u := by omega
        simp [h2]
    | true =>
      rw [hb] at e
      have hw0 : w p = none := by
        cases hq : w p with
        | none => rfl
        | some u => rw [hq] at e; cases e
      rw [hb, if_pos rfl] at hl
      rcases List.mem_append.mp hl with hl | hl
      · obtain ⟨q, q1, q2, q3⟩ := mem_rq _ _ hl
        split at q3
        · rename_i hc
          obtain ⟨l', hl', rfl⟩ := List.mem_map.mp q3
          have ok := (rl_ok n (p + 1) _ (by omega) l' hl').1
          simp only [Bool.and_eq_true] at hc
          have hwq : w q = none := by
            have e := hS q (by omega) (by omega)
            rw [hc.1] at e
            cases hq : w q with
            | none => rfl
            | some u => rw [hq] at e; cases e
          obtain ⟨i1, i2⟩ := ih (p + 1) (nd (nd S (2 ^ p)) (2 ^ q)) l' (swd w p q) (by omega) (Nat.lt_of_le_of_lt (nd_le _ _) hS1) hl' (fun i h1 h2 => by
            rw [nd2_bit hS1, nd2_bit hS8, hS i (by omega) h2, swd_c]
            by_cases c1 : i = q
            · subst c1; simp
            · have c2 : i ≠ p := by omega
              simp [c1, c2, Ne.symm c1, Ne.symm c2]) (fun i u h1 h2 => by
            rw [swd_c] at h1
            split at h1
            · injection h1 with h1; omega
            · split at h1
              · omega
              · have := hu i u h1 (by omega); omega) (hv.sw hpP (by omega) (by omega) hw0 hwq)
          refine ⟨i1, ?_⟩
          show (if wdf (apw (swd w p q) l') p then 1 else 0) + cf (wdf (apw (swd w p q) l')) n (p + 1) = l'.length + 1
          have h2 : p < q := by omega
          have h3 : wdf (apw (swd w p q) l') p = true := by
            rw [wdf, apw_o l' _ ok (by omega), swd_c, if_neg (by omega), if_pos rfl]
            simp [h2]
          rw [i2, h3]
          simp [Nat.add_comm]
        · cases q3
      · have ok := (rl_ok n (p + 1) _ (by omega) l hl).1
        obtain ⟨i1, i2⟩ := ih (p + 1) (nd S (2 ^ p)) l w (by omega) hS1 hl (fun i h1 h2 => by
          rw [nd2_bit hS8, hS i (by omega) h2]
          have c2 : p ≠ i := by omega
          simp [c2]) (fun i u h1 h2 => by have := hu i u h1 (by omega); omega) hv
        refine ⟨i1, ?_⟩
        rw [cf, i2, wdf, apw_o l w ok (by omega), hw0]
        simp
theorem apw_top {P : Nat} {O : Nat → Nat → Bool} {l : PL} (hP : P ≤ 8) (hl : l ∈ rl P O P 0 (evy P)) : IV P (apw (fun _ => none) l) ∧ ct (wdf (apw (fun _ => none) l)) P = l.length := by
  obtain ⟨h1, h2⟩ := apw_all P 0 (evy P) l (fun _ => none) (by omega) (evy_lt hP) hl (fun i _ hi => by rw [evy_bit]; simp [hi]) (fun i u h _ => by cases h) (fun i q _ h => by cases h)
  refine ⟨h1, ?_⟩
  have := ct_cf (wdf (apw (fun _ => none) l)) P 0
  rw [Nat.zero_add] at this
  rw [this, h2]
  show 0 + l.length = l.length
  omega
/-- mates set -/
def smw (P : Nat) (x : Lf) (w : Nat → Option Nat) : Lf := (lag x, fun i => if i < P then w i else lmt x i, lsn x, lyr x)
theorem WL.sw {r : Ru} {x : Lf} {B : Nat} {w : Nat → Option Nat} (h : WL r x B) (hv : IV (rP r) w) : WL r (smw (rP r) x w) B := by
  obtain ⟨h1, h2, h3, h4⟩ := h
  refine ⟨h1, h2, h3, fun p q hp hq => ?_⟩
  have hq : (if p < rP r then w p else lmt x p) = some q := hq
  rw [if_pos hp] at hq
  have k := hv p q hp hq
  refine ⟨k.1, k.2.1, ?_⟩
  show (if q < rP r then w q else lmt x q) = some p
  rw [if_pos k.1]
  exact k.2.2
theorem c_all_loop {r : Ru} {x : Lf} {w : Nat → Option Nat} (hP : rP r ≤ 8) : ∀ n k m, k ≤ rP r → rP r - k < n → IC r (smw k x w) m 25 → (∀ i, i < 8 → gi m 95 i = oN (w i)) → ∃ m2, X11_matchAll_b48 n (nI k) m = (bnd (X10_couples 25 m2) fun r_11 m_12 => some (r_11, m_12)) ∧ IC r (smw (rP r) x w) m2 25 ∧ Fr (s16 25) m m2 := by
  intro n
  induction n with
  | zero => intro k m _ h; omega
  | succ n ih =>
    intro k m hk hn h h95
    have hPx : gi m 2 1 = nI (rP r) := h.P
    rw [X11_matchAll_b48, hPx, K1]
    rcases Nat.eq_or_lt_of_le hk with he | hl
    · subst he
      rw [jle_t (by omega) (by omega)]
      exact ⟨m, rfl, h, Fr.rf⟩
    · have h1 := h.wmt (by decide) (p := k) (w k)
      have h2 : IC r (smw (k + 1) x w) (si m 28 k (oN (w k))) 25 := h1.el ⟨fun _ _ => rfl, fun i _ => by
        show (if i = k then w k else if i < k then w i else lmt x i) = (if i < k + 1 then w i else lmt x i)
        by_cases c1 : i = k
        · rw [if_pos c1, if_pos (by omega), c1]
        · rw [if_neg c1]
          by_cases c2 : i < k
          · rw [if_pos c2, if_pos (by omega)]
          · rw [if_neg c2, if_neg (by omega)], fun _ _ _ _ => rfl, rfl⟩
      obtain ⟨m2, i1, i2, i3⟩ := ih (k + 1) _ (by omega) (by omega) h2 (fun i hi => by rw [gsn (by omega)]; exact h95 i hi)
      rw [jle_f hl (by omega), chk_in (by omega) (by omega), chk_in (by omega) (by omega), ix_nI (by omega), h95 k (by omega), lq, nadd]
      exact ⟨m2, i1, i2, Fr.tr (Fr.si (by unfold s16; omega)) i3⟩
theorem m_all_loop {r : Ru} {x : Lf} {w : Nat → Option Nat} (hT : rT r ≤ 14) (hP : rP r ≤ 8) : ∀ n k m, k ≤ rP r → rP r - k < n → IM r (smw k x w) m → (∀ i, i < 8 → gi m 11 i = oN (w i)) → ∃ m2, X12_matchAll_b23 n (nI k) m = (bnd (X12_notes m2) fun _ m_9 => some ((gi m_9 0 25), m_9)) ∧ IM r (smw (rP r) x w) m2 ∧ FL s8 m m2 := by
  intro n
  induction n with
  | zero => intro k m _ h; omega
  | succ n ih =>
    intro k m hk hn h h11
    rw [X12_matchAll_b23, K2, chk_in (by omega) (by omega), ix_nI (by omega), h.P, K1, K153]
    rcases Nat.eq_or_lt_of_le hk with he | hl
    · subst he
      rw [jle_t (by omega) (by omega)]
      exact ⟨m, rfl, h, FL.rf⟩
    · have h1 := h.wmt hT hP hl (w k)
      have h2 : IM r (smw (k + 1) x w) (si m 1 (153 + k) (oN (w k))) := h1.el ⟨fun _ _ => rfl, fun i _ => by
        show (if i = k then w k else if i < k then w i else lmt x i) = (if i < k + 1 then w i else lmt x i)
        by_cases c1 : i = k
        · rw [if_pos c1, if_pos (by omega), c1]
        · rw [if_neg c1]
          by_cases c2 : i < k
          · rw [if_pos c2, if_pos (by omega)]
          · rw [if_neg c2, if_neg (by omega)], fun _ _ _ _ => rfl, rfl⟩
      obtain ⟨m2, i1, i2, i3⟩ := ih (k + 1) _ (by omega) (by omega) h2 (fun i hi => by rw [gsn (by omega)]; exact h11 i hi)
      rw [jle_f hl (by omega)]
      simp (disch := omega) only [nadd, chk_in, ix_nI, lq, h11 k (by omega)]
      exact ⟨m2, i1, i2, (FL.s1 (by omega) (by omega)).tr i3⟩
theorem St_matchAll_ok : St_matchAll Rel := by
  intro k N mx mm hk ⟨s, e, ib, hw, hc, hm⟩
  have g := hw.gx
  have hT := g.T; have hP := g.P
  have h := hc.2.1
  have hm0 := hm.th
  rw [X11_matchAll, X12_matchAll, K0, lq]
  obtain ⟨mx1, a1, a2, a3⟩ := c_survey g h
  obtain ⟨mx2, a4, a5, a6, a7⟩ := c_solve hP (gd_gb g) a2
  have hP1 : gi mx2 2 1 = nI (rP (sR s)) := by rw [(a7 2 (by unfold s934; omega) 1).1, (a3 2 (by unfold s90; omega) 1).1]; exact h.P
  obtain ⟨mx3, a8, a9, a10⟩ := c_follow hP two_pow_evy a6 a5
  have fx3 : FX mx mx3 := ((fx90 a3).tr (fx934 a7)).tr (fx95 a10)
  have hc3 := hc.fx fx3
  obtain ⟨mm1, b1', b2, b3⟩ := m_laysPairs (away := 0) (years := 0) (by omega) hw (by omega) (by omega) hm0
  obtain ⟨mm2, d1, d2, d3, d4⟩ := m_begins (just := 0) false hP (by omega) (gd_gb g) b3 b2.2.1.P
  have d1 : X12_begins (nI 0) (nI 0) mm1 = some ((), mm2) := d1
  have br := fold_best (O := Om s 0 0) (just := 0) (st := bgn mm1) hP (gd_gb g) rfl
  rw [bst_cong (O2 := my (sR s) (sX s)) (fun p q _ _ => Om0)] at br
  have hm2 := b2.fm d4
  generalize hl : bst (rP (sR s)) (my (sR s) (sX s)) (gd (sR s) (sX s)) (rP (sR s)) 0 (evy (rP (sR s))) = l at *
  have hmem : l ∈ rl (rP (sR s)) (my (sR s) (sX s)) (rP (sR s)) 0 (evy (rP (sR s))) := by rw [← hl]; exact bst_mem
  obtain ⟨t1, t2⟩ := apw_top hP hmem
  have hlen := (rl_ok _ 0 _ (by omega) l hmem).2
  obtain ⟨mx4, e2, k1, k2, k3, k4⟩ := c_keeps hw hc3
  have z0 : ∀ w : Nat → Option Nat, EL (sR s) (sX s) (smw 0 (sX s) w) := fun w => ⟨fun _ _ => rfl, fun i _ => by
    show lmt (sX s) i = (if i < 0 then w i else lmt (sX s) i)
    rw [if_neg (by omega)], fun _ _ _ _ => rfl, rfl⟩
  obtain ⟨mx5, l1, l2, l3⟩ := c_all_loop (w := apw (fun _ => none) l) hP FU 0 mx4 (by omega) (by unfold FU; omega) (k3.el (z0 _)) (fun i hi => by rw [(k4 95 (by unfold s4089; omega) i).1]; exact a9 i hi)
  obtain ⟨mm3, n1, n2, n3⟩ := m_keeps hT hP hm2.2.1
  have h11 : ∀ i, i < 8 → gi mm3 11 i = oN (apw (fun _ => none) l i) := fun i hi => by
    rw [(n3 11 (by omega) i).1, d2.2.2.2 i hi, br.2.2]
  obtain ⟨mm4, o1, o2, o3⟩ := m_all_loop (w := apw (fun _ => none) l) hT hP FU 0 mm3 (by omega) (by unfold FU; omega) ((hm2.2.1.fr (fun j => (n3 1 (by decide) j).1)).el (z0 _)) h11
  obtain ⟨mm5, p1, p2, p3, p4⟩ := m_noted hw hm2 n2 n3 o2 o3
  have wx : WL (sR s) (smw (rP (sR s)) (sX s) (apw (fun _ => none) l)) (bd (k + 1)) := (hw.2.2.2.2.1.mono (bd_le (by omega))).sw t1
  have gy : GX (sR s) (smw (rP (sR s)) (sX s) (apw (fun _ => none) l)) := g.mk wx (by unfold bd; omega)
  have hcp : cpl (sR s) (smw (rP (sR s)) (sX s) (apw (fun _ => none) l)) = l.length := by
    rw [cpl, ← t2]
    refine ct_cong (fun i hi => ?_)
    have e0 : lmt (smw (rP (sR s)) (sX s) (apw (fun _ => none) l)) i = apw (fun _ => none) l i := if_pos hi
    rw [wd, wdf, e0]
    cases apw (fun _ => none) l i <;> rfl
  have h25 : gi mm5 0 25 = nI l.length := by
    have q : ∀ j, j ≠ 5 → gi mm5 0 j = gi mm2 0 j := fun j _ => by
      obtain ⟨mmx, y1, y2, y3⟩ := m_notes hT hP hw.2.2.2.2.2.1 ((Mh.fl (S := fun c => c = 7) hT hP hm2.2.2.1 (n3.fl (by decide))).fl hT hP o3) (n2.fr (fun j => (o3.1 7 (by unfold s8; omega) (by omega) j).1))
      have y4 : mm5 = mmx := congrArg Prod.snd (Option.some.inj (p1.symm.trans y1))
      rw [y4, y3.1 0 (by omega), (o3.1 0 (by unfold s8; omega) (by omega) j).1, (n3 0 (by omega) j).1]
    rw [q 25 (by omega), d2.1, br.1]
  rw [a1, bq, a4, bq, c_every g hP1, bq, a8, bq, k1, bq, l1, c_couples gy l2, bq, hcp, b1', bq, d1, bq, n1, bq, o1, p1, bq, h25]
  exact ⟨_, _, _, rfl, rfl, Rel.kp hk hw hc hm2 wx ((fx3.xh.tr (xh40 k4)).tr (xh16 l3)) l2 (k2.f16 l3) p4 p2 p3⟩
