/-- the token from a to b: its kind in the class, in the reference, its number -/
def TK (tb : Nat → Nat) (L a b C K v : Nat) : Prop := a ≤ b ∧ b ≤ L ∧ (K ≠ 24 → a < b) ∧ CK C K ∧ (C = 1 → ∀ n, n < 20 → (K = n ↔ mt tb a b n)) ∧ (C = 2 → v = vln tb a (b - a) ∧ b - a ≤ 3 ∧ ∀ i, a ≤ i → i < b → dgt (tb i) = true)
def CTk (tb : Nat → Nat) (L a b C : Nat) (m : Mem) : Prop := CTp tb L m ∧ gi m 39 5 = nI C ∧ gi m 39 6 = nI a ∧ gi m 39 7 = nI b
def MTk (tb : Nat → Nat) (L a b K v : Nat) (m : Mem) : Prop := MTp tb L m ∧ gi m 0 6 = nI a ∧ gi m 0 7 = nI b ∧ gi m 0 9 = nI K ∧ (K = 23 → gi m 0 10 = nI v)
theorem nxt {tb : Nat → Nat} {L b : Nat} {mx mm : Mem} (hL : L ≤ 900) (htb : ∀ i, i < L → tb i < 256) (hb : b ≤ L) (hc : CTp tb L mx) (hc7 : gi mx 39 7 = nI b) (hm : MTp tb L mm) (hm7 : gi mm 0 7 = nI b) : ∃ a' b' C K v mx' mm', b ≤ a' ∧ TK tb L a' b' C K v ∧ X7_next mx = some ((), mx') ∧ CTk tb L a' b' C mx' ∧ F39 mx mx' ∧ X12_next mm = some ((), mm') ∧ MTk tb L a' b' K v mm' ∧ F00 mm mm' := by
  obtain ⟨a, ha⟩ := stx_ex tb spc L (L - b) b (by omega)
  have hba := ha.1
  have haL := ha.2.1
  obtain ⟨mx1, f1, g1, e1⟩ := c_skip hL htb FU b (si mx 39 6 (nI b)) ha (by unfold FU; omega) (hc.f (F39.si (by omega))) gss
  obtain ⟨fu, mm1, f2, g2, e2⟩ := m_skip hL htb FU b (si mm 0 6 (nI b)) ha (by unfold FU; omega) (hm.f (F00.si (by omega))) gss
  have F1 : F39 mx mx1 := (F39.si (by omega)).tr f1
  have F2 : F00 mm mm1 := (F00.si (by omega)).tr f2
  have T1 := hc.f F1
  have T2 := hm.f F2
  have E1 : X7_next mx = X7_next_b60 mx1 := by rw [X7_next, lq, hc7]; exact e1
  have E2 : X12_next mm = X12_next_b8 (fu + 1) mm1 := by rw [X12_next, lq, hm7]; exact e2
  have T1' : CTp tb L (si mx1 39 7 (nI a)) := T1.f (F39.si (by omega))
  have T2' : MTp tb L (si mm1 0 7 (nI a)) := T2.f (F00.si (by omega))
  have F1' : F39 mx (si mx1 39 7 (nI a)) := F1.tr (F39.si (by omega))
  have F2' : F00 mm (si mm1 0 7 (nI a)) := F2.tr (F00.si (by omega))
  have G6 : gi (si mx1 39 7 (nI a)) 39 6 = nI a := by rw [gsi (by omega), g1]
  have M6 : gi (si mm1 0 7 (nI a)) 0 6 = nI a := by rw [gsi (by omega), g2]
  by_cases haL2 : a = L
  · refine ⟨a, a, 0, 24, 0, si (si mx1 39 7 (nI a)) 39 5 (nI 0), si (si mm1 0 7 (nI a)) 0 9 (nI 24), hba, ⟨Nat.le_refl _, haL, fun h => absurd rfl h, (show CK 0 24 by unfold CK; decide +kernel), fun h => by omega, fun h => by omega⟩, ?_, ⟨T1'.f (F39.si (by omega)), gss, by rw [gsi (by omega), G6], by rw [gsi (by omega), gss]⟩, F1'.tr (F39.si (by omega)), ?_, ⟨T2'.f (F00.si (by omega)), by rw [gsi (by omega), M6], by rw [gsi (by omega), gss], gss, fun h => by omega⟩, F2'.tr (F00.si (by omega))⟩
    · rw [E1, X7_next_b60, g1, lq, G6, T1'.1, jlt_f (by omega) (by omega), K0, lq]
    · rw [E2, X12_next_b8, g2, m_see_f T2.1 (by omega) (by omega), bq, if_neg (by decide), g2, m_see_f T2.1 (by omega) (by omega), bq, if_neg (by decide), lq, g2, M6, T2'.1, jlt_f (by omega) (by omega), K24, lq]
  · have haL3 : a < L := by omega
    have hta := htb a haL3
    have hsp : spc (tb a) = false := by
      rcases ha.2.2.2 with z | z
      · exact absurd z haL2
      · exact z
    rw [spc] at hsp
    simp at hsp
    have E2' : X12_next_b8 (fu + 1) mm1 = (bnd (X12_isSmall (nI (tb a)) (si mm1 0 7 (nI a))) fun r_10 m_11 => if r_10 = 0 then (bnd (X12_see (gi m_11 0 6) m_11) fun r_12 m_13 => bnd (X12_isDigit r_12 m_13) fun r_14 m_15 => if r_14 = 0 then (lt (si m_15 0 7 ((gi m_15 0 7) + 1)) fun m_16 => lt (si m_16 0 9 25) fun m_17 => X12_next_b254 FU 0 m_17) else (lt (si m_15 0 10 0) fun m_25 => X12_next_b146 FU m_25)) else (X12_next_b89 FU m_11)) := by
      rw [X12_next_b8, g2, m_see_t hL T2.1 T2.2 haL3, bq, K10, jeq_f hsp.2 (by omega) (by omega), g2, m_see_t hL T2.1 T2.2 haL3, bq, K32, jeq_f hsp.1 (by omega) (by omega), lq, g2, M6, T2'.1, jlt_t haL3 (by omega), m_see_t hL T2'.1 T2'.2 haL3, bq]
    have E1' : X7_next_b60 mx1 = (bnd (X7_isLetter (sx (tb a)) (si mx1 39 7 (nI a))) fun r_4 m_5 => if r_4 = 0 then (bnd (X7_isDigit (sx (tb a)) m_5) fun r_6 m_7 => if r_6 = 0 then (if sx (tb a) ≤ 0 then (X7_next_b237 3 m_7) else (bnd (J0_indexOf_0f7a4 0 (((sx (tb a) : Int32).toUInt32 % 65536).toInt32) m_7) fun r_10 m_11 => if r_10 < 0 then (X7_next_b237 3 m_11) else (X7_next_b237 (sx (tb a)) m_11))) else (X7_next_b153 FU m_7)) else (lt (si m_5 39 5 1) fun m_17 => X7_next_b107 FU m_17)) := by
      rw [X7_next_b60, g1, lq, G6, T1'.1, jlt_t haL3 (by omega), chk_in (by omega) (by omega), ix_nI (by omega), T1'.2 a haL3, lq]
    cases hl : lwr (tb a) with
    | true =>
      obtain ⟨e, he⟩ := stx_ex tb lwr L (L - a) a (by omega)
      have hae : a < e := by
        rcases Nat.eq_or_lt_of_le he.1 with z | z
        · subst z
          rcases he.2.2.2 with y | y
          · omega
          · rw [hl] at y; cases y
        · exact z
      obtain ⟨mx2, p0, p1, p2, p3, p4⟩ := c_letters hL htb FU a (si (si mx1 39 7 (nI a)) 39 5 (nI 1)) he (by have := he.2.1; unfold FU; omega) (T1'.f (F39.si (by omega))) (by rw [gsi (by omega), gss])
      obtain ⟨mm2, q0, q1, q2, q3, q4⟩ := m_letters hL htb FU a (si mm1 0 7 (nI a)) (Nat.le_refl a) he (by have := he.2.1; unfold FU; omega) T2' M6 gss
      have fx : F39 mx mx2 := (F1'.tr (F39.si (by omega))).tr p1
      have fm : F00 mm mm2 := F2'.tr q1
      refine ⟨a, e, 1, key tb a e 20 0, 0, mx2, mm2, hba, ⟨he.1, he.2.1, fun _ => hae, ck_word _ (key_rg 20 0 rfl), fun _ n hn => key_iff 20 0 rfl n hn (Nat.zero_le _), fun h => by omega⟩, ?_, ⟨hc.f fx, by rw [p3, gss], by rw [p4, gsi (by omega), G6], p2⟩, fx, ?_, ⟨hm.f fm, q4, q2, q3, fun h => ?_⟩, fm⟩
      · rw [E1, E1', c_isLetter hta, bq, hl, K0, if_neg (by decide), K1, lq, p0]
      · rw [E2, E2', m_isSmall hta, bq, hl, K0, if_neg (by decide), q0]
      · have := key_rg (tb := tb) (a := a) (b := e) 20 0 rfl
        omega
    | false =>
      cases hd : dgt (tb a) with
      | true =>
        obtain ⟨e, he⟩ := stx_ex tb dgt L (L - a) a (by omega)
        have hae : a < e := by
          rcases Nat.eq_or_lt_of_le he.1 with z | z
          · subst z
            rcases he.2.2.2 with y | y
            · omega
            · rw [hd] at y; cases y
          · exact z
        have heL := he.2.1
        obtain ⟨mx2, p0, p1, p2, p4⟩ := c_digits hL htb FU a (si mx1 39 7 (nI a)) he (by unfold FU; omega) T1' gss
        obtain ⟨mm2, q0, q1, q2, q3, q4, q5⟩ := m_digits hL htb he FU a (si (si mm1 0 7 (nI a)) 0 10 (nI 0)) (Nat.le_refl a) he.1 (by unfold FU; omega) (T2'.f (F00.si (by omega))) (by rw [gsi (by omega), M6]) (by rw [gsi (by omega), gss]) (by rw [gss, Nat.sub_self]; rfl)
        have fx : F39 mx mx2 := F1'.tr p1
        have fm : F00 mm mm2 := (F2'.tr (F00.si (by omega))).tr q1
        have X1 : X7_next mx = X7_next_b192 mx2 := by rw [E1, E1', c_isLetter hta, bq, hl, K0, if_pos (by decide), c_isDigit hta, bq, hd, if_neg (by decide), p0]
        have X2 : X12_next mm = some ((), mm2) := by rw [E2, E2', m_isSmall hta, bq, hl, K0, if_pos (by decide), M6, m_see_t hL T2'.1 T2'.2 haL3, bq, m_isDigit hta, bq, hd, if_neg (by decide), lq, q0]
        by_cases h3 : e - a ≤ 3
        · rw [if_pos h3] at q3
          refine ⟨a, e, 2, 23, vln tb a (e - a), si mx2 39 5 (nI 2), mm2, hba, ⟨he.1, heL, fun _ => hae, (show CK 2 23 by unfold CK; decide +kernel), fun h => by omega, fun _ => ⟨rfl, h3, he.2.2.1⟩⟩, ?_, ⟨(hc.f fx).f (F39.si (by omega)), gss, by rw [gsi (by omega), p4, G6], by rw [gsi (by omega), p2]⟩, fx.tr (F39.si (by omega)), X2, ⟨hm.f fm, q4, q2, q3, fun _ => q5 h3⟩, fm⟩
          rw [X1, X7_next_b192, p2, p4, G6, nsub he.1, K3, jle_t h3 (by omega), K2, lq]
        · rw [if_neg h3] at q3
          refine ⟨a, e, 3, 25, 0, si mx2 39 5 (nI 3), mm2, hba, ⟨he.1, heL, fun _ => hae, (show CK 3 25 by unfold CK; decide +kernel), fun h => by omega, fun h => by omega⟩, ?_, ⟨(hc.f fx).f (F39.si (by omega)), gss, by rw [gsi (by omega), p4, G6], by rw [gsi (by omega), p2]⟩, fx.tr (F39.si (by omega)), X2, ⟨hm.f fm, q4, q2, q3, fun h => by omega⟩, fm⟩
          rw [X1, X7_next_b192, p2, p4, G6, nsub he.1, K3, jle_f (by omega) (by omega), lq]
      | false =>
        obtain ⟨mm2, q0, q1, q2, q3, q4⟩ := m_signs hL hta haL3 FU 0 (si (si (si mm1 0 7 (nI a)) 0 7 (nI (a + 1))) 0 9 (nI 25)) (by omega) (by unfold FU; omega) ((T2'.f (F00.si (by omega))).f (F00.si (by omega))) (by rw [gsi (by omega), gsi (by omega), M6]) gss
        have fm : F00 mm mm2 := ((F2'.tr (F00.si (by omega))).tr (F00.si (by omega))).tr q1
        have X2 : X12_next mm = some ((), mm2) := by rw [E2, E2', m_isSmall hta, bq, hl, K0, if_pos (by decide), M6, m_see_t hL T2'.1 T2'.2 haL3, bq, m_isDigit hta, bq, hd, if_pos (by decide), gss, K1, nadd, lq, show (25 : Int32) = nI 25 by decide, lq, q0]
        have hck := sg_ck (tb a) hta
        have hC1 : sgc (tb a) ≠ 1 ∧ sgc (tb a) ≠ 2 ∧ kk (tb a) 12 ≠ 23 := by
          have t : ∀ b, b < 256 → sgc b ≠ 1 ∧ sgc b ≠ 2 ∧ kk b 12 ≠ 23 ∨ (sgc b ≤ 2 ∧ b ≤ 2) := by decide +kernel
          have t2 : ∀ b, b < 3 → sgc b ≠ 1 ∧ sgc b ≠ 2 ∧ kk b 12 ≠ 23 := by decide +kernel
          rcases t _ hta with z | z
          · exact z
          · exact t2 _ (by omega)
        have X1 : X7_next mx = some ((), si (si (si mx1 39 7 (nI a)) 39 5 (nI (sgc (tb a)))) 39 7 (nI (a + 1))) := by
          rw [E1, E1', c_isLetter hta, bq, hl, K0, if_pos (by decide), c_isDigit hta, bq, hd, if_pos (by decide)]
          have b237 : ∀ v, X7_next_b237 v (si mx1 39 7 (nI a)) = some ((), si (si (si mx1 39 7 (nI a)) 39 5 v) 39 7 (nI (a + 1))) := fun v => by
            rw [X7_next_b237, lq, gsi (by omega), gss, K1, nadd, lq]
          by_cases h128 : tb a < 128
          · have hsx : sx (tb a) = nI (tb a) := if_pos h128
            rw [hsx]
            by_cases hz : tb a = 0
            · rw [hz, if_pos (by decide), b237]
              rfl
            · obtain ⟨r, r1, r2⟩ := c_sign h128 (si mx1 39 7 (nI a))
              rw [jle_f (by omega) (by omega), r1, bq]
              by_cases hr : r < nI 0
              · rw [if_pos hr, b237, sgc_t (r2.mp hr)]
                rfl
              · rw [if_neg hr, b237, sgc_f (fun q => hr (r2.mpr q))]
          · have hn := sx_neg _ hta (by omega)
            have t : ∀ b, b < 256 → 128 ≤ b → sgc b = 3 := by decide +kernel
            rw [if_pos (by rw [le_iff]; rw [lt_iff] at hn; omega), b237, t _ hta (by omega)]
            rfl
        have fx : F39 mx (si (si (si mx1 39 7 (nI a)) 39 5 (nI (sgc (tb a)))) 39 7 (nI (a + 1))) := (F1'.tr (F39.si (by omega))).tr (F39.si (by omega))
        refine ⟨a, a + 1, sgc (tb a), kk (tb a) 12, 0, _, mm2, hba, ⟨by omega, by omega, fun _ => by omega, hck, fun h => absurd h hC1.1, fun h => absurd h hC1.2.1⟩, X1, ⟨hc.f fx, by rw [gsi (by omega), gss], by rw [gsi (by omega), gsi (by omega), G6], gss⟩, fx, X2, ⟨hm.f fm, by rw [q3, gsi (by omega), gsi (by omega), M6], by rw [q4, gsi (by omega), gss], q2, fun h => absurd h hC1.2.2⟩, fm⟩
