theorem St_write_ok : St_write Rel := by
  intro k N mx mm hk ⟨s, e, ib, hw, hc, hm⟩ a b v
  have m1 : Mtr s (si mm 0 0 (nI 0)) := (hm.fm FM.th).2.2.2.2.1
  have fin : Rel (k + 1) N mx (si mm 0 0 (nI 0)) := Rel.rd hk hw hc hm FX.rf FM.th
  rw [X11_write, X12_write, K0, lq]
  by_cases ha : prs 4 a
  · obtain ⟨i, hi, rfl⟩ := ha
    rw [c_isTray_t hi, bq, jeq_f (by omega) (by omega) (by omega), chk_in hi (by omega), lq, ix_nI (by omega)]
    cases ht : sT s i with
    | none =>
      rw [c_tray0 hc.2.2.2.2.1 hi ht, jeq_t rfl, m_noTray_0 hi (m_tray0 m1 hi ht), bq, if_neg (by decide)]
      exact ⟨_, _, _, rfl, rfl, fin⟩
    | some t =>
      obtain ⟨c0, c1, c2, c3⟩ := c_tray1 hc.2.2.2.2.1 hi ht
      obtain ⟨d0, d1, d2⟩ := m_tray1 m1 hi ht
      obtain ⟨t1, t2⟩ := hw.2.2.2.2.2.2.2.2 i t hi ht
      have t1 : t.1 ≤ 3 := t1
      have t2 : t.2.1 ≤ 40 := t2
      rw [c0, jeq_f (by omega) (by omega) (by omega), m_noTray_1 hi t1 d0, bq, jeq_t rfl, chk_in hi (by omega), d1, K1]
      by_cases hb : prs t.2.1 b
      · obtain ⟨j, hj, rfl⟩ := hb
        rw [wi_t (by omega) hj, bq, jeq_f (by omega) (by omega) (by omega), jlt_f (by omega) (by omega), c1, jlt_t hj (by omega), c_cut c2 t1, bq, chk_in hi (by omega), d0, m_cut t1, bq]
        simp (disch := omega) only [chk_in, lq, ix_nI, K40, nmul, nadd, gls]
        refine ⟨_, _, _, rfl, rfl, sTr s i (t.1, t.2.1, fun l => if l = j then cutv t.1 v else t.2.2 l), e, ib, (hw.mono (by omega) (by omega)).tray t1 t2, hc.tray hi (fun c q1 q2 l => ⟨rfl, gln (by omega)⟩) c0 c1 c2 (fun l hl => ?_), hm.tray hi (fun c q1 q2 q3 q4 l => gsn (by omega)) (fun l hl => gsi (by omega)) (fun l _ => show gi (si mm 0 0 (nI 0)) 14 l = gi mm 14 l from gsn (by omega)) (fun l _ => show gi (si mm 0 0 (nI 0)) 15 l = gi mm 15 l from gsn (by omega)) (fun l hl => gli (by omega)) d0 d1 (fun l hl => ?_) (fun l u hl hu => (hw.2.2.2.2.2.2.2.2 l u hl hu).2)⟩
        · have c3 := c3 l hl
          rw [show 101 + 2 * i = 100 + 2 * i + 1 by omega] at c3 ⊢
          by_cases hlj : l = j
          · subst hlj; simp [gls]
          · simp [hlj]; rw [gli (by omega)]; exact c3
        · by_cases hlj : l = j
          · subst hlj; simp [gls]
          · simp [hlj]; rw [gli (by omega)]; exact d2 l hl
      · rw [wi_f (by omega) hb, bq, jeq_t rfl]
        rw [prs_iff (by omega), le_iff, lt_iff, zI, tI (by omega)] at hb
        by_cases h0 : b < nI 0
        · rw [if_pos h0]
          exact ⟨_, _, _, rfl, rfl, fin⟩
        · rw [if_neg h0, c1, if_neg]
          · exact ⟨_, _, _, rfl, rfl, fin⟩
          · rw [lt_iff, tI (by omega)] at h0 ⊢
            omega
  · rw [c_isTray_f ha, bq, jeq_t rfl, m_noTray_f ha, bq, if_neg (by decide)]
    exact ⟨_, _, _, rfl, rfl, fin⟩
