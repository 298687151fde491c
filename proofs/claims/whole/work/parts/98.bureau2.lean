/-- both read the same text -/
theorem bur_read {s : Sg} {k e N : Nat} {ib : Nat → Nat} {mx mm : Mem} {n : Nat} (hw : WS s k) (hc : CI s e ib N mx) (hm : MI s mm) (hn : n ≤ sNt s) : ∃ mx' mm', X7_readText (nI n) (si mx 0 1 (nI 0)) = some ((), mx') ∧ X12_bureau (nI n) mm = X12_bureau_b100 mm' ∧ (∀ c, ¬ (9 ≤ c ∧ c ≤ 21) → c ≠ 39 → c ≠ 0 → ∀ j, gi mx' c j = gi mx c j ∧ gl mx' c j = gl mx c j) ∧ gi mx' 0 1 = nI 0 ∧ okl (gi mx' 39 3) = true ∧ (∀ c, c ≠ 0 → c ≠ 4 → ∀ j, gi mm' c j = gi mm c j ∧ gl mm' c j = gl mm c j) ∧ gi mm' 0 5 = nI 0 ∧ ((gi mx' 39 8 = nI 0 ∧ gi mx' 39 9 = NO ∧ gi mm' 0 11 = nI 0 ∧ ∃ r' ag' li' N', N' ≤ 900 ∧ TWl r' ag' li' ∧ TC r' ag' li' mx' ∧ TM r' ag' li' N' mm') ∨ DD mx' mm') := by
  have h900 := hw.2.1
  have htb : ∀ i, i < n → sTp s i < 256 := fun i hi => hw.2.2.1 i (by omega)
  obtain ⟨⟨c1, c2⟩, _, _, ⟨⟨c3, _⟩, _⟩, _⟩ := hc
  obtain ⟨⟨d1, d2⟩, _⟩ := hm
  obtain ⟨m2, m3, e1, e2, e3, e4⟩ := c_told (m := si (si (si (si mx 0 1 (nI 0)) 39 4 (nI n)) 39 8 (nI 0)) 39 9 NO)
  obtain ⟨p2, q1, q2, q3⟩ := m_plain (m := si (si (si (si (si mm 0 0 (nI 0)) 0 8 (nI n)) 0 5 (nI 0)) 0 7 (nI 0)) 0 11 (nI 0)) (w := 2096) (b := 4) (by omega) (by omega)
  have g39 : ∀ j, gi (si m3 39 7 (nI 0)) 39 j = if j = 7 then nI 0 else gi (si (si (si (si mx 0 1 (nI 0)) 39 4 (nI n)) 39 8 (nI 0)) 39 9 NO) 39 j := fun j => by
    by_cases e : j = 7
    · rw [e, gss, if_pos rfl]
    · rw [gsi e, if_neg e, (e4 39 (by omega) j).1]
  have g0 : ∀ c, ¬ (9 ≤ c ∧ c ≤ 21) → c ≠ 39 → c ≠ 0 → ∀ j, gi (si m3 39 7 (nI 0)) c j = gi mx c j ∧ gl (si m3 39 7 (nI 0)) c j = gl mx c j := fun c h1 h2 h3 j => ⟨by rw [gsn h2, (e4 c h1 j).1, gsn h2, gsn h2, gsn h2, gsn h3], (e4 c h1 j).2⟩
  have g01 : gi (si m3 39 7 (nI 0)) 0 1 = nI 0 := by rw [gsn (by omega), (e4 0 (by omega) 1).1, gsn (by omega), gsn (by omega), gsn (by omega), gss]
  have k0 : ∀ j, gi p2 0 j = gi (si (si (si (si (si mm 0 0 (nI 0)) 0 8 (nI n)) 0 5 (nI 0)) 0 7 (nI 0)) 0 11 (nI 0)) 0 j := fun j => (q3 0 (by omega) j).1
  have kc : ∀ c, c ≠ 0 → c ≠ 4 → ∀ j, gi p2 c j = gi mm c j ∧ gl p2 c j = gl mm c j := fun c h1 h2 j => ⟨by rw [(q3 c h2 j).1, gsn h1, gsn h1, gsn h1, gsn h1, gsn h1], (q3 c h2 j).2⟩
  have hT1 : CTp (sTp s) n (si m3 39 7 (nI 0)) := ⟨by rw [g39, if_neg (by omega), gsi (by omega), gsi (by omega), gss], fun i hi => by rw [(g0 1 (by omega) (by omega) (by omega) i).1]; exact c2 i (by omega)⟩
  have hT2 : MTp (sTp s) n p2 := ⟨by rw [k0, gsi (by omega), gsi (by omega), gsi (by omega), gss], fun i hi => by rw [(kc 3 (by omega) (by omega) i).1]; exact d2 i (by omega)⟩
  have c7 : gi (si m3 39 7 (nI 0)) 39 7 = nI 0 := gss
  have m7 : gi p2 0 7 = nI 0 := by rw [k0, gsi (by omega), gss]
  have c8 : gi (si m3 39 7 (nI 0)) 39 8 = nI 0 := by rw [g39, if_neg (by omega), gsi (by omega), gss]
  have c9 : gi (si m3 39 7 (nI 0)) 39 9 = NO := by rw [g39, if_neg (by omega), gss]
  have ok3 : okl (gi (si m3 39 7 (nI 0)) 39 3) = true := by rw [g39, if_neg (by omega), gsi (by omega), gsi (by omega), gsi (by omega), gsn (by omega)]; exact c3
  have m11 : gi p2 0 11 = nI 0 := by rw [k0, gss]
  have m5 : gi p2 0 5 = nI 0 := by rw [k0, gsi (by omega), gsi (by omega), gss]
  have tC : TC rN (fun _ => 0) (fun _ => 0) (si m3 39 7 (nI 0)) := e3.fr (fun c h1 h2 j => gsn (by omega))
  have tM : TM rN (fun _ => 0) (fun _ => 0) 0 p2 := m_told q2
  have E1 : X7_readText (nI n) (si mx 0 1 (nI 0)) = bnd (X7_next (si m3 39 7 (nI 0))) fun _ m_10 => X7_readText_b50 FU (nI 1) (nI 0) m_10 := by
    rw [X7_readText, K900, jlt_f (by omega) (by omega), lq, K0, lq, kn1, lq, e1, bq, e2, bq, lq, K1]
  have E2 : X12_bureau (nI n) mm = bnd (X12_next p2) fun _ m_11 => X12_bureau_b53 FU m_11 := by
    rw [X12_bureau, K0, lq, gsi (by omega), d1, wj_t hn (by omega), bq, if_neg (show ¬ nI 1 = nI 0 by decide), lq, lq, lq, lq, q1, bq]
  generalize si m3 39 7 (nI 0) = mx0 at g0 g01 hT1 c7 c8 c9 ok3 tC E1
  obtain ⟨a, b, C, K, v, mx1, mm1, n0, n1, n2, n3, n4, n5, n6, n7⟩ := nxt (b := 0) (by omega) htb (Nat.zero_le _) hT1 c7 hT2 m7
  have tl : TL (sTp s) n a b C K v mx1 mm1 := ⟨n1, n3, n6, by rw [n4.2 8 (by omega) (by omega) (by omega), c8], by rw [n7.2 11 (by omega) (by omega) (by omega) (by omega), m11]⟩
  have aL := tl.aL
  obtain ⟨mx', mm', r1, r2, r3, r4, r5⟩ := text_loop (by omega) htb FU FU 0 a b C K v rN (fun _ => 0) (fun _ => 0) 0 mx1 mm1 (by unfold FU; omega) (by unfold FU; omega) (Nat.zero_le _) tl twN (tC.g n4.g) (tM.g n7.g) (Nat.zero_le _) rfl
  refine ⟨mx', mm', by rw [E1, n2, bq, r1], by rw [E2, n5, bq, r2], fun c h1 h2 h3 j => ⟨by rw [(r3.1 c (by omega) j).1, (n4.1 c h2 j).1, (g0 c h1 h2 h3 j).1], by rw [(r3.1 c (by omega) j).2, (n4.1 c h2 j).2, (g0 c h1 h2 h3 j).2]⟩, by rw [(r3.1 0 (by omega) 1).1, (n4.1 0 (by omega) 1).1, g01], r3.2.2.1 (by rw [n4.2 3 (by omega) (by omega) (by omega)]; exact ok3), fun c h1 h2 j => ⟨by rw [(r4.1 c (by omega) j).1, (n7.1 c h1 j).1, (kc c h1 h2 j).1], by rw [(r4.1 c (by omega) j).2, (n7.1 c h1 j).2, (kc c h1 h2 j).2]⟩, by rw [r4.2 5 (by omega) (by omega) (by omega) (by omega) (by omega) (by omega), n7.2 5 (by omega) (by omega) (by omega) (by omega), m5], ?_⟩
  rcases r5 with ⟨s1, s2, s3⟩ | s1
  · exact Or.inl ⟨s1, by rw [(r3.2.2.2 s1).2, n4.2 9 (by omega) (by omega) (by omega), c9], s2, s3⟩
  · exact Or.inr s1
theorem St_bureau_ok : St_bureau Rel := by
  intro k N mx mm hk ⟨s, e, ib, hw, hc, hm⟩ a
  have h900 := hw.2.1
  have g := hw.gx
  have fin : Rel (k + 1) N mx (si mm 0 0 (nI 0)) := Rel.rd hk hw hc hm FX.rf FM.th
  by_cases ha : prs (sNt s + 1) a
  · obtain ⟨n, hn, rfl⟩ := ha
    obtain ⟨mx', mm', e1, e2, e3, e4, e5, e6, e7, e8⟩ := bur_read (n := n) hw hc hm (by omega)
    rw [X11_bureau, K0, if_neg (nI_nneg (by omega)), hc.1.1, jle_t (by omega) (by omega), lq, e1, bq, e2, X12_bureau_b100, kn1, lq, gsi (by omega), K0]
    have hH : ∀ i, i < (sH s).length → WL (sR s) (hg (sH s) i) (bd (k + 1)) := fun i hi => (hw.2.2.2.2.2.2.1 i hi).mono (bd_le (by omega))
    rcases e8 with ⟨z1, z2, z3, r', ag', li', N', y1, y2, y3, y4⟩ | hd
    · have hT := y2.1.1
      have hP := y2.1.2.1
      obtain ⟨mx1, a1, a2, a3⟩ := c_rbecome (a := 2) (b := 9) (m := mx') hT hP (by omega) y3.1
      obtain ⟨mx2, b1, b2, b3⟩ := c_become (a := 26) (b := 16) (m := mx1) hT hP (by omega) ((cl_lfO y2 y3).fr (fun c q1 q2 j => (a3 c (by unfold s06; omega) j).1))
      have cl := m_bur_loop (m := si (si mm' 0 13 (nI 0)) 0 14 NO) FU 0 (by omega) (by unfold FU; omega)
      rw [cq_z] at cl
      have r4 : gi mx2 2 4 = nI (rlin r') := by rw [(b3 2 (by unfold s05; omega) _).1]; exact a2.2.2.2.2.1
      rw [if_pos z1, a1, bq, b1, bq, X2_forget, K0, lq, bq, gsn (by omega), r4, if_pos z3, X12_bureau_b124, K0, lq, gsi (by omega), gsi (by omega), z3, if_pos rfl, cl, gsn (by omega), gsn (by omega), y4.1]
      have kx : ∀ c, ¬ (2 ≤ c ∧ c ≤ 21) → ¬ (26 ≤ c ∧ c ≤ 31) → c ≠ 40 → c ≠ 0 → c ≠ 39 → ∀ j, gi (si mx2 40 2 (nI 0)) c j = gi mx c j ∧ gl (si mx2 40 2 (nI 0)) c j = gl mx c j := fun c h1 h2 h3 h4 h5 j => ⟨by rw [gsn h3, (b3 c (by unfold s05; omega) j).1, (a3 c (by unfold s06; omega) j).1, (e3 c (by omega) h5 h4 j).1], ((b3 c (by unfold s05; omega) j).2.trans (a3 c (by unfold s06; omega) j).2).trans (e3 c (by omega) h5 h4 j).2⟩
      have k39 : ∀ c, c = 0 ∨ c = 39 → ∀ j, gi (si mx2 40 2 (nI 0)) c j = gi mx' c j := fun c h j => by rw [gsn (by omega), (b3 c (by unfold s05; omega) j).1, (a3 c (by unfold s06; omega) j).1]
      refine ⟨_, _, _, rfl, rfl, ((0, sTp s), r', lfO ag' li', [], sIm s, sT s, (nI 0, NO)), e, ib, ws_bu hk hw y2.1 (wl_lfO y2 (by unfold bd; omega)) (Nat.zero_le _) (fun i hi => absurd hi (Nat.not_lt_zero _)), hc.bu (fun c h1 h2 h3 h4 h5 h6 j => kx c (by unfold scx at h1; omega) h3 (by omega) h5 h6 j) (by rw [k39 0 (by omega)]; exact e4) (by rw [k39 39 (by omega)]; exact e5) ⟨a2.fr (fun c h1 h2 j => by rw [gsn (by omega), (b3 c (by unfold s05; omega) j).1]), b2.fr (fun c h1 h2 j => gsn (by omega))⟩ ⟨hc.2.2.1.1, by rw [gsi (by omega), (b3 40 (by unfold s05; omega) _).1, (a3 40 (by unfold s06; omega) _).1, (e3 40 (by omega) (by omega) (by omega) _).1]; exact hc.2.2.1.2.1, gss, fun i hi => absurd hi (Nat.not_lt_zero _)⟩ (by rw [k39 39 (by omega)]; exact z1) (by rw [k39 39 (by omega)]; exact z2), ?_⟩
      refine hm.bu (fun i y hi hy => (hw.2.2.2.2.2.2.2.1 i y hi hy).1) (fun c h1 h2 h3 j => ⟨?_, ?_⟩) (fun j hj => ?_) ?_ (im_lfO y2 y1 (y4.fr (m2 := si (si mm' 0 13 (nI 0)) 0 14 NO) (fun j => by rw [gsn (by omega), gsn (by omega)])) (fun j hj => by rw [gi_cq, if_pos (by omega)]; exact gix (by omega))) ⟨?_, fun i hi => absurd hi (Nat.not_lt_zero _)⟩ ?_ ?_
      · rw [gi_cq, if_neg (fun q => h3 q.1), gsn h2, gsn h2]
        exact (e6 c h2 (by unfold scm at h1; omega) j).1
      · exact (e6 c h2 (by unfold scm at h1; omega) j).2
      · rw [gi_cq, if_neg (by omega), gsn (by omega), gsn (by omega)]
        exact (e6 1 (by omega) (by omega) j).1
      · rw [gi_cq, if_neg (by omega), gsi (by omega), gsi (by omega)]
        exact e7
      · rw [gi_cq, if_pos (by omega), gsn (by omega), gsn (by omega)]
        exact (gix (by omega)).trans y4.2.2.2.2.2.2.2.2.2.2.2.2.2.1
      · rw [gi_cq, if_neg (by omega), gsi (by omega), gss]
      · rw [gi_cq, if_neg (by omega), gss]
    · have h8 := hd.c8
      have m8 := hd.m8
      obtain ⟨w, pl, d1, d2, d3, d4, d5, d6, d7⟩ := hd
      rw [if_neg h8, if_neg m8, X12_bureau_b124, gsi (by omega), lq, K0, gsi (by omega), gsi (by omega), if_neg m8, d4, d6, d7]
      refine ⟨_, _, _, rfl, rfl, ((0, sTp s), sR s, sX s, sH s, sIm s, sT s, (nI w, nI pl)), e, ib, ws_bu hk hw hw.2.2.2.1 (hw.2.2.2.2.1.mono (bd_le (by omega))) hw.2.2.2.2.2.1 hH, hc.bu (fun c h1 h2 h3 h4 h5 h6 j => e3 c (by unfold scx at h1; omega) h6 h5 j) e4 e5 (hc.2.1.fr (fun c h j => (e3 c (by omega) (by omega) (by omega) j).1)) ⟨hc.2.2.1.1, by rw [(e3 40 (by omega) (by omega) (by omega) _).1]; exact hc.2.2.1.2.1, by rw [(e3 40 (by omega) (by omega) (by omega) _).1]; exact hc.2.2.1.2.2.1, fun i hi => (hc.2.2.1.2.2.2 i hi).fr (fun c h1 h2 j => (e3 c (by omega) (by omega) (by omega) j).1)⟩ d4 d5, ?_⟩
      have kk : ∀ c, c ≠ 0 → c ≠ 4 → ∀ j, gi (si (si mm' 0 13 (nI w)) 0 14 (nI pl)) c j = gi mm c j := fun c h1 h2 j => by rw [gsn h1, gsn h1, (e6 c h1 h2 j).1]
      exact hm.bu (fun i y hi hy => (hw.2.2.2.2.2.2.2.1 i y hi hy).1) (fun c h1 h2 h3 j => ⟨kk c h2 (by unfold scm at h1; omega) j, (e6 c h2 (by unfold scm at h1; omega) j).2⟩) (fun j hj => kk 1 (by omega) (by omega) j) (by rw [gsi (by omega), gsi (by omega)]; exact e7) (hm.2.1.fr (fun j => kk 1 (by omega) (by omega) j)) ⟨(kk 1 (by omega) (by omega) _).trans hm.2.2.1.1, fun i hi => (hm.2.2.1.2 i hi).fr (fun j => kk 1 (by omega) (by omega) j)⟩ (by rw [gsi (by omega), gss]) gss
  · rw [X11_bureau, K0, hc.1.1, out_k (by omega) ha, X12_bureau, K0, lq, gsi (by omega), hm.1.1, wk_f rfl ha (by omega), bq, if_pos rfl]
    exact ⟨_, _, _, rfl, rfl, fin⟩
