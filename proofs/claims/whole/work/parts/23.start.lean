theorem nc_RL_7 : Cond.classLink RL 7 RX11 ∈ gtb := gtb_in (List.mem_of_getElem? (i := 127) (by decide +kernel)) rfl
theorem nc_RL_10 : Cond.classLink RL 10 RX12 ∈ gtb := gtb_in (List.mem_of_getElem? (i := 1288) (by decide +kernel)) rfl
theorem ml_RL_9 : Cond.methodLink RL 9 yX11_init ∈ gtb := gtb_in (List.mem_of_getElem? (i := 129) (by decide +kernel)) rfl
theorem ml_RL_12 : Cond.methodLink RL 12 yX12_init ∈ gtb := gtb_in (List.mem_of_getElem? (i := 1290) (by decide +kernel)) rfl
def m00 : Mem := (fun _ _ => 0, fun _ _ => 0)
theorem nk_m00 (S : Nat → Sh) : NK S 1 (fun _ _ => none) m00 := fun k _ => ⟨fun j b h => (by cases h), fun j b _ h => (by simp [gi, m00, dcr] at h)⟩
theorem rx41 (j : Nat) : RX 41 j = rX11 41 j := by
  by_cases hj : j < 8
  · have h : ∀ j, j < 8 → RX 41 j = rX11 41 j := by decide +kernel
    exact h j hj
  · have e1 : RX 41 j = none := by
      show (rxT.getD 41 []).getD j none = none
      rw [List.getD_eq_getElem?_getD, List.getElem?_eq_none (by rw [show (rxT.getD 41 []).length = 8 from by decide]; omega)]
      rfl
    have h0 : j ≠ 0 := by omega
    have h1 : j ≠ 1 := by omega
    have h2 : j ≠ 2 := by omega
    have h3 : j ≠ 3 := by omega
    have h4 : j ≠ 4 := by omega
    have h5 : j ≠ 5 := by omega
    have h6 : j ≠ 6 := by omega
    have h7 : j ≠ 7 := by omega
    rw [e1]
    simp [rX11, rX0, rX1, rX2, rX4, rX5, rX6, rX7, rX8, rX9, rX10, up2, rnw, show ix 0 = 0 from rfl, show ix 1 = 1 from rfl, show ix 2 = 2 from rfl, show ix 3 = 3 from rfl, show ix 4 = 4 from rfl, show ix 5 = 5 from rfl, show ix 6 = 6 from rfl, show ix 7 = 7 from rfl, h0, h1, h2, h3, h4, h5, h6, h7]
theorem rx99 (j : Nat) : RX 99 j = rX11 99 j := by
  by_cases hj : j < 4
  · have h : ∀ j, j < 4 → RX 99 j = rX11 99 j := by decide +kernel
    exact h j hj
  · have e1 : RX 99 j = none := by
      show (rxT.getD 99 []).getD j none = none
      rw [List.getD_eq_getElem?_getD, List.getElem?_eq_none (by rw [show (rxT.getD 99 []).length = 4 from by decide]; omega)]
      rfl
    have h0 : j ≠ 0 := by omega
    have h1 : j ≠ 1 := by omega
    have h2 : j ≠ 2 := by omega
    have h3 : j ≠ 3 := by omega
    rw [e1]
    simp [rX11, rX0, rX1, rX2, rX4, rX5, rX6, rX7, rX8, rX9, rX10, up2, rnw, show ix 0 = 0 from rfl, show ix 1 = 1 from rfl, show ix 2 = 2 from rfl, show ix 3 = 3 from rfl, h0, h1, h2, h3]
theorem wl_rx11 {G : Gt} {m : Mem} (ad : Nat → Nat) : wl G SX ad 109 RX m = wl G SX ad 109 rX11 m := by
  have hj : ∀ k, k < 109 → ∀ j, j < 16 → RX k j = rX11 k j := by decide +kernel
  refine wl_refs (fun k hk c hs j hj2 => hj k hk j ?_) (fun k hk ty n hs h3 h6 j => ?_) ad
  · have hn : ∀ k, k < 109 → (match SX k with | .inl c => nF c | .inr _ => 0) ≤ 16 := by decide +kernel
    have h2 := hn k hk
    rw [hs] at h2
    exact Nat.lt_of_lt_of_le hj2 h2
  · have h : ∀ k, k < 109 → (match SX k with | .inl _ => 0 | .inr q => q.1) < 4 ∨ 5 < (match SX k with | .inl _ => 0 | .inr q => q.1) ∨ k = 41 ∨ k = 99 := by decide +kernel
    rcases h k hk with q | q | q | q
    · rw [hs] at q
      have q : ty < 4 := q
      omega
    · rw [hs] at q
      have q : 5 < ty := q
      omega
    · subst q
      exact rx41 j
    · subst q
      exact rx99 j
theorem W.ctorL {G : Gt} {l : Launch} {p : Program} {e : Env} {s : State} {mt : MethodId} {b : Nat} {below : List Frame} {meth : Method} {c : Code} {Ln : Nat} {xs : Nat → Int32} (C : CU G p s mt meth c b Ln xs) {S : Nat → Sh} {y : MethodName} {cc1 : ByteArray} {nL1 fr1 idx pc Nf q0 : Nat} {Rin R1 : Rf} {m mF : Mem} {f : Option (Unit × Mem)} (hc : Ct l y cc1 nL1 none fr1 S oV 1 Nf Rin R1 [.ref 0] m f) (hf : f = some ((), mF)) (hNf : 1 < Nf) (ck : CkB y cc1 nL1 none 0) (hyn : y.name = "<init>") (hin : Cond.instanceMethod y ∈ gtb) (hl : Cond.methodLink RL idx y ∈ gtb) {H : Heap} {locs : List Loc} {ls : Array Slot} {cells slots : Nat} {Q : State → Prop} (hP : va_P G.1 vwCl (wl G S (fun _ => q0) 1 Rin m) H) (hD : va_D (Alw s) (wl G S (fun _ => q0) 1 Rin m)) (hS : va_S (Alw s) s.heap H locs) (hls : ls.size = 4) (hfr : fr1 + 1 ≤ 2048 ∧ nL1 ≤ 21) (hcells : cells + (Nf - 1) ≤ 600000) (hslots : slots + (szs S Nf - szs S 1) ≤ 7302250) (hd : decode code pc = .ok (.invokespecial idx, 3))
    (k : ∀ (ad : Nat → Nat) (H1 : Heap) (locs1 : List Loc), ad 0 = q0 → va_P G.1 vwCl (wl G S ad Nf R1 mF) H1 → va_D (Alw s) (wl G S ad Nf R1 mF) → (∀ i, i < Nf → ad i = q0 ∨ H.size ≤ ad i) → (∀ q, q < H.size → q ≠ q0 → H1[q]? = H[q]?) → va_S (Alw s) s.heap H1 locs1 → W p l e room_1 s mt #[Value.ref b] below meth c H1 locs1 (cells + (Nf - 1)) (slots + (szs S Nf - szs S 1)) Q (F0 mt (pc + 3) ls [.ref q0])) : W p l e room_1 s mt #[Value.ref b] below meth c H locs cells slots Q (F0 mt pc ls [.ref q0, .ref q0]) := by
  have hM := hc G (fun _ => q0) H.size () mF hf
  have hrun : va_Run p l e room_1 s mt #[Value.ref b] below meth c H locs cells slots (Nf - 1) (szs S Nf - szs S 1) (F0 mt pc ls [.ref q0, .ref q0]) [.ref q0] (Qx oV G S (fun _ => q0) 1 Nf R1 (AS (fun _ => q0) 1 H.size) () mF _) (AS (fun _ => q0) 1 H.size) :=
    va_runI (cc := code) (nL := 4) (Ts := gtb) (own := RL) (b := q0) (As := []) (index := idx) (bytes := cc1) (maxL := nL1) (n := 0) ⟨C.1, C.2.1, C.2.2.2.1, C.2.2.2.2.1, C.2.2.2.2.2.1⟩ hM
      ⟨callB_of 0 C.2.2.2.2.2.1 (ws_good ck.2.1) rfl rfl rfl (C.2.2.2.2.2.1 _ ck.1) (C.2.2.2.2.2.1 _ hl) ck.2.2 ⟨hfr.1, by show 8 + (nL1 + 11) + 40 * fr1 ≤ 84000; omega⟩, hyn, C.2.2.2.2.2.1 _ hin⟩
      ⟨wb_blind G S (fun _ => q0) 1 Rin m H.size _, fun U1 hU hW => ⟨rfl, wb_u C hP hD hS U1 hU hW⟩⟩ rfl rfl hls rfl (lv_room (Nat.le_of_ble_eq_true rfl)) hd ⟨hcells, hslots⟩
  intro T hT X
  obtain ⟨v, st₀, u, T', Lc, g0, X', gL, e1, e2, ⟨⟨hv, ad2, had, hP2, hD2⟩, hz1, hk⟩, hsteps⟩ := hrun T hT X
  cases hv
  rw [g0] at hz1 hk
  have hq0 : Alw s q0 := hD.2 0 _ (wl_get (by decide) rfl)
  have hA : ∀ q, AS (fun _ => q0) 1 H.size q → Alw s q := fun q h => by
    rcases h with ⟨k, h1, rfl⟩ | h
    · exact hq0
    · exact Nat.le_trans hS.1 h
  have hS2 : va_S (Alw s) s.heap T'.heap (locs ++ Lc) := ⟨Nat.le_trans hS.1 (by rw [e1]; exact hz1), fun q h1 h3 => by rw [e1, hk q (Nat.lt_of_lt_of_le h1 hS.1) (fun z => h3 (hA q z))]; exact hS.2.1 q h1 h3, fun q hq => by
    rcases List.mem_append.mp hq with h | h
    · exact hS.2.2 q h
    · exact hA _ (gL q h)⟩
  have hadx : ad2 0 = q0 := by
    rcases had with h | h
    · omega
    · exact h.2 0 (by decide)
  have hw := k ad2 T'.heap (locs ++ Lc) hadx (by rw [e1]; exact hP2) ⟨hD2.1, fun k q hq => hA _ (hD2.2 k q hq)⟩ (fun i hi => by
    have h6 : AS (fun _ => q0) 1 H.size (ad2 i) := hD2.2 i _ (wl_get hi rfl)
    rcases h6 with ⟨k, h1, h⟩ | h
    · exact Or.inl h.symm
    · exact Or.inr h) (fun q h1 h2 => by
    rw [e1]
    exact hk q h1 (fun z => by
      rcases z with ⟨k, _, h⟩ | h
      · exact h2 h.symm
      · omega)) hS2
  obtain ⟨t2, a1, b1⟩ := hw T' rfl X'
  exact ⟨t2, hsteps t2 a1, b1⟩
theorem fs11 : ∀ j, j < 14 → defaultValue (tyX11 j) = vp_V ((List.range 14).map (fv (fun _ => 0) (fun _ _ => none) m00 0 11)) j := by decide +kernel
theorem fs12 : ∀ j, j < 33 → defaultValue (tyX12 j) = vp_V ((List.range 33).map (fv (fun _ => 0) (fun _ _ => none) m00 0 12)) j := by decide +kernel
theorem fv_q (q c : Nat) : (List.range (nF c)).map (fv (fun _ => q) (fun _ _ => none) m00 0 c) = (List.range (nF c)).map (fv (fun _ => 0) (fun _ _ => none) m00 0 c) := by
  congr 1
set_option maxRecDepth 100000 in
set_option maxHeartbeats 4000000 in
theorem start_of {Rel : Nat → Nat → Mem → Mem → Prop} (hP : PureOK Rel) (hI : ∃ mx0 mm0 : Mem, X11_init m00 = some ((), mx0) ∧ X12_init m00 = some ((), mm0) ∧ Rel 0 109 mx0 mm0) {p : Program} {e : Env} {s : State} {m : MethodId} {below : List Frame} {meth : Method} {c : Code} (l : Launch) {b L : Nat} {xs : Nat → Int32} (hL : L ≤ 3072) (C0 : lw_At p s m meth c b L xs) : W p l e room_1 s m #[Value.ref b] below meth c s.heap [] 0 0 (lw_Z below #[Value.ref b] s) (entryFrame m ([Value.ref b] : List Value).toArray 4) := by
  obtain ⟨mx0, mm0, ex, em, hR⟩ := hI
  obtain ⟨hx, hb, hr, hml, hown, hts, hX, hbl, hlocks, hgv⟩ := id C0
  obtain ⟨G, hK, hST⟩ := g_exists hts hgv
  have htg : ∀ w ∈ gtb, w.before #[Value.ref b] s = true := fun w h => hts w (List.mem_filter.mp h).1
  have hown : s.vm.findClass RL = some m.cls := hown
  have C : CU G p s m meth c b L xs := ⟨hx, hb, hr, hml, hown, htg, hX, hbl, hlocks, hK, hST⟩
  have hl := lv_entry ([.ref b]) (n := 4) (Nat.le_of_ble_eq_true rfl)
  rw [lg_entry_eq]
  generalize (lg_sl ([.ref b]) ++ List.replicate (4 - (lg_sl ([.ref b])).length) Slot.unset).toArray = ls at hl ⊢
  have hl : lv_has ls 4 [(0, .ref b)] := hl
  have hA : ∀ q : Nat, s.heap.size ≤ q → Alw s q := fun _ h => h
  have hS0 : va_S (Alw s) s.heap s.heap [] := va_S.rf
  have hP0 : va_P G.1 vwCl [] s.heap := fun k q h => by simp at h
  have hD0 : va_D (Alw s) [] := ⟨fun i j p q h => by simp at h, fun k q h => by simp at h⟩
  refine va_new (ci := 11) (fs := (List.range 14).map (fv (fun _ => 0) (fun _ _ => none) m00 0 11)) (C := RX11) (T := TX11) (N := 14) hx hb htg okX11.2.1 tyX11 tyX11_ok hown (htg _ nc_RL_7) (htg _ ni_11) (htg _ nz_11) hK hP0 hD0 hS0 hA rfl fs11 (show 0 + 1 ≤ 600000 by decide) (show 0 + 14 ≤ 7302250 by decide) dL_law_0 (fun q0 H1 g1 g2 g3 => ?_)
  have ew : ([] ++ [(q0, Sum.inr (11, (List.range 14).map (fv (fun _ => 0) (fun _ _ => none) m00 0 11)))] : va_W) = wl G SX (fun _ => q0) 1 (fun _ _ => none) m00 := by
    show [(q0, Sum.inr (11, (List.range (nF 11)).map (fv (fun _ => 0) (fun _ _ => none) m00 0 11)))] = [(q0, Sum.inr (11, (List.range (nF 11)).map (fv (fun _ => q0) (fun _ _ => none) m00 0 11)))]
    rw [fv_q q0 11]
  rw [ew] at g1 g2
  refine lv_dup hx hb dL_law_3 rfl ?_
  refine W.ctorL C (ci_X11 l m00 (nk_m00 SX)) ex (by decide) ck_X11_init rfl in_X11_init ml_RL_9 g1 g2 g3 hl.1 ⟨by decide, by decide⟩ (by decide) (by decide +kernel) dL_law_4 (fun adx H2 locs2 hq0 p1 p2 p3 p4 p5 => ?_)
  rw [← wl_rx11] at p1 p2
  refine lv_astore_n (lv' := [(1, .ref q0), (0, .ref b)]) hx hb dL_law_7 rfl hl (by decide) rfl (fun ls hl => ?_)
  refine va_new (ci := 12) (fs := (List.range 33).map (fv (fun _ => 0) (fun _ _ => none) m00 0 12)) (C := RX12) (T := TX12) (N := 33) hx hb htg okX12.2.1 tyX12 tyX12_ok hown (htg _ nc_RL_10) (htg _ ni_12) (htg _ nz_12) hK p1 p2 p5 hA rfl fs12 (by decide) (by decide +kernel) dL_law_8 (fun q1 H3 g4 g5 g6 => ?_)
  have ew2 : ([(q1, Sum.inr (12, (List.range 33).map (fv (fun _ => 0) (fun _ _ => none) m00 0 12)))] : va_W) = wl G SM (fun _ => q1) 1 (fun _ _ => none) m00 := by
    show [(q1, Sum.inr (12, (List.range (nF 12)).map (fv (fun _ => 0) (fun _ _ => none) m00 0 12)))] = [(q1, Sum.inr (12, (List.range (nF 12)).map (fv (fun _ => q1) (fun _ _ => none) m00 0 12)))]
    rw [fv_q q1 12]
  rw [ew2] at g4 g5
  have hlen : (wl G SX adx 109 RX mx0).length = 109 := wl_len G SX adx 109 RX mx0
  have gx : va_P G.1 vwCl (wl G SX adx 109 RX mx0) H3 := fun k q hq => g4 k q (by
    have hk := (wl_of hq).1
    rw [List.getElem?_append_left (by rw [hlen]; exact hk)]
    exact hq)
  have gm : va_P G.1 vwCl (wl G SM (fun _ => q1) 1 (fun _ _ => none) m00) H3 := fun k q hq => g4 (109 + k) q (by
    rw [List.getElem?_append_right (by rw [hlen]; omega), hlen, Nat.add_sub_cancel_left]
    exact hq)
  have dx : va_D (Alw s) (wl G SX adx 109 RX mx0) := p2
  have dm : va_D (Alw s) (wl G SM (fun _ => q1) 1 (fun _ _ => none) m00) := ⟨fun i j p q hi hj _ => by
    have h1 := (wl_of hi).1
    have h2 := (wl_of hj).1
    omega, fun k q hq => g5.2 (109 + k) q (by
    rw [List.getElem?_append_right (by rw [hlen]; omega), hlen, Nat.add_sub_cancel_left]
    exact hq)⟩
  have hne : ∀ i, i < 109 → adx i ≠ q1 := fun i hi h => by
    have h1 := g5.1 i 109 (adx i, entS G adx RX mx0 i (SX i)) (q1, entS G (fun _ => q1) (fun _ _ => none) m00 0 (SM 0)) (by
      rw [List.getElem?_append_left (by rw [hlen]; exact hi)]
      exact wl_get hi rfl) (by
      rw [List.getElem?_append_right (by rw [hlen]; omega), hlen]
      rfl) h
    omega
  refine lv_dup hx hb dL_law_11 rfl ?_
  refine W.ctorL C (ci_X12 l m00 (nk_m00 SM)) em (by decide) ck_X12_init rfl in_X12_init ml_RL_12 gm dm g6 hl.1 ⟨by decide, by decide⟩ (by decide) (by decide +kernel) dL_law_12 (fun adm H4 locs4 hq1 r1 r2 r3 r4 r5 => ?_)
  refine lv_astore_n (lv' := [(2, .ref q1), (1, .ref q0), (0, .ref b)]) hx hb dL_law_15 rfl hl (by decide) rfl (fun ls hl => ?_)
  have hlt : ∀ i, i < 109 → adx i < H3.size := fun i hi => (gx i _ (wl_get hi rfl)).lt
  have gx4 : va_P G.1 vwCl (wl G SX adx 109 RX mx0) H4 := gx.kept (fun k q hq => by
    obtain ⟨h1, rfl⟩ := wl_of hq
    exact r4 _ (hlt k h1) (hne k h1))
  have hU : U G l p e s m b below meth c 109 16 [(2, .retAddr 2), (1, .retAddr 1), (0, .retAddr 0)] [] mx0 mm0 := by
    refine U.iconst (pc := 16) C dL_law_16 (v := 0) (by decide) ?_
    refine U.istore_n (pc := 17) (L2 := [(3, .int (nI (6 * 0))), (2, .retAddr 2), (1, .retAddr 1), (0, .retAddr 0)]) C dL_law_17 (by decide) rfl ?_
    exact law_loop C hL hP (L + 1) 0 109 mx0 mm0 (by omega) (by omega) hR
  refine hU adx adm H4 locs4 ls _ _ ⟨gx4, r1, dx, r2, fun i hi j hj h => ?_⟩ r5 ?_ (by decide) (by decide +kernel)
  · rcases r3 j hj with h2 | h2
    · exact hne i hi (by rw [h, h2])
    · have := hlt i hi
      rw [h] at this
      omega
  · show lv_has ls 4 [(2, .ref (adm 0)), (1, .ref (adx 0)), (0, .ref b)]
    rw [hq0, hq1]
    exact hl
