theorem va_eqS {args : Array Value} {s : State} {t1 t2 : Term} {a : Nat} (h : (Cond.eq t1 t2).before args s = true) (h1 : t1.eval args s none [] s = some (.ref a)) : t2.eval args s none [] s = some (.ref a) := by
  cases hv : t2.eval args s none [] s with
  | none => simp [Cond.before, Cond.holds, Cond.value, h1, hv] at h
  | some w =>
    simp only [Cond.before, Cond.holds, Cond.value, h1, hv] at h
    cases w <;> simp_all
theorem g_exists {s : State} {b : Nat} (hts : ∀ w ∈ lw_tbl, w.before #[Value.ref b] s = true) (hgv : (Jvm.Cond.and given_1 narrow_1).before #[Value.ref b] s = true) : ∃ G : Gt, va_K G.1 vwCl (tyl G) s ∧ STR G (Alw s) s s.heap := by
  have htg : ∀ w ∈ gtb, w.before #[Value.ref b] s = true := fun w h => hts w (List.mem_filter.mp h).1
  have hfl : ∀ c ∈ gvC, c.before #[Value.ref b] s = true := flat_of_before _ hgv
  have hA : ∀ a : Nat, a < s.heap.size → ¬ Alw s a := fun a h => Nat.not_le.mpr h
  have hcl : ∀ k : Nat, ∃ q : ClassId × (Nat → Nat), ∀ r : vw_C, vwCl[k]? = some r → u_Kn s r.1 r.2.1 r.2.2 q.1 q.2 := by
    intro k
    match k with
    | 0 =>
      obtain ⟨cC, iS, h⟩ := u_known (C := RX0) (T := TX0) (N := 2) (n := 2) htg okX0.2.1 (htg _ ni_0)
      exact ⟨(cC, iS), fun r hr => by cases hr; exact h⟩
    | 1 =>
      obtain ⟨cC, iS, h⟩ := u_known (C := RX1) (T := TX1) (N := 7) (n := 7) htg okX1.2.1 (htg _ ni_1)
      exact ⟨(cC, iS), fun r hr => by cases hr; exact h⟩
    | 2 =>
      obtain ⟨cC, iS, h⟩ := u_known (C := RX2) (T := TX2) (N := 3) (n := 3) htg okX2.2.1 (htg _ ni_2)
      exact ⟨(cC, iS), fun r hr => by cases hr; exact h⟩
    | 3 =>
      obtain ⟨cC, iS, h⟩ := u_known (C := RX3) (T := TX3) (N := 2) (n := 2) htg okX3.2.1 (htg _ ni_3)
      exact ⟨(cC, iS), fun r hr => by cases hr; exact h⟩
    | 4 =>
      obtain ⟨cC, iS, h⟩ := u_known (C := RX4) (T := TX4) (N := 2) (n := 2) htg okX4.2.1 (htg _ ni_4)
      exact ⟨(cC, iS), fun r hr => by cases hr; exact h⟩
    | 5 =>
      obtain ⟨cC, iS, h⟩ := u_known (C := RX5) (T := TX5) (N := 6) (n := 6) htg okX5.2.1 (htg _ ni_5)
      exact ⟨(cC, iS), fun r hr => by cases hr; exact h⟩
    | 6 =>
      obtain ⟨cC, iS, h⟩ := u_known (C := RX6) (T := TX6) (N := 6) (n := 6) htg okX6.2.1 (htg _ ni_6)
      exact ⟨(cC, iS), fun r hr => by cases hr; exact h⟩
    | 7 =>
      obtain ⟨cC, iS, h⟩ := u_known (C := RX7) (T := TX7) (N := 10) (n := 10) htg okX7.2.1 (htg _ ni_7)
      exact ⟨(cC, iS), fun r hr => by cases hr; exact h⟩
    | 8 =>
      obtain ⟨cC, iS, h⟩ := u_known (C := RX8) (T := TX8) (N := 9) (n := 9) htg okX8.2.1 (htg _ ni_8)
      exact ⟨(cC, iS), fun r hr => by cases hr; exact h⟩
    | 9 =>
      obtain ⟨cC, iS, h⟩ := u_known (C := RX9) (T := TX9) (N := 4) (n := 4) htg okX9.2.1 (htg _ ni_9)
      exact ⟨(cC, iS), fun r hr => by cases hr; exact h⟩
    | 10 =>
      obtain ⟨cC, iS, h⟩ := u_known (C := RX10) (T := TX10) (N := 4) (n := 4) htg okX10.2.1 (htg _ ni_10)
      exact ⟨(cC, iS), fun r hr => by cases hr; exact h⟩
    | 11 =>
      obtain ⟨cC, iS, h⟩ := u_known (C := RX11) (T := TX11) (N := 14) (n := 14) htg okX11.2.1 (htg _ ni_11)
      exact ⟨(cC, iS), fun r hr => by cases hr; exact h⟩
    | 12 =>
      obtain ⟨cC, iS, h⟩ := u_known (C := RX12) (T := TX12) (N := 33) (n := 33) htg okX12.2.1 (htg _ ni_12)
      exact ⟨(cC, iS), fun r hr => by cases hr; exact h⟩
    | k + 13 => exact ⟨(0, fun _ => 0), fun r hr => by simp [vwCl] at hr⟩
  obtain ⟨fc, hfc⟩ := Classical.axiomOfChoice hcl
  have harr : ∀ (ty : FieldType), (Cond.arrayClass ty).before #[Value.ref b] s = true → (∀ C, ty ≠ .object C) → ∃ c : ClassId, ArrOfT s c ty ∧ s.vm.findClass ("[" ++ ty.toString) = some c := by
    intro ty h _
    obtain ⟨c, k, comp, h1, h2, h3⟩ := Cond.arrayClass_spec (args := #[Value.ref b]) (first := s) (o := none) (idx := []) h
    exact ⟨c, fun N z => ⟨(fun k h => by cases h), k, h2, comp, h3⟩, h1⟩
  have hov : ∀ C : String, C ∈ aoW → ∃ c : ClassId, ArrOfT s c (.object C) ∧ va_RA s c (.object C) := by
    intro C hC
    obtain ⟨comp, c, k, h1, h2, h3, h4, h5⟩ := Cond.arrayOver_spec (args := #[Value.ref b]) (first := s) (o := none) (idx := []) (hts _ (gv_ao C hC))
    exact ⟨c, fun N z => ⟨(fun k h => by cases h), k, h3, comp, h4⟩, k, comp, h3, h4, h1, h5⟩
  obtain ⟨c0, a0, b0⟩ := harr .int (htg _ ac_int) (fun _ h => by cases h)
  obtain ⟨c1, a1, b1⟩ := harr .byte (htg _ ac_byte) (fun _ h => by cases h)
  obtain ⟨c2, a2, b2⟩ := harr .boolean (htg _ ac_boolean) (fun _ h => by cases h)
  obtain ⟨c3, a3, b3⟩ := harr .long (htg _ ac_long) (fun _ h => by cases h)
  obtain ⟨c4, a4, b4⟩ := hov "LoatheMatch$Life" (by decide)
  obtain ⟨c5, a5, b5⟩ := hov "LoatheMatch$Tray" (by decide)
  obtain ⟨c6, a6, b6⟩ := hov "LoatheMatch$Image" (by decide)
  obtain ⟨adK, adV, hSt, hev⟩ := vk_Sof (args := #[Value.ref b]) (s := s) (N := 22) (tm := tmS) (len := strL) (byt := strB) (A := Alw s) (by decide) (fun i hi => hfl _ (gv_ex i hi)) (fun i hi => hfl _ (gv_co i hi)) (fun i hi => hfl _ (gv_ar i hi)) (fun i hi => hfl _ (gv_le i hi)) (fun i hi j hj => hfl _ (gv_el i hi j hj)) (fun i j hi hj hne => (gv_ne i hi j hj hne).elim (fun h => Or.inl (hfl _ h)) (fun h => Or.inr (hfl _ h))) hA
  obtain ⟨tF, hF⟩ : ∃ tF : Nat, va_Z "jdk/internal/util/Preconditions" "SIOOBE_FORMATTER" "Ljava/util/function/BiFunction;" .null (Alw s) s s.heap ∨ va_Z "jdk/internal/util/Preconditions" "SIOOBE_FORMATTER" "Ljava/util/function/BiFunction;" (.ref tF) (Alw s) s s.heap := by
    rcases va_Zqof (hts _ gv_f1) (hts _ gv_f2) (hfl _ gv_sf) hA with h | ⟨t, h⟩
    · exact ⟨0, Or.inl h⟩
    · exact ⟨t, Or.inr h⟩
  have hadk : ∀ i, i < 22 → (fun k : Nat => if k = 999 then tF else adK k) i = adK i := fun i hi => if_neg (by omega)
  refine ⟨((fun k => (fc k).1, fun k => (fc k).2), fun k => match k with | 0 => c0 | 1 => c1 | 2 => c2 | 3 => c3 | 4 => c4 | 5 => c5 | _ => c6, fun k => if k = 999 then tF else adK k, adV), ⟨fun k q hq => hfc k q hq, fun k q hq => ?_⟩, ⟨fun i hi => ?_, fun i j hi hj he => ?_⟩, fun q hq => ?_, va_Zof (hts _ gv_c1) (hts _ gv_c2) (va_eqi (hfl _ gv_cs)) hA, hF, fun q hq => va_Nw.of rfl (hts _ (gv_nest q hq)), fun C hC => va_AO.of (hts _ (gv_ao C hC))⟩
  · match k, hq with
    | 0, hq => cases hq; exact ⟨a0, b0⟩
    | 1, hq => cases hq; exact ⟨a1, b1⟩
    | 2, hq => cases hq; exact ⟨a2, b2⟩
    | 3, hq => cases hq; exact ⟨a3, b3⟩
    | 4, hq => cases hq; exact ⟨a4, b4⟩
    | 5, hq => cases hq; exact ⟨a5, b5⟩
    | 6, hq => cases hq; exact ⟨a6, b6⟩
    | k + 7, hq => simp [tyl] at hq
  · have h := hSt.1 i hi
    simp only [hadk i hi]
    exact h
  · simp only [hadk i hi, hadk j hj] at he
    exact hSt.2 i j hi hj he
  · have hs := hts _ (gv_st q hq)
    have hv : ∀ i, i < 22 → ∀ own k, strO.getD i ("", 0) = (own, k) → (Term.string own k).eval #[Value.ref b] s none [] s = some (.ref (adK i)) := fun i hi own k e => by
      have h := hev i hi
      rw [tmS, e] at h
      exact h
    have hz : (Term.string q.1 q.2.1).eval #[Value.ref b] s none [] s = some (.ref (adK q.2.2)) ∧ q.2.2 < 22 := by
      simp only [strR, List.mem_cons, List.not_mem_nil, or_false] at hq
      rcases hq with rfl | rfl | rfl | rfl | rfl | rfl | rfl | rfl | rfl | rfl | rfl | rfl | rfl | rfl | rfl | rfl | rfl | rfl | rfl | rfl | rfl | rfl | rfl
      · exact ⟨hv 0 (by decide) _ _ rfl, by decide⟩
      · exact ⟨hv 1 (by decide) _ _ rfl, by decide⟩
      · exact ⟨hv 2 (by decide) _ _ rfl, by decide⟩
      · exact ⟨hv 3 (by decide) _ _ rfl, by decide⟩
      · exact ⟨hv 4 (by decide) _ _ rfl, by decide⟩
      · exact ⟨hv 5 (by decide) _ _ rfl, by decide⟩
      · exact ⟨hv 6 (by decide) _ _ rfl, by decide⟩
      · exact ⟨hv 7 (by decide) _ _ rfl, by decide⟩
      · exact ⟨hv 8 (by decide) _ _ rfl, by decide⟩
      · exact ⟨hv 9 (by decide) _ _ rfl, by decide⟩
      · exact ⟨hv 10 (by decide) _ _ rfl, by decide⟩
      · exact ⟨hv 11 (by decide) _ _ rfl, by decide⟩
      · exact ⟨hv 12 (by decide) _ _ rfl, by decide⟩
      · exact ⟨hv 13 (by decide) _ _ rfl, by decide⟩
      · exact ⟨hv 14 (by decide) _ _ rfl, by decide⟩
      · exact ⟨hv 15 (by decide) _ _ rfl, by decide⟩
      · exact ⟨hv 16 (by decide) _ _ rfl, by decide⟩
      · exact ⟨hv 17 (by decide) _ _ rfl, by decide⟩
      · exact ⟨hv 18 (by decide) _ _ rfl, by decide⟩
      · exact ⟨hv 19 (by decide) _ _ rfl, by decide⟩
      · exact ⟨hv 20 (by decide) _ _ rfl, by decide⟩
      · exact ⟨hv 21 (by decide) _ _ rfl, by decide⟩
      · exact ⟨va_eqS (hfl _ gv_one) (hv 0 (by decide) _ _ rfl), by decide⟩

    refine vk_R.of hs ?_
    show _ = some (Value.ref ((fun k : Nat => if k = 999 then tF else adK k) q.2.2))
    rw [hadk _ hz.2]
    exact hz.1
