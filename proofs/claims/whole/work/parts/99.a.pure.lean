/-! for ever so many calls -/
def Rel2 (k N : Nat) (mx mm : Mem) : Prop := ∃ j, j ≤ k ∧ Rel j N mx mm
theorem rel_N {k N : Nat} {mx mm : Mem} (h : Rel k N mx mm) : 109 ≤ N ∧ N ≤ 137 := by
  obtain ⟨s, e, ib, _, hc, _⟩ := h
  have hb := hc.2.2.2.2.2.1.2.2
  omega
theorem St_feed_2 : St_feed Rel2 := by
  intro k N mx mm hk ⟨j, hj, hR⟩ a1 a2 a3 a4 a5
  obtain ⟨r, mx1, mm1, h1, h2, h3⟩ := St_feed_ok j N mx mm (by omega) hR a1 a2 a3 a4 a5
  exact ⟨r, mx1, mm1, h1, h2, j + 1, by omega, h3⟩
theorem St_bureau_2 : St_bureau Rel2 := by
  intro k N mx mm hk ⟨j, hj, hR⟩ a1
  obtain ⟨r, mx1, mm1, h1, h2, h3⟩ := St_bureau_ok j N mx mm (by omega) hR a1
  exact ⟨r, mx1, mm1, h1, h2, j + 1, by omega, h3⟩
theorem St_fault_2 : St_fault Rel2 := by
  intro k N mx mm hk ⟨j, hj, hR⟩ a1
  obtain ⟨r, mx1, mm1, h1, h2, h3⟩ := St_fault_ok j N mx mm (by omega) hR a1
  exact ⟨r, mx1, mm1, h1, h2, j + 1, by omega, h3⟩
theorem St_person_2 : St_person Rel2 := by
  intro k N mx mm hk ⟨j, hj, hR⟩ a1 a2
  obtain ⟨r, mx1, mm1, h1, h2, h3⟩ := St_person_ok j N mx mm (by omega) hR a1 a2
  exact ⟨r, mx1, mm1, h1, h2, j + 1, by omega, h3⟩
theorem St_since_2 : St_since Rel2 := by
  intro k N mx mm hk ⟨j, hj, hR⟩ a1 a2
  obtain ⟨r, mx1, mm1, h1, h2, h3⟩ := St_since_ok j N mx mm (by omega) hR a1 a2
  exact ⟨r, mx1, mm1, h1, h2, j + 1, by omega, h3⟩
theorem St_thing_2 : St_thing Rel2 := by
  intro k N mx mm hk ⟨j, hj, hR⟩ a1 a2
  obtain ⟨r, mx1, mm1, h1, h2, h3⟩ := St_thing_ok j N mx mm (by omega) hR a1 a2
  exact ⟨r, mx1, mm1, h1, h2, j + 1, by omega, h3⟩
theorem St_pair_2 : St_pair Rel2 := by
  intro k N mx mm hk ⟨j, hj, hR⟩ a1 a2 a3
  obtain ⟨r, mx1, mm1, h1, h2, h3⟩ := St_pair_ok j N mx mm (by omega) hR a1 a2 a3
  exact ⟨r, mx1, mm1, h1, h2, j + 1, by omega, h3⟩
theorem St_good_2 : St_good Rel2 := by
  intro k N mx mm hk ⟨j, hj, hR⟩ a1 a2
  obtain ⟨r, mx1, mm1, h1, h2, h3⟩ := St_good_ok j N mx mm (by omega) hR a1 a2
  exact ⟨r, mx1, mm1, h1, h2, j + 1, by omega, h3⟩
theorem St_may_2 : St_may Rel2 := by
  intro k N mx mm hk ⟨j, hj, hR⟩ a1 a2
  obtain ⟨r, mx1, mm1, h1, h2, h3⟩ := St_may_ok j N mx mm (by omega) hR a1 a2
  exact ⟨r, mx1, mm1, h1, h2, j + 1, by omega, h3⟩
theorem St_wed_2 : St_wed Rel2 := by
  intro k N mx mm hk ⟨j, hj, hR⟩ a1 a2
  obtain ⟨r, mx1, mm1, h1, h2, h3⟩ := St_wed_ok j N mx mm (by omega) hR a1 a2
  exact ⟨r, mx1, mm1, h1, h2, j + 1, by omega, h3⟩
theorem St_part_2 : St_part Rel2 := by
  intro k N mx mm hk ⟨j, hj, hR⟩ a1
  obtain ⟨r, mx1, mm1, h1, h2, h3⟩ := St_part_ok j N mx mm (by omega) hR a1
  exact ⟨r, mx1, mm1, h1, h2, j + 1, by omega, h3⟩
theorem St_takes_2 : St_takes Rel2 := by
  intro k N mx mm hk ⟨j, hj, hR⟩ a1 a2
  obtain ⟨r, mx1, mm1, h1, h2, h3⟩ := St_takes_ok j N mx mm (by omega) hR a1 a2
  exact ⟨r, mx1, mm1, h1, h2, j + 1, by omega, h3⟩
theorem St_copies_2 : St_copies Rel2 := by
  intro k N mx mm hk ⟨j, hj, hR⟩ a1 a2
  obtain ⟨r, mx1, mm1, h1, h2, h3⟩ := St_copies_ok j N mx mm (by omega) hR a1 a2
  exact ⟨r, mx1, mm1, h1, h2, j + 1, by omega, h3⟩
theorem St_years_2 : St_years Rel2 := by
  intro k N mx mm hk ⟨j, hj, hR⟩ a1
  obtain ⟨r, mx1, mm1, h1, h2, h3⟩ := St_years_ok j N mx mm (by omega) hR a1
  exact ⟨r, mx1, mm1, h1, h2, j + 1, by omega, h3⟩
theorem St_undo_2 : St_undo Rel2 := by
  intro k N mx mm hk ⟨j, hj, hR⟩ a1
  obtain ⟨r, mx1, mm1, h1, h2, h3⟩ := St_undo_ok j N mx mm (by omega) hR a1
  exact ⟨r, mx1, mm1, h1, h2, j + 1, by omega, h3⟩
theorem St_judge_2 : St_judge Rel2 := by
  intro k N mx mm hk ⟨j, hj, hR⟩ a1 a2
  obtain ⟨r, mx1, mm1, h1, h2, h3⟩ := St_judge_ok j N mx mm (by omega) hR a1 a2
  exact ⟨r, mx1, mm1, h1, h2, j + 1, by omega, h3⟩
theorem St_perform_2 : St_perform Rel2 := by
  intro k N mx mm hk ⟨j, hj, hR⟩ a1
  obtain ⟨r, mx1, mm1, h1, h2, h3⟩ := St_perform_ok j N mx mm (by omega) hR a1
  exact ⟨r, mx1, mm1, h1, h2, j + 1, by omega, h3⟩
theorem St_season_2 : St_season Rel2 := by
  intro k N mx mm hk ⟨j, hj, hR⟩ a1 a2
  obtain ⟨r, mx1, mm1, h1, h2, h3⟩ := St_season_ok j N mx mm (by omega) hR a1 a2
  exact ⟨r, mx1, mm1, h1, h2, j + 1, by omega, h3⟩
theorem St_matchings_2 : St_matchings Rel2 := by
  intro k N mx mm hk ⟨j, hj, hR⟩ a1
  obtain ⟨r, mx1, mm1, h1, h2, h3⟩ := St_matchings_ok j N mx mm (by omega) hR a1
  exact ⟨r, mx1, mm1, h1, h2, j + 1, by omega, h3⟩
theorem St_most_2 : St_most Rel2 := by
  intro k N mx mm hk ⟨j, hj, hR⟩ a1
  obtain ⟨r, mx1, mm1, h1, h2, h3⟩ := St_most_ok j N mx mm (by omega) hR a1
  exact ⟨r, mx1, mm1, h1, h2, j + 1, by omega, h3⟩
theorem St_stable_2 : St_stable Rel2 := by
  intro k N mx mm hk ⟨j, hj, hR⟩ a1
  obtain ⟨r, mx1, mm1, h1, h2, h3⟩ := St_stable_ok j N mx mm (by omega) hR a1
  exact ⟨r, mx1, mm1, h1, h2, j + 1, by omega, h3⟩
theorem St_breaks_2 : St_breaks Rel2 := by
  intro k N mx mm hk ⟨j, hj, hR⟩ 
  obtain ⟨r, mx1, mm1, h1, h2, h3⟩ := St_breaks_ok j N mx mm (by omega) hR 
  exact ⟨r, mx1, mm1, h1, h2, j + 1, by omega, h3⟩
theorem St_matchAll_2 : St_matchAll Rel2 := by
  intro k N mx mm hk ⟨j, hj, hR⟩ 
  obtain ⟨r, mx1, mm1, h1, h2, h3⟩ := St_matchAll_ok j N mx mm (by omega) hR 
  exact ⟨r, mx1, mm1, h1, h2, j + 1, by omega, h3⟩
theorem St_dearest_2 : St_dearest Rel2 := by
  intro k N mx mm hk ⟨j, hj, hR⟩ a1
  obtain ⟨r, mx1, mm1, h1, h2, h3⟩ := St_dearest_ok j N mx mm (by omega) hR a1
  exact ⟨r, mx1, mm1, h1, h2, j + 1, by omega, h3⟩
theorem St_holds_2 : St_holds Rel2 := by
  intro k N mx mm hk ⟨j, hj, hR⟩ a1 a2
  obtain ⟨r, mx1, mm1, h1, h2, h3⟩ := St_holds_ok j N mx mm (by omega) hR a1 a2
  exact ⟨r, mx1, mm1, h1, h2, j + 1, by omega, h3⟩
theorem St_goodIn_2 : St_goodIn Rel2 := by
  intro k N mx mm hk ⟨j, hj, hR⟩ a1 a2 a3
  obtain ⟨r, mx1, mm1, h1, h2, h3⟩ := St_goodIn_ok j N mx mm (by omega) hR a1 a2 a3
  exact ⟨r, mx1, mm1, h1, h2, j + 1, by omega, h3⟩
theorem St_lasting_2 : St_lasting Rel2 := by
  intro k N mx mm hk ⟨j, hj, hR⟩ a1 a2
  obtain ⟨r, mx1, mm1, h1, h2, h3⟩ := St_lasting_ok j N mx mm (by omega) hR a1 a2
  exact ⟨r, mx1, mm1, h1, h2, j + 1, by omega, h3⟩
theorem St_later_2 : St_later Rel2 := by
  intro k N mx mm hk ⟨j, hj, hR⟩ a1 a2
  obtain ⟨r, mx1, mm1, h1, h2, h3⟩ := St_later_ok j N mx mm (by omega) hR a1 a2
  exact ⟨r, mx1, mm1, h1, h2, j + 1, by omega, h3⟩
theorem St_byWhen_2 : St_byWhen Rel2 := by
  intro k N mx mm hk ⟨j, hj, hR⟩ a1 a2
  obtain ⟨r, mx1, mm1, h1, h2, h3⟩ := St_byWhen_ok j N mx mm (by omega) hR a1 a2
  exact ⟨r, mx1, mm1, h1, h2, j + 1, by omega, h3⟩
theorem St_leftFor_2 : St_leftFor Rel2 := by
  intro k N mx mm hk ⟨j, hj, hR⟩ a1 a2 a3
  obtain ⟨r, mx1, mm1, h1, h2, h3⟩ := St_leftFor_ok j N mx mm (by omega) hR a1 a2 a3
  exact ⟨r, mx1, mm1, h1, h2, j + 1, by omega, h3⟩
theorem St_fib_2 : St_fib Rel2 := by
  intro k N mx mm hk ⟨j, hj, hR⟩ a1 a2 a3
  obtain ⟨r, mx1, mm1, h1, h2, h3⟩ := St_fib_ok j N mx mm (by omega) hR a1 a2 a3
  exact ⟨r, mx1, mm1, h1, h2, j + 1, by omega, h3⟩
theorem St_strikes_2 : St_strikes Rel2 := by
  intro k N mx mm hk ⟨j, hj, hR⟩ a1 a2 a3
  obtain ⟨r, mx1, mm1, h1, h2, h3⟩ := St_strikes_ok j N mx mm (by omega) hR a1 a2 a3
  exact ⟨r, mx1, mm1, h1, h2, j + 1, by omega, h3⟩
theorem St_sharer_2 : St_sharer Rel2 := by
  intro k N mx mm hk ⟨j, hj, hR⟩ a1
  obtain ⟨r, mx1, mm1, h1, h2, h3⟩ := St_sharer_ok j N mx mm (by omega) hR a1
  exact ⟨r, mx1, mm1, h1, h2, j + 1, by omega, h3⟩
theorem St_pieced_2 : St_pieced Rel2 := by
  intro k N mx mm hk ⟨j, hj, hR⟩ a1 a2
  obtain ⟨r, mx1, mm1, h1, h2, h3⟩ := St_pieced_ok j N mx mm (by omega) hR a1 a2
  exact ⟨r, mx1, mm1, h1, h2, j + 1, by omega, h3⟩
theorem St_child_2 : St_child Rel2 := by
  intro k N mx mm hk ⟨j, hj, hR⟩ a1 a2
  obtain ⟨r, mx1, mm1, h1, h2, h3⟩ := St_child_ok j N mx mm (by omega) hR a1 a2
  exact ⟨r, mx1, mm1, h1, h2, j + 1, by omega, h3⟩
theorem St_houses_2 : St_houses Rel2 := by
  intro k N mx mm hk ⟨j, hj, hR⟩ a1 a2
  obtain ⟨r, mx1, mm1, h1, h2, h3⟩ := St_houses_ok j N mx mm (by omega) hR a1 a2
  exact ⟨r, mx1, mm1, h1, h2, j + 1, by omega, h3⟩
theorem St_biggest_2 : St_biggest Rel2 := by
  intro k N mx mm hk ⟨j, hj, hR⟩ a1 a2
  obtain ⟨r, mx1, mm1, h1, h2, h3⟩ := St_biggest_ok j N mx mm (by omega) hR a1 a2
  exact ⟨r, mx1, mm1, h1, h2, j + 1, by omega, h3⟩
theorem St_peace_2 : St_peace Rel2 := by
  intro k N mx mm hk ⟨j, hj, hR⟩ 
  obtain ⟨r, mx1, mm1, h1, h2, h3⟩ := St_peace_ok j N mx mm (by omega) hR 
  exact ⟨r, mx1, mm1, h1, h2, j + 1, by omega, h3⟩
theorem St_angry_2 : St_angry Rel2 := by
  intro k N mx mm hk ⟨j, hj, hR⟩ 
  obtain ⟨r, mx1, mm1, h1, h2, h3⟩ := St_angry_ok j N mx mm (by omega) hR 
  exact ⟨r, mx1, mm1, h1, h2, j + 1, by omega, h3⟩
theorem St_numbers_2 : St_numbers Rel2 := by
  intro k N mx mm hk ⟨j, hj, hR⟩ a1 a2 a3
  obtain ⟨r, mx1, mm1, h1, h2, h3⟩ := St_numbers_ok j N mx mm (by omega) hR a1 a2 a3
  exact ⟨r, mx1, mm1, h1, h2, j + 1, by omega, h3⟩
theorem St_write_2 : St_write Rel2 := by
  intro k N mx mm hk ⟨j, hj, hR⟩ a1 a2 a3
  obtain ⟨r, mx1, mm1, h1, h2, h3⟩ := St_write_ok j N mx mm (by omega) hR a1 a2 a3
  exact ⟨r, mx1, mm1, h1, h2, j + 1, by omega, h3⟩
theorem St_lists_2 : St_lists Rel2 := by
  intro k N mx mm hk ⟨j, hj, hR⟩ a1
  obtain ⟨r, mx1, mm1, h1, h2, h3⟩ := St_lists_ok j N mx mm (by omega) hR a1
  exact ⟨r, mx1, mm1, h1, h2, j + 1, by omega, h3⟩
theorem St_image_2 : St_image Rel2 := by
  intro k N mx mm hk ⟨j, hj, hR⟩ a1
  rcases St_image_ok j N mx mm (by omega) hR a1 with ⟨r, mx1, mm1, h1, h2, h3⟩ | ⟨hN, hK, r, mx1, mm1, h1, h2, h3⟩
  · exact Or.inl ⟨r, mx1, mm1, h1, h2, j + 1, by omega, h3⟩
  · exact Or.inr ⟨hN, hK, r, mx1, mm1, h1, h2, j + 1, by omega, h3⟩
theorem St_restore_2 : St_restore Rel2 := by
  intro k N mx mm hk ⟨j, hj, hR⟩ a1
  obtain ⟨r, mx1, mm1, h1, h2, h3⟩ := St_restore_ok j N mx mm (by omega) hR a1
  exact ⟨r, mx1, mm1, h1, h2, j + 1, by omega, h3⟩
theorem St_count_2 : St_count Rel2 := by
  intro k N mx mm hk ⟨j, hj, hR⟩ a1
  obtain ⟨r, mx1, mm1, h1, h2, h3⟩ := St_count_ok j N mx mm (by omega) hR a1
  exact ⟨r, mx1, mm1, h1, h2, j + 1, by omega, h3⟩
theorem pure_ok : PureOK Rel2 := ⟨fun k N mx mm ⟨_, _, h⟩ => rel_N h, fun k N mx mm ⟨j, hj, h⟩ => ⟨j, by omega, h⟩, St_feed_2, St_bureau_2, St_fault_2, St_person_2, St_since_2, St_thing_2, St_pair_2, St_good_2, St_may_2, St_wed_2, St_part_2, St_takes_2, St_copies_2, St_years_2, St_undo_2, St_judge_2, St_perform_2, St_season_2, St_matchings_2, St_most_2, St_stable_2, St_breaks_2, St_matchAll_2, St_dearest_2, St_holds_2, St_goodIn_2, St_lasting_2, St_later_2, St_byWhen_2, St_leftFor_2, St_fib_2, St_strikes_2, St_sharer_2, St_pieced_2, St_child_2, St_houses_2, St_biggest_2, St_peace_2, St_angry_2, St_numbers_2, St_write_2, St_lists_2, St_image_2, St_restore_2, St_count_2⟩
theorem start2 : ∃ mx0 mm0 : Mem, X11_init m00 = some ((), mx0) ∧ X12_init m00 = some ((), mm0) ∧ Rel2 0 109 mx0 mm0 := by
  obtain ⟨mx0, mm0, h1, h2, h3⟩ := start_ok
  exact ⟨mx0, mm0, h1, h2, 0, Nat.le_refl 0, h3⟩
