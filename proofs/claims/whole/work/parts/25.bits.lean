set_option maxRecDepth 100000 in
theorem bitCount_all : (List.range 128).all (fun a => (List.range 128).all (fun b => match J6_bitCount_0f7a4 (nI (128 * a + b)) (fun _ _ => 0, fun _ _ => 0) with | some q => q.1 == nI (pcn (128 * a + b)) | none => false)) = true := by decide +kernel
set_option maxRecDepth 100000 in
theorem ntz_all : (List.range 128).all (fun a => (List.range 128).all (fun b => (128 * a + b == 0) || match J6_numberOfTrailingZeros_0f7a4 (nI (128 * a + b)) (fun _ _ => 0, fun _ _ => 0) with | some q => (List.range 14).any (fun t => q.1 == nI t && (128 * a + b).testBit t && (List.range t).all (fun u => !(128 * a + b).testBit u)) | none => false)) = true := by decide +kernel
theorem bitc {v : Nat} (h : v < 16384) (m : Mem) : J6_bitCount_0f7a4 (nI v) m = some (nI (pcn v), m) := by
  have h1 := List.all_eq_true.mp (List.all_eq_true.mp bitCount_all (v / 128) (List.mem_range.mpr (by omega))) (v % 128) (List.mem_range.mpr (by omega))
  rw [Nat.div_add_mod] at h1
  have h2 : ∀ x : Int32, ∃ y : Int32, ∀ m : Mem, J6_bitCount_0f7a4 x m = some (y, m) := fun x => ⟨_, fun m => rfl⟩
  obtain ⟨y, hy⟩ := h2 (nI v)
  rw [hy] at h1
  have h1 : y = nI (pcn v) := beq_iff_eq.mp h1
  rw [hy, h1]
theorem ntz {v : Nat} (h0 : v ≠ 0) (h : v < 16384) : ∃ t, t < 14 ∧ v.testBit t = true ∧ (∀ u, u < t → v.testBit u = false) ∧ ∀ m : Mem, J6_numberOfTrailingZeros_0f7a4 (nI v) m = some (nI t, m) := by
  have h1 := List.all_eq_true.mp (List.all_eq_true.mp ntz_all (v / 128) (List.mem_range.mpr (by omega))) (v % 128) (List.mem_range.mpr (by omega))
  rw [Nat.div_add_mod] at h1
  have h2 : ∀ x : Int32, ∃ y : Int32, ∀ m : Mem, J6_numberOfTrailingZeros_0f7a4 x m = some (y, m) := fun x => by
    simp only [J6_numberOfTrailingZeros_0f7a4, J6_numberOfTrailingZeros_0f7a4_b34, J6_numberOfTrailingZeros_0f7a4_b49, J6_numberOfTrailingZeros_0f7a4_b62, J6_numberOfTrailingZeros_0f7a4_b74, lt]
    repeat' split
    all_goals exact ⟨_, fun m => rfl⟩
  obtain ⟨y, hy⟩ := h2 (nI v)
  rw [hy] at h1
  rcases Bool.or_eq_true_iff.mp h1 with h3 | h3
  · exact absurd (beq_iff_eq.mp h3) h0
  · obtain ⟨t, ht, h4⟩ := List.any_eq_true.mp h3
    simp only [Bool.and_eq_true, beq_iff_eq] at h4
    refine ⟨t, List.mem_range.mp ht, h4.1.2, fun u hu => ?_, fun m => by rw [hy, h4.1.1]⟩
    have h5 := List.all_eq_true.mp h4.2 u (List.mem_range.mpr hu)
    simpa using h5
