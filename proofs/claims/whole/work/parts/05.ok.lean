def clOK (ci : Nat) (q : vw_C) : Prop := vwCl[ci]? = some q ∧ (∀ w ∈ u_ws q.1 q.2.1 q.2.2, w ∈ gtb) ∧ (∃ ty : Nat → FieldType, ∀ k, k < q.2.2 → parseFieldDescriptor (q.2.1 k).2.2.1 = some (ty k)) ∧ ∀ a, a < q.2.2 → ∀ b, b < q.2.2 → a ≠ b → (q.2.1 a).2.1 ≠ (q.2.1 b).2.1
theorem okX0 : clOK 0 (RX0, TX0, 2) := ⟨rfl, by decide +kernel, ⟨tyX0, tyX0_ok⟩, nmX0⟩
theorem okX1 : clOK 1 (RX1, TX1, 7) := ⟨rfl, by decide +kernel, ⟨tyX1, tyX1_ok⟩, nmX1⟩
theorem okX2 : clOK 2 (RX2, TX2, 3) := ⟨rfl, by decide +kernel, ⟨tyX2, tyX2_ok⟩, nmX2⟩
theorem okX3 : clOK 3 (RX3, TX3, 2) := ⟨rfl, by decide +kernel, ⟨tyX3, tyX3_ok⟩, nmX3⟩
theorem okX4 : clOK 4 (RX4, TX4, 2) := ⟨rfl, by decide +kernel, ⟨tyX4, tyX4_ok⟩, nmX4⟩
theorem okX5 : clOK 5 (RX5, TX5, 6) := ⟨rfl, by decide +kernel, ⟨tyX5, tyX5_ok⟩, nmX5⟩
theorem okX6 : clOK 6 (RX6, TX6, 6) := ⟨rfl, by decide +kernel, ⟨tyX6, tyX6_ok⟩, nmX6⟩
theorem okX7 : clOK 7 (RX7, TX7, 10) := ⟨rfl, by decide +kernel, ⟨tyX7, tyX7_ok⟩, nmX7⟩
theorem okX8 : clOK 8 (RX8, TX8, 9) := ⟨rfl, by decide +kernel, ⟨tyX8, tyX8_ok⟩, nmX8⟩
theorem okX9 : clOK 9 (RX9, TX9, 4) := ⟨rfl, by decide +kernel, ⟨tyX9, tyX9_ok⟩, nmX9⟩
theorem okX10 : clOK 10 (RX10, TX10, 4) := ⟨rfl, by decide +kernel, ⟨tyX10, tyX10_ok⟩, nmX10⟩
theorem okX11 : clOK 11 (RX11, TX11, 14) := ⟨rfl, by decide +kernel, ⟨tyX11, tyX11_ok⟩, nmX11⟩
theorem okX12 : clOK 12 (RX12, TX12, 33) := ⟨rfl, by decide +kernel, ⟨tyX12, tyX12_ok⟩, nmX12⟩
