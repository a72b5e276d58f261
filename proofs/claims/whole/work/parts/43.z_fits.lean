theorem b8_in : ∀ y : Int8, (-128 : Int32) ≤ y.toInt32 ∧ y.toInt32 ≤ 127 := fun y => by
  rw [Int32.le_iff_toInt_le, Int32.le_iff_toInt_le, Int8.toInt_toInt32]
  have h1 := Int8.le_toInt y
  have h2 := Int8.toInt_lt y
  exact ⟨h1, by show _ ≤ (127 : Int); omega⟩
theorem fits_nb (x : Int32) : fits .byte (.int (nb x)) = true := by
  unfold nb
  rw [vp_nar_byte]
  have h := b8_in x.toInt8.toInt32.toInt8
  show (decide _ && decide _) = true
  rw [decide_eq_true h.1, decide_eq_true h.2]
  rfl
