theorem xshl_or (a b : Int32) : xshl (a ||| b) 8 = xshl a 8 ||| xshl b 8 := by
  unfold xshl
  apply Int32.toBitVec_inj.mp
  simp
  first | exact BitVec.shiftLeft_or_distrib _ _ _ | (ext i; simp)
theorem xshl_88 (a : Int32) : xshl (xshl a 8) 8 = xshl a 16 := by
  unfold xshl
  apply Int32.toBitVec_inj.mp
  simp
theorem xshl_168 (a : Int32) : xshl (xshl a 8) 16 = xshl a 24 := by
  unfold xshl
  apply Int32.toBitVec_inj.mp
  simp
def wordM (P : Nat → Int32) (p : Nat) : Int32 := (xshl ((xshl ((xshl ((xshl 0 8) ||| P p) 8) ||| P (p + 1)) 8) ||| P (p + 2)) 8) ||| P (p + 3)
theorem wordM_eq (P : Nat → Int32) (p : Nat) : wordM P p = wordP P p := by
  unfold wordM wordP
  have h0 : xshl 0 8 = 0 := by decide
  have h1 : ∀ a : Int32, (0 : Int32) ||| a = a := fun a => by apply Int32.toBitVec_inj.mp; simp
  rw [h0, h1, xshl_or, xshl_or, xshl_or, xshl_88, xshl_88, xshl_168]
