-- P3: numbers of 64 bits: bytes, halves, sums
section Bytes
theorem l2i_N (x : Int64) : x.toInt32.toBitVec.toNat = x.toBitVec.toNat % 2 ^ 32 := by
  rw [Int64.toBitVec_toInt32, BitVec.signExtend_eq_setWidth_of_le _ (by decide), BitVec.toNat_setWidth]
/-- byte k of a number of 64 bits, from the low end -/
def bN (v : Int64) (k : Nat) : Nat := v.toUInt64.toNat / 2 ^ (8 * k) % 256
theorem bN_lt (v : Int64) (k : Nat) : bN v k < 256 := Nat.mod_lt _ (by decide)
theorem and255 (x : Int32) : x &&& 255 = nI (x.toUInt32.toNat % 256) := by
  rw [← Int32.toBitVec_inj]
  apply BitVec.eq_of_toNat_eq
  rw [Int32.toBitVec_and, BitVec.toNat_and]
  show x.toBitVec.toNat &&& 255 = (BitVec.ofNat 32 (x.toBitVec.toNat % 256)).toNat
  rw [BitVec.toNat_ofNat, Nat.mod_eq_of_lt (a := x.toBitVec.toNat % 256) (by omega)]
  exact Nat.and_two_pow_sub_one_eq_mod _ 8
theorem nI_255 {a : Nat} (h : a < 256) : nI a &&& 255 = nI a := by
  rw [and255]
  show nI ((BitVec.ofNat 32 a).toNat % 256) = _
  rw [BitVec.toNat_ofNat, Nat.mod_eq_of_lt (a := a) (by omega), Nat.mod_eq_of_lt h]
theorem ush_amt : ∀ k, k < 8 → ((((8 : Int32) * nI k).toInt64.toUInt64 &&& Int64.toUInt64 63).toNat % 64) = 8 * k := by decide
theorem ush_N (v : Int64) (k : Nat) (hk : k < 8) : (yushr v ((8 : Int32) * nI k)).toInt32 &&& 255 = nI (bN v k) := by
  rw [and255]
  have h : (yushr v ((8 : Int32) * nI k)).toInt32.toUInt32.toNat = v.toUInt64.toNat / 2 ^ (8 * k) % 2 ^ 32 := by
    have e : (v.toUInt64 >>> (((8 : Int32) * nI k).toInt64.toUInt64 &&& Int64.toUInt64 63)).toNat = v.toUInt64.toNat / 2 ^ (8 * k) := by
      rw [UInt64.toNat_shiftRight, ush_amt k hk, Nat.shiftRight_eq_div_pow]
    exact (l2i_N _).trans (congrArg (· % 2 ^ 32) e)
  rw [h]
  unfold bN
  rw [Nat.mod_mod_of_dvd _ (by decide)]
theorem ssh_amt : ∀ k, k < 8 → ((nI (8 * k)).toInt64 &&& 63).toBitVec.smod 64 = BitVec.ofNat 64 (8 * k) := by decide
theorem ssh_N (v : Int64) (k : Nat) (hk : k < 8) : ((yshr v (nI (8 * k))) &&& 255).toInt32 = nI (bN v k) := by
  have e : ((yshr v (nI (8 * k))) &&& 255).toBitVec.toNat = bN v k := by
    unfold yshr bN
    rw [Int64.toBitVec_and, Int64.toBitVec_shiftRight, ssh_amt k hk, BitVec.sshiftRight_eq', BitVec.toNat_and]
    show _ &&& 255 = v.toBitVec.toNat / 2 ^ (8 * k) % 256
    rw [show (255 : Nat) = 2 ^ 8 - 1 from rfl, Nat.and_two_pow_sub_one_eq_mod, ← Nat.shiftRight_eq_div_pow, show (256 : Nat) = 2 ^ 8 from rfl]
    apply Nat.eq_of_testBit_eq
    intro i
    rw [Nat.testBit_mod_two_pow, Nat.testBit_mod_two_pow, Nat.testBit_shiftRight]
    by_cases q : i < 8
    · have h64 : (BitVec.ofNat 64 (8 * k)).toNat = 8 * k := by rw [BitVec.toNat_ofNat]; omega
      have := BitVec.getLsbD_sshiftRight (x := v.toBitVec) (s := (BitVec.ofNat 64 (8 * k)).toNat) (i := i)
      rw [BitVec.getLsbD] at this
      rw [this, h64, if_pos (by omega)]
      simp [q, show ¬ 64 ≤ i by omega]
      rfl
    · simp [q]
  have := bN_lt v k
  rw [← Int32.toBitVec_inj]
  apply BitVec.eq_of_toNat_eq
  rw [l2i_N, e]
  rfl
theorem shl8 (n c : Nat) (hc : c < 256) : (yshl (Int64.ofNat n) 8) ||| (nI c).toInt64 = Int64.ofNat (n * 256 + c) := by
  rw [← Int64.toBitVec_inj]
  apply BitVec.eq_of_toNat_eq
  show ((Int64.ofNat n <<< (8 : Int64)) ||| (nI c).toInt64).toBitVec.toNat = (BitVec.ofNat 64 (n * 256 + c)).toNat
  have ec : (nI c).toInt64.toBitVec.toNat = c := by
    have : ∀ c, c < 256 → (nI c).toInt64.toBitVec.toNat = c := by decide +kernel
    exact this c hc
  have en : (Int64.ofNat n).toBitVec.toNat = n % 2 ^ 64 := rfl
  rw [Int64.toBitVec_or, BitVec.toNat_or, Int64.toBitVec_shiftLeft, show ((8 : Int64).toBitVec.smod 64) = 8#64 from by decide, BitVec.shiftLeft_eq', BitVec.toNat_shiftLeft, ec, en]
  have h1 : (n % 2 ^ 64) <<< (8#64).toNat % 2 ^ 64 = (n * 256) % 2 ^ 64 := by
    show (n % 2 ^ 64) <<< 8 % 2 ^ 64 = _
    rw [Nat.shiftLeft_eq, Nat.mod_mul_mod]
  have h2 : (n * 256) % 2 ^ 64 = ((n % 2 ^ 56)) <<< 8 := by rw [Nat.shiftLeft_eq]; omega
  rw [h1, h2, ← Nat.shiftLeft_add_eq_or_of_lt (by omega : c < 2 ^ 8), Nat.shiftLeft_eq, BitVec.toNat_ofNat]
  omega
/-- the number that w bytes from at on spell -/
def nmN (y : Nat → Nat) : Nat → Nat → Nat
  | _, 0 => 0
  | at_, w + 1 => nmN y at_ w * 256 + y (at_ + w)
theorem nm_bN (y : Nat → Nat) (v : Int64) (at_ : Nat) : ∀ w, w ≤ 8 → (∀ k, k < 8 → y (at_ + k) = bN v (7 - k)) → nmN y at_ w = v.toUInt64.toNat / 2 ^ (8 * (8 - w))
  | 0, _, _ => by
    have : v.toUInt64.toNat < 2 ^ 64 := v.toUInt64.toNat_lt
    show 0 = _
    rw [Nat.div_eq_of_lt this]
  | w + 1, hw, h => by
    show nmN y at_ w * 256 + y (at_ + w) = _
    rw [nm_bN y v at_ w (by omega) h, h w (by omega)]
    unfold bN
    rw [show 8 * (8 - w) = 8 * (7 - w) + 8 by omega, Nat.pow_add, ← Nat.div_div_eq_div_mul, show 8 - (w + 1) = 7 - w by omega]
    have : (2 : Nat) ^ 8 = 256 := rfl
    omega
theorem nm_8 {y : Nat → Nat} {v : Int64} {at_ : Nat} (h : ∀ k, k < 8 → y (at_ + k) = bN v (7 - k)) : Int64.ofNat (nmN y at_ 8) = v := by
  rw [nm_bN y v at_ 8 (Nat.le_refl _) h]
  rw [← Int64.toBitVec_inj]
  apply BitVec.eq_of_toNat_eq
  show (BitVec.ofNat 64 (v.toUInt64.toNat / 1)).toNat = v.toBitVec.toNat
  rw [Nat.div_one, BitVec.toNat_ofNat]
  exact Nat.mod_eq_of_lt v.toBitVec.isLt
theorem tI_lo (x : Int64) : -9223372036854775808 ≤ x.toInt := Int64.le_toInt x
theorem tI_hi (x : Int64) : x.toInt < 9223372036854775808 := Int64.toInt_lt x
theorem tI_add {x y : Int64} (h : -9223372036854775808 ≤ x.toInt + y.toInt) (h' : x.toInt + y.toInt < 9223372036854775808) : (x + y).toInt = x.toInt + y.toInt := by
  rw [Int64.toInt_add, Int.bmod_eq_of_le (by omega) (by omega)]
theorem tI_sub {x y : Int64} (h : -9223372036854775808 ≤ x.toInt - y.toInt) (h' : x.toInt - y.toInt < 9223372036854775808) : (x - y).toInt = x.toInt - y.toInt := by
  rw [Int64.toInt_sub, Int.bmod_eq_of_le (by omega) (by omega)]
theorem y32 (x : Int64) : (yshr x 32).toInt = x.toInt / 4294967296 := by
  unfold yshr
  show (x >>> (32 : Int64)).toInt = _
  rw [← Int64.toInt_toBitVec, Int64.toBitVec_shiftRight, show ((32 : Int64).toBitVec.smod 64) = 32#64 from by decide, BitVec.sshiftRight_eq', BitVec.toInt_sshiftRight, Int.shiftRight_eq_div_pow]
  rfl
theorem yF (x : Int64) : (x &&& 4294967295).toInt = x.toInt % 4294967296 := by
  have h : (x &&& 4294967295).toBitVec.toNat = x.toBitVec.toNat % 4294967296 := by
    rw [Int64.toBitVec_and, BitVec.toNat_and]
    exact Nat.and_two_pow_sub_one_eq_mod _ 32
  have e := BitVec.toInt_eq_toNat_cond x.toBitVec
  rw [← Int64.toInt_toBitVec, ← Int64.toInt_toBitVec, BitVec.toInt_eq_toNat_cond, e, h]
  have := x.toBitVec.isLt
  split <;> split <;> omega
theorem uN (x : Int64) : (x.toUInt64.toNat : Int) = if x.toInt < 0 then x.toInt + 18446744073709551616 else x.toInt := by
  have e := BitVec.toInt_eq_toNat_cond x.toBitVec
  have h : x.toUInt64.toNat = x.toBitVec.toNat := rfl
  rw [Int64.toInt_toBitVec] at e
  rw [e, h]
  have := x.toBitVec.isLt
  split <;> split <;> omega
theorem xM (x : Int64) : (x ^^^ -9223372036854775808).toInt = (x.toUInt64.toNat : Int) - 9223372036854775808 := by
  have h : x.toUInt64.toNat = x.toBitVec.toNat := rfl
  have h1 : (x ^^^ -9223372036854775808).toBitVec.toNat = x.toBitVec.toNat ^^^ 2 ^ 63 := by
    rw [Int64.toBitVec_xor, BitVec.toNat_xor]
    rfl
  have h2 : (x.toBitVec.toNat ^^^ 2 ^ 63) % 2 ^ 63 = x.toBitVec.toNat % 2 ^ 63 := by
    rw [Nat.xor_mod_two_pow, Nat.mod_self, Nat.xor_zero]
  have h3 : (x.toBitVec.toNat ^^^ 2 ^ 63) / 2 ^ 63 = x.toBitVec.toNat / 2 ^ 63 ^^^ 1 := by
    rw [Nat.xor_div_two_pow, Nat.div_self (by decide)]
  have hlt := x.toBitVec.isLt
  have h4 : x.toBitVec.toNat / 2 ^ 63 = 0 ∨ x.toBitVec.toNat / 2 ^ 63 = 1 := by omega
  rw [← Int64.toInt_toBitVec, BitVec.toInt_eq_toNat_cond, h1, h]
  generalize x.toBitVec.toNat ^^^ 2 ^ 63 = y at *
  generalize x.toBitVec.toNat = z at *
  rcases h4 with q | q
  · rw [q, show 0 ^^^ 1 = 1 from rfl] at h3
    split <;> omega
  · rw [q, show 1 ^^^ 1 = 0 from rfl] at h3
    split <;> omega
theorem below_u (x y : Int64) : (x ^^^ -9223372036854775808) < (y ^^^ -9223372036854775808) ↔ x.toUInt64.toNat < y.toUInt64.toNat := by
  rw [Int64.lt_iff_toInt_lt, xM, xM]
  omega
theorem sub_u {x y : Int64} (h : y.toInt ≤ x.toInt) : ((x - y).toUInt64.toNat : Int) = x.toInt - y.toInt := by
  have h1 := tI_lo x; have h2 := tI_hi x; have h3 := tI_lo y; have h4 := tI_hi y
  have e := Int64.toInt_sub x y
  rw [uN, e]
  rw [Int.bmod_def]
  simp only [show (2 : Nat) ^ 64 = 18446744073709551616 from rfl]
  split <;> split <;> omega
theorem ofN_u {n : Nat} (h : n < 18446744073709551616) : (Int64.ofNat n).toUInt64.toNat = n := by
  show (BitVec.ofNat 64 n).toNat = n
  rw [BitVec.toNat_ofNat]
  omega
theorem floorC {b f : Int64} {H : Nat} (hH : H < 18446744073709551616) : (b < f ∨ (b - f).toUInt64.toNat < (Int64.ofNat H).toUInt64.toNat) ↔ b.toInt < f.toInt + H := by
  rw [ofN_u hH, Int64.lt_iff_toInt_lt]
  constructor
  · rintro (h | h)
    · omega
    · by_cases q : f.toInt ≤ b.toInt
      · have := sub_u q
        omega
      · omega
  · intro h
    by_cases q : f.toInt ≤ b.toInt
    · have := sub_u q
      omega
    · omega
theorem floorM {b f hi lo : Int64} (h1 : -4611686018427387904 ≤ hi.toInt) (h2 : hi.toInt ≤ 4611686018427387904) (h3 : -1099511627776 ≤ lo.toInt) (h4 : lo.toInt ≤ 1099511627776) : (((yshr b 32 - hi) - yshr f 32) + yshr (((b &&& 4294967295) - lo) - (f &&& 4294967295)) 32 < 0) ↔ b.toInt < f.toInt + (hi.toInt * 4294967296 + lo.toInt) := by
  have b1 := tI_lo b; have b2 := tI_hi b; have f1 := tI_lo f; have f2 := tI_hi f
  have eb := y32 b; have ef := y32 f; have gb := yF b; have gf := yF f
  have a1 : (yshr b 32 - hi).toInt = b.toInt / 4294967296 - hi.toInt := by rw [tI_sub (by omega) (by omega), eb]
  have a2 : ((yshr b 32 - hi) - yshr f 32).toInt = b.toInt / 4294967296 - hi.toInt - f.toInt / 4294967296 := by rw [tI_sub (by omega) (by omega), a1, ef]
  have a3 : ((b &&& 4294967295) - lo).toInt = b.toInt % 4294967296 - lo.toInt := by rw [tI_sub (by omega) (by omega), gb]
  have a4 : (((b &&& 4294967295) - lo) - (f &&& 4294967295)).toInt = b.toInt % 4294967296 - lo.toInt - f.toInt % 4294967296 := by rw [tI_sub (by omega) (by omega), a3, gf]
  have a5 := y32 (((b &&& 4294967295) - lo) - (f &&& 4294967295))
  rw [a4] at a5
  rw [Int64.lt_iff_toInt_lt, tI_add (by omega) (by omega), a2, a5, show (0 : Int64).toInt = 0 from rfl]
  omega
theorem below_hold {b f : Int64} {H v : Nat} (hH : f.toInt + H ≤ b.toInt) (hv : v < 9223372036854775808) : ((b - f) - Int64.ofNat H).toUInt64.toNat < (Int64.ofNat v).toUInt64.toNat ↔ b.toInt < f.toInt + (H + v : Nat) := by
  have b1 := tI_lo b; have b2 := tI_hi b; have f1 := tI_lo f; have f2 := tI_hi f
  have h1 := sub_u (show f.toInt ≤ b.toInt by omega)
  have hl : H < 18446744073709551616 := by omega
  have h2 : ((b - f) - Int64.ofNat H).toUInt64.toNat = (b - f).toUInt64.toNat - H := by
    have e : ((b - f) - Int64.ofNat H).toUInt64 = (b - f).toUInt64 - UInt64.ofNat H := rfl
    rw [e, UInt64.toNat_sub_of_le _ _ (by rw [UInt64.le_iff_toNat_le, UInt64.toNat_ofNat_of_lt' (by exact hl)]; omega), UInt64.toNat_ofNat_of_lt' (by exact hl)]
  rw [h2, ofN_u (by omega)]
  omega
theorem held_pair {hi lo : Int64} {H : Nat} (h0 : 0 ≤ hi.toInt) (h1 : hi.toInt < 4294967296) (h2 : 0 ≤ lo.toInt) (h3 : lo.toInt < 4294967296) (e : hi.toInt * 4294967296 + lo.toInt = H) : (yshl hi 32) ||| lo = Int64.ofNat H := by
  have u1 := uN hi; have u2 := uN lo
  rw [if_neg (by omega)] at u1 u2
  have e1 : hi.toUInt64.toNat = hi.toBitVec.toNat := rfl
  have e2 : lo.toUInt64.toNat = lo.toBitVec.toNat := rfl
  rw [← Int64.toBitVec_inj]
  apply BitVec.eq_of_toNat_eq
  show ((hi <<< (32 : Int64)) ||| lo).toBitVec.toNat = (BitVec.ofNat 64 H).toNat
  rw [Int64.toBitVec_or, BitVec.toNat_or, Int64.toBitVec_shiftLeft, show ((32 : Int64).toBitVec.smod 64) = 32#64 from by decide, BitVec.shiftLeft_eq', BitVec.toNat_shiftLeft]
  have hs : hi.toBitVec.toNat <<< (32#64).toNat = hi.toBitVec.toNat * 4294967296 := by rw [Nat.shiftLeft_eq]; rfl
  have hm : hi.toBitVec.toNat <<< (32#64).toNat % 2 ^ 64 = hi.toBitVec.toNat <<< 32 := by
    rw [hs, Nat.mod_eq_of_lt (by omega), Nat.shiftLeft_eq]
  rw [hm, ← Nat.shiftLeft_add_eq_or_of_lt (by omega : lo.toBitVec.toNat < 2 ^ 32), Nat.shiftLeft_eq, BitVec.toNat_ofNat]
  rw [Nat.mod_eq_of_lt (by omega)]
  omega
theorem held_up {hi lo : Int64} {v : Nat} (hv : v < 9223372036854775808) (h0 : 0 ≤ hi.toInt) (h1 : hi.toInt < 4294967296) (h2 : 0 ≤ lo.toInt) (h3 : lo.toInt < 4294967296) (s : Int32) (hs : s = 1 ∨ s = -1) :
    let l := lo + s.toInt64 * (Int64.ofNat v &&& 4294967295)
    let h := hi + (s.toInt64 * yshr (Int64.ofNat v) 32 + yshr l 32)
    h.toInt * 4294967296 + (l &&& 4294967295).toInt = hi.toInt * 4294967296 + lo.toInt + s.toInt * v ∧ 0 ≤ (l &&& 4294967295).toInt ∧ (l &&& 4294967295).toInt < 4294967296 := by
  intro l h
  have ev : (Int64.ofNat v).toInt = v := Int64.toInt_ofNat_of_lt (by exact hv)
  have g1 := y32 (Int64.ofNat v); have g2 := yF (Int64.ofNat v)
  rw [ev] at g1 g2
  have m1 : (s.toInt64 * (Int64.ofNat v &&& 4294967295)).toInt = s.toInt * (v % 4294967296 : Int) := by
    rcases hs with rfl | rfl
    · rw [show Int32.toInt64 1 = 1 from rfl, Int64.one_mul, g2]; show _ = 1 * _; omega
    · rw [show Int32.toInt64 (-1) = -1 from rfl, Int64.neg_mul, Int64.one_mul, Int64.toInt_neg, g2, Int.bmod_eq_of_le (by omega) (by omega)]; show _ = (-1) * _; omega
  have m2 : (s.toInt64 * yshr (Int64.ofNat v) 32).toInt = s.toInt * (v / 4294967296 : Int) := by
    rcases hs with rfl | rfl
    · rw [show Int32.toInt64 1 = 1 from rfl, Int64.one_mul, g1]; show _ = 1 * _; omega
    · rw [show Int32.toInt64 (-1) = -1 from rfl, Int64.neg_mul, Int64.one_mul, Int64.toInt_neg, g1, Int.bmod_eq_of_le (by omega) (by omega)]; show _ = (-1) * _; omega
  have hs2 : s.toInt = 1 ∨ s.toInt = -1 := by rcases hs with rfl | rfl; exact Or.inl rfl; exact Or.inr rfl
  have m3 : s.toInt * (v % 4294967296 : Int) = (v % 4294967296 : Int) ∨ s.toInt * (v % 4294967296 : Int) = -(v % 4294967296 : Int) := by rcases hs2 with q | q <;> rw [q] <;> omega
  have m4 : s.toInt * (v / 4294967296 : Int) = (v / 4294967296 : Int) ∧ s.toInt * (v % 4294967296 : Int) = (v % 4294967296 : Int) ∧ s.toInt * (v : Int) = v ∨ s.toInt * (v / 4294967296 : Int) = -(v / 4294967296 : Int) ∧ s.toInt * (v % 4294967296 : Int) = -(v % 4294967296 : Int) ∧ s.toInt * (v : Int) = -v := by rcases hs2 with q | q <;> rw [q] <;> omega
  have el : l.toInt = lo.toInt + s.toInt * (v % 4294967296 : Int) := by rw [tI_add (by omega) (by omega), m1]
  have k1 := y32 l; have k2 := yF l
  rw [el] at k1 k2
  have eq : (s.toInt64 * yshr (Int64.ofNat v) 32 + yshr l 32).toInt = s.toInt * (v / 4294967296 : Int) + (lo.toInt + s.toInt * (v % 4294967296 : Int)) / 4294967296 := by rw [tI_add (by omega) (by omega), m2, k1]
  have eh : h.toInt = hi.toInt + (s.toInt * (v / 4294967296 : Int) + (lo.toInt + s.toInt * (v % 4294967296 : Int)) / 4294967296) := by rw [tI_add (by omega) (by omega), eq]
  rw [eh, k2]
  refine ⟨by omega, by omega, by omega⟩
theorem bN_of (n k : Nat) (hk : k < 8) : bN (Int64.ofNat n) k = n / 2 ^ (8 * k) % 256 := by
  unfold bN
  have e : (Int64.ofNat n).toUInt64.toNat = n % 2 ^ 64 := rfl
  rw [e, show (256 : Nat) = 2 ^ 8 from rfl]
  apply Nat.eq_of_testBit_eq
  intro i
  rw [← Nat.shiftRight_eq_div_pow, ← Nat.shiftRight_eq_div_pow, Nat.testBit_mod_two_pow, Nat.testBit_mod_two_pow, Nat.testBit_shiftRight, Nat.testBit_shiftRight, Nat.testBit_mod_two_pow]
  by_cases q : i < 8
  · simp [q, show 8 * k + i < 64 by omega]
  · simp [q]
/-- byte j, from the high end, of a number of 128 bits -/
def tb (P j : Nat) : Nat := P / 2 ^ (8 * (15 - j)) % 256
theorem tb_lt (P j : Nat) : tb P j < 256 := Nat.mod_lt _ (by decide)
theorem tb_c1 (P j : Nat) (hj : j < 8) : bN (Int64.ofNat (P / 2 ^ 64)) (7 - j) = tb P j := by
  rw [bN_of _ _ (by omega), Nat.div_div_eq_div_mul, ← Nat.pow_add, show 64 + 8 * (7 - j) = 8 * (15 - j) by omega]
  rfl
theorem tb_c2 (P j : Nat) (hj : j < 8) : bN (Int64.ofNat P) (7 - j) = tb P (8 + j) := by
  rw [bN_of _ _ (by omega), show 8 * (7 - j) = 8 * (15 - (8 + j)) by omega]
  rfl
theorem tb_m0 (P j : Nat) (hj : j < 4) (hP : P < 2 ^ 96) : tb P j = 0 := by
  unfold tb
  rw [Nat.div_eq_of_lt (Nat.lt_of_lt_of_le hP (Nat.pow_le_pow_right (by decide) (by omega)))]
theorem tb_m1 (P j : Nat) (hj : j < 8) : bN (Int64.ofNat (P / 2 ^ 32)) (7 - j) = tb P (4 + j) := by
  rw [bN_of _ _ (by omega), Nat.div_div_eq_div_mul, ← Nat.pow_add, show 32 + 8 * (7 - j) = 8 * (15 - (4 + j)) by omega]
  rfl
theorem tb_m2 (P j : Nat) (hj : j < 4) : bN (Int64.ofNat (P % 2 ^ 32)) (3 - j) = tb P (12 + j) := by
  rw [bN_of _ _ (by omega)]
  unfold tb
  rw [show 15 - (12 + j) = 3 - j by omega, show (256 : Nat) = 2 ^ 8 from rfl]
  apply Nat.eq_of_testBit_eq
  intro i
  rw [← Nat.shiftRight_eq_div_pow, ← Nat.shiftRight_eq_div_pow, Nat.testBit_mod_two_pow, Nat.testBit_mod_two_pow, Nat.testBit_shiftRight, Nat.testBit_shiftRight, Nat.testBit_mod_two_pow]
  by_cases q : i < 8
  · simp [q, show 8 * (3 - j) + i < 32 by omega]
  · simp [q]
/-- the sum of the positive balances of the first n accounts -/
def pS (ba : Nat → Int64) : Nat → Nat
  | 0 => 0
  | n + 1 => pS ba n + (ba n).toInt.toNat
theorem pS_lt (ba : Nat → Int64) : ∀ n, pS ba n ≤ n * 9223372036854775808
  | 0 => by show 0 ≤ _; omega
  | n + 1 => by
    have := pS_lt ba n
    have := tI_hi (ba n)
    show pS ba n + (ba n).toInt.toNat ≤ _
    omega
theorem of_pos {x : Int64} (h : 0 < x) : x = Int64.ofNat x.toInt.toNat := by
  have h0 : 0 < x.toInt := Int64.lt_iff_toInt_lt.mp h
  apply Int64.toInt_inj.mp
  rw [Int64.toInt_ofNat_of_lt (by have := tI_hi x; omega)]
  omega
theorem not_pos {x : Int64} (h : ¬ 0 < x) : x.toInt.toNat = 0 := by
  have h0 : ¬ 0 < x.toInt := fun q => h (Int64.lt_iff_toInt_lt.mpr q)
  omega
/-- the class: a carry -/
theorem carry {P : Nat} {x : Int64} (h : 0 < x) : (Int64.ofNat P + x).toUInt64.toNat < x.toUInt64.toNat ↔ (P + x.toInt.toNat) / 2 ^ 64 = P / 2 ^ 64 + 1 := by
  have hx := of_pos h
  have h0 : 0 < x.toInt := Int64.lt_iff_toInt_lt.mp h
  have h1 := tI_hi x
  have e1 : x.toUInt64.toNat = x.toInt.toNat := by
    have := uN x
    rw [if_neg (by omega)] at this
    omega
  have e2 : (Int64.ofNat P + x).toUInt64.toNat = (P + x.toInt.toNat) % 2 ^ 64 := by
    conv => lhs; rw [hx, ← Int64.ofNat_add]
    rfl
  rw [e1, e2]
  omega
theorem nocarry {P : Nat} {x : Int64} (q : ¬ (P + x.toInt.toNat) / 2 ^ 64 = P / 2 ^ 64 + 1) : (P + x.toInt.toNat) / 2 ^ 64 = P / 2 ^ 64 := by
  have h1 := tI_hi x
  omega
/-- the reference: halves -/
theorem half_hi {x : Int64} (h : 0 < x) : yshr x 32 = Int64.ofNat (x.toInt.toNat / 4294967296) := by
  have h0 : 0 < x.toInt := Int64.lt_iff_toInt_lt.mp h
  have h1 := tI_hi x
  apply Int64.toInt_inj.mp
  rw [y32, Int64.toInt_ofNat_of_lt (by omega)]
  omega
theorem half_lo {x : Int64} (h : 0 < x) : x &&& 4294967295 = Int64.ofNat (x.toInt.toNat % 4294967296) := by
  have h0 : 0 < x.toInt := Int64.lt_iff_toInt_lt.mp h
  have h1 := tI_hi x
  apply Int64.toInt_inj.mp
  rw [yF, Int64.toInt_ofNat_of_lt (by omega)]
  omega
/-- the sums of the upper and of the lower halves -/
def pH (ba : Nat → Int64) : Nat → Nat
  | 0 => 0
  | n + 1 => pH ba n + (ba n).toInt.toNat / 4294967296
def pL (ba : Nat → Int64) : Nat → Nat
  | 0 => 0
  | n + 1 => pL ba n + (ba n).toInt.toNat % 4294967296
theorem pHL (ba : Nat → Int64) : ∀ n, pH ba n * 4294967296 + pL ba n = pS ba n ∧ pH ba n ≤ n * 2147483648 ∧ pL ba n ≤ n * 4294967296
  | 0 => by
    rw [show pH ba 0 = 0 from rfl, show pL ba 0 = 0 from rfl, show pS ba 0 = 0 from rfl]
    exact ⟨by omega, by omega, by omega⟩
  | n + 1 => by
    obtain ⟨h1, h2, h3⟩ := pHL ba n
    have h4 := tI_hi (ba n)
    rw [show pH ba (n + 1) = pH ba n + (ba n).toInt.toNat / 4294967296 from rfl, show pL ba (n + 1) = pL ba n + (ba n).toInt.toNat % 4294967296 from rfl, show pS ba (n + 1) = pS ba n + (ba n).toInt.toNat from rfl]
    have h5 : (ba n).toInt.toNat < 9223372036854775808 := by omega
    generalize (ba n).toInt.toNat = t at *
    have h6 := Nat.div_add_mod t 4294967296
    have h7 := Nat.mod_lt t (show 0 < 4294967296 by decide)
    generalize t / 4294967296 = q at *
    generalize t % 4294967296 = r at *
    exact ⟨by rw [← h1, ← h6, Nat.add_mul, Nat.mul_comm q]; ac_rfl, by omega, by omega⟩
theorem halves_end (ba : Nat → Int64) (n : Nat) (hn : n ≤ 40) : Int64.ofNat (pH ba n) + yshr (Int64.ofNat (pL ba n)) 32 = Int64.ofNat (pS ba n / 2 ^ 32) ∧ Int64.ofNat (pL ba n) &&& 4294967295 = Int64.ofNat (pS ba n % 2 ^ 32) := by
  have h := pHL ba n
  have e : (Int64.ofNat (pL ba n)).toInt = pL ba n := Int64.toInt_ofNat_of_lt (by show _ < 2 ^ 63; omega)
  have a1 : yshr (Int64.ofNat (pL ba n)) 32 = Int64.ofNat (pL ba n / 4294967296) := by
    apply Int64.toInt_inj.mp
    rw [y32, e, Int64.toInt_ofNat_of_lt (by omega)]
    omega
  have a2 : Int64.ofNat (pL ba n) &&& 4294967295 = Int64.ofNat (pL ba n % 4294967296) := by
    apply Int64.toInt_inj.mp
    rw [yF, e, Int64.toInt_ofNat_of_lt (by omega)]
    omega
  rw [a1, a2, ← Int64.ofNat_add]
  constructor
  · congr 1; omega
  · congr 1; omega
end Bytes
