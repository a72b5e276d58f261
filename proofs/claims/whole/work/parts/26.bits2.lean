/-! ===== Int32 by its bits: bt x i ===== -/
def bt (x : Int32) (i : Nat) : Bool := x.toBitVec.getLsbD i
theorem b_ext {x y : Int32} (h : ∀ i, i < 32 → bt x i = bt y i) : x = y := Int32.toBitVec_inj.mp (BitVec.eq_of_getLsbD_eq (fun i hi => h i hi))
theorem b_or (x y : Int32) (i : Nat) : bt (x ||| y) i = (bt x i || bt y i) := by unfold bt; rw [Int32.toBitVec_or, BitVec.getLsbD_or]
theorem b_and (x y : Int32) (i : Nat) : bt (x &&& y) i = (bt x i && bt y i) := by unfold bt; rw [Int32.toBitVec_and, BitVec.getLsbD_and]
theorem b_xor (x y : Int32) (i : Nat) : bt (x ^^^ y) i = (bt x i ^^ bt y i) := by unfold bt; rw [Int32.toBitVec_xor, BitVec.getLsbD_xor]
theorem b_big {x : Int32} {i : Nat} (h : 32 ≤ i) : bt x i = false := BitVec.getLsbD_of_ge _ _ h
theorem b_255 (i : Nat) : bt 255 i = decide (i < 8) := by
  rcases Nat.lt_or_ge i 32 with h | h
  · exact (by decide +kernel : ∀ i, i < 32 → bt 255 i = decide (i < 8)) i h
  · rw [b_big h, decide_eq_false (by omega)]
theorem b_65535 (i : Nat) : bt 65535 i = decide (i < 16) := by
  rcases Nat.lt_or_ge i 32 with h | h
  · exact (by decide +kernel : ∀ i, i < 32 → bt 65535 i = decide (i < 16)) i h
  · rw [b_big h, decide_eq_false (by omega)]
theorem b_m1 : ∀ i, i < 32 → bt (-1) i = true := by decide +kernel
theorem b_0 (i : Nat) : bt 0 i = false := BitVec.getLsbD_zero
theorem s_l : ∀ n, n < 32 → ((nI n &&& 31).toBitVec.smod 32).toNat = n := by decide +kernel
theorem s_u : ∀ n, n < 32 → (((nI n).toUInt32 &&& Int32.toUInt32 31).toBitVec % 32).toNat = n := by decide +kernel
theorem b_shl (n : Nat) (hn : n < 32) (x : Int32) {i : Nat} (hi : i < 32) : bt (x <<< (nI n &&& 31)) i = (decide (n ≤ i) && bt x (i - n)) := by
  unfold bt
  rw [Int32.toBitVec_shiftLeft]
  show (x.toBitVec <<< ((nI n &&& 31).toBitVec.smod 32).toNat).getLsbD i = _
  rw [s_l n hn, BitVec.getLsbD_shiftLeft]
  rcases Nat.lt_or_ge i n with h | h
  · simp [h, Nat.not_le.mpr h]
  · simp [hi, h, Nat.not_lt.mpr h]
theorem b_ushr (n : Nat) (hn : n < 32) (x : Int32) (i : Nat) : bt ((x.toUInt32 >>> ((nI n).toUInt32 &&& Int32.toUInt32 31)).toInt32) i = bt x (n + i) := by
  show (x.toUInt32 >>> ((nI n).toUInt32 &&& Int32.toUInt32 31)).toBitVec.getLsbD i = x.toUInt32.toBitVec.getLsbD (n + i)
  rw [UInt32.toBitVec_shiftRight]
  show (x.toUInt32.toBitVec >>> (((nI n).toUInt32 &&& Int32.toUInt32 31).toBitVec % 32).toNat).getLsbD i = _
  rw [s_u n hn, BitVec.getLsbD_ushiftRight]
theorem b_sshr (n : Nat) (hn : n < 32) (x : Int32) {i : Nat} (hi : i < 32) : bt (x >>> (nI n &&& 31)) i = if n + i < 32 then bt x (n + i) else bt x 31 := by
  unfold bt
  rw [Int32.toBitVec_shiftRight]
  show (x.toBitVec.sshiftRight ((nI n &&& 31).toBitVec.smod 32).toNat).getLsbD i = _
  rw [s_l n hn, BitVec.getLsbD_sshiftRight, BitVec.msb_eq_getLsbD_last]
  simp [hi]
/-! ===== the bytes of a hash ===== -/
theorem sh_amt : ∀ r, r < 4 → (24 : Int32) - ((8 : Int32) * nI r) = nI (24 - 8 * r) := by decide +kernel
theorem bt_hb (h : Nat → Int32) (j : Nat) {i : Nat} (hi : i < 32) : bt (hb h j) i = (bt (h (j / 4)) (24 - 8 * (j % 4) + i) && decide (i < 8)) := by
  unfold hb xshr
  rw [sh_amt (j % 4) (Nat.mod_lt _ (by decide)), b_and, b_255, b_sshr _ (by omega) _ hi]
  by_cases q : i < 8
  · have hm := Nat.mod_lt j (show 0 < 4 by decide)
    rw [if_pos (by omega)]
  · simp [q]
theorem bt_byC (h : Nat → Int32) (j : Nat) {i : Nat} (hi : i < 32) : bt (byC h j) i = (bt (h (j / 4)) (24 - 8 * (j % 4) + i) && decide (i < 8)) := by
  unfold byC xushr
  rw [sh_amt (j % 4) (Nat.mod_lt _ (by decide)), b_and, b_255, b_ushr _ (by omega)]
/-- the class's byte of a hash is the reference's -/
theorem byC_hb (h : Nat → Int32) (j : Nat) : byC h j = hb h j := b_ext fun i hi => by rw [bt_hb h j hi, bt_byC h j hi]
/-- a hash is known by its bytes -/
theorem hb_inj {h h' : Nat → Int32} (e : ∀ j, j < 32 → hb h j = hb h' j) : ∀ i, i < 8 → h i = h' i := fun i hi => b_ext fun p hp => by
  have g : bt (hb h (4 * i + (3 - p / 8))) (p % 8) = bt (hb h' (4 * i + (3 - p / 8))) (p % 8) := by rw [e (4 * i + (3 - p / 8)) (by omega)]
  have h8 : p % 8 < 8 := Nat.mod_lt _ (by decide)
  rw [bt_hb h _ (by omega), bt_hb h' _ (by omega), show (4 * i + (3 - p / 8)) / 4 = i by omega, show (4 * i + (3 - p / 8)) % 4 = 3 - p / 8 by omega, show 24 - 8 * (3 - p / 8) + p % 8 = p by omega] at g
  simpa [h8] using g
/-- a byte of a hash is 0 .. 255 -/
theorem hb_mask (h : Nat → Int32) (j : Nat) : hb h j &&& 255 = hb h j := b_ext fun i hi => by
  rw [b_and, b_255, bt_hb h j hi]
  simp
/-! ===== the digest of a list of bytes ===== -/
theorem padP_ext {m m' : Nat → Int32} {n last : Nat} (h : ∀ i, i < n → m i = m' i) : padP m n last = padP m' n last := by
  funext i
  unfold padP
  by_cases q : i < n
  · rw [if_pos q, if_pos q, h i q]
  · rw [if_neg q, if_neg q]
theorem dig_ext {K K' F F' m m' : Nat → Int32} {n : Nat} (hK : ∀ j, j < 64 → K j = K' j) (hF : ∀ j, j < 8 → F j = F' j) (hm : ∀ i, i < n → m i = m' i) : ∀ i, i < 8 → dig K F m n i = dig K' F' m' n i := by
  intro i hi
  unfold dig
  by_cases q : n ≤ 55
  · rw [if_pos q, if_pos q, padP_ext hm]
    exact comp_ext hK (fun _ _ => rfl) hF i hi
  · rw [if_neg q, if_neg q, padP_ext hm]
    exact comp_ext hK (fun _ _ => rfl) (fun j hj => comp_ext hK (fun _ _ => rfl) hF j hj) i hi
def K0h : Nat → Int32 := fun i => ROUNDl.getD i 0
/-- SHA-256 of a list of bytes, in eight words (0 beyond them) -/
def D (l : List Int32) : Nat → Int32 := fun i => if i < 8 then dig K0h F0h (fun j => l.getD j 0) l.length i else 0
/-- the 32 bytes of a hash -/
def hbs (h : Nat → Int32) : List Int32 := (List.range 32).map (hb h)
theorem hbs_len (h : Nat → Int32) : (hbs h).length = 32 := by unfold hbs; simp
theorem hbs_get (h : Nat → Int32) {j : Nat} (hj : j < 32) : (hbs h).getD j 0 = hb h j := by
  unfold hbs
  rw [List.getD_eq_getElem?_getD, List.getElem?_map, List.getElem?_range hj]
  rfl
