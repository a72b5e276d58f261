-- P1, class: the text is filled: add, addBytes, addHash
def nb (x : Int32) : Int32 := vp_nar .byte x.toInt8.toInt32
theorem nb_mask (x : Int32) : nb x &&& 255 = x &&& 255 := by
  unfold nb
  rw [vp_nar_byte]
  apply Int32.toBitVec_inj.mp
  simp
  apply BitVec.eq_of_getLsbD_eq
  intro i hi
  by_cases h : i < 8
  · simp [BitVec.getElem_signExtend, h, hi]
  · have : (255#32).getLsbD i = false := by
      match i, h, hi with
      | 8, _, _ => rfl | 9, _, _ => rfl | 10, _, _ => rfl | 11, _, _ => rfl | 12, _, _ => rfl | 13, _, _ => rfl | 14, _, _ => rfl | 15, _, _ => rfl | 16, _, _ => rfl | 17, _, _ => rfl | 18, _, _ => rfl | 19, _, _ => rfl | 20, _, _ => rfl | 21, _, _ => rfl | 22, _, _ => rfl | 23, _, _ => rfl | 24, _, _ => rfl | 25, _, _ => rfl | 26, _, _ => rfl | 27, _, _ => rfl | 28, _, _ => rfl | 29, _, _ => rfl | 30, _, _ => rfl | 31, _, _ => rfl
      | i + 32, _, h => omega
      | 0, h, _ => omega | 1, h, _ => omega | 2, h, _ => omega | 3, h, _ => omega | 4, h, _ => omega | 5, h, _ => omega | 6, h, _ => omega | 7, h, _ => omega
    simp [this]
/-- the memory with the text r of k bytes in the Sha at s -/
def txI (I : Nat → Nat → Int32) (s : Nat) (r : Nat → Int32) (k : Nat) : Nat → Nat → Int32 := u1 (u1 I (s + 1) r) s (fun j => if j = 1 then nI k else I s j)
theorem tx_self {I : Nat → Nat → Int32} {s k : Nat} (h : I s 1 = nI k) : txI I s (I (s + 1)) k = I := by
  unfold txI
  rw [u1_self]
  have e : (fun j => if j = 1 then nI k else I s j) = I s := funext fun j => by
    by_cases q : j = 1
    · rw [if_pos q, q, h]
    · rw [if_neg q]
  rw [e, u1_self]
theorem tx_s {I : Nat → Nat → Int32} {s k : Nat} {r : Nat → Int32} (j : Nat) : txI I s r k s j = if j = 1 then nI k else I s j := by unfold txI; rw [u1_eq]
theorem tx_txt {I : Nat → Nat → Int32} {s k : Nat} {r : Nat → Int32} : txI I s r k (s + 1) = r := by unfold txI; rw [u1_ne (by omega), u1_eq]
theorem tx_ne {I : Nat → Nat → Int32} {s k c : Nat} {r : Nat → Int32} (h1 : c ≠ s) (h2 : c ≠ s + 1) : txI I s r k c = I c := by unfold txI; rw [u1_ne h1, u1_ne h2]
section Text
variable {N SL : Nat} {S : Nat → Shp} {R : Nat → Nat → Option Nat} {s : Nat}
theorem begin_tx (hA : ShaAt N S R s) (I : Nat → Nat → Int32) (J : Nat → Nat → Int64) (r : Nat → Int32) (k : Nat) : fX6_begin s (N, SL, S, R, txI I s r k, J) = some ((), (N, SL, S, R, txI I s r 0, J)) := by
  unfold fX6_begin
  rw [pI_mk hA.1]
  refine congrArg (fun z => some ((), (N, SL, S, R, z, J))) ?_
  funext c j
  unfold txI u2 u1
  by_cases h1 : c = s
  · subst h1
    by_cases h2 : j = 1
    · simp [h2]; rfl
    · simp [h2]
  · simp [h1]
theorem add_tx (hA : ShaAt N S R s) (I : Nat → Nat → Int32) (J : Nat → Nat → Int64) (r : Nat → Int32) (k : Nat) (hk : k < 119) (x : Int32) : fX6_add s x (N, SL, S, R, txI I s r k, J) = some ((), (N, SL, S, R, txI I s (fun j => if j = k then nb x else r j) (k + 1), J)) := by
  obtain ⟨ho, h3, ⟨r0, r2, r3⟩, ⟨s1, s2, s3⟩, ⟨n1, q0, q1⟩⟩ := hA
  have hns : nS ≤ s + 1 := Nat.le_trans ho.2.1 (Nat.le_add_right _ _)
  have e : ∀ y, u2 (txI I s r k) (s + 1) k y s = txI I s r k s := fun y => u2_ne (by omega)
  unfold fX6_add
  rw [gI_mk ho, tx_s, if_pos rfl, if_neg (show ¬ (119 : Int32) ≤ nI k from nI_lt_of (k := 119) (by decide) hk)]
  rw [gR_mk ho r0, gI_mk ho, tx_s, if_pos rfl, wI_mk (by omega) hns s1 (by omega) (by decide), gI_mk ho, e, tx_s, if_pos rfl, pI_mk ho, nI_1]
  unfold fX6_add_30
  refine congrArg (fun z => some ((), (N, SL, S, R, z, J))) ?_
  funext c j
  unfold txI u2 u1 nb
  by_cases h1 : c = s
  · subst h1
    by_cases h2 : j = 1
    · simp [h2]
    · simp [h2]
  · by_cases h2 : c = s + 1
    · subst h2
      by_cases h3 : j = k <;> simp [h3]
    · simp [h1, h2]
theorem addBytes_loop (hA : ShaAt N S R s) {a : Nat} (ha : a < N) {n : Nat} (hsa : S a = .inl (.byte, n)) (hn : n < 2 ^ 31) (has : a ≠ s) (has1 : a ≠ s + 1) (I : Nat → Nat → Int32) (J : Nat → Nat → Int64) (e : Nat) (he : e ≤ n) : ∀ (q i : Nat) (r : Nat → Int32) (k fuel : Nat), i + q = e → q < fuel → k + q ≤ 119 →
    fX6_addBytes_3 fuel s a (nI e) (nI i) (N, SL, S, R, txI I s r k, J) = some ((), (N, SL, S, R, txI I s (fun j => if k ≤ j ∧ j < k + q then nb (I a (i + (j - k))) else r j) (k + q), J)) := by
  intro q
  induction q with
  | zero =>
    intro i r k fuel hi hf hk
    obtain ⟨z, rfl⟩ : ∃ z, fuel = z + 1 := ⟨fuel - 1, by omega⟩
    have hi : i = e := by omega
    subst hi
    rw [fX6_addBytes_3, if_pos ((nI_leI (by omega) (by omega)).mpr (Nat.le_refl _))]
    have e1 : (fun j => if k ≤ j ∧ j < k + 0 then nb (I a (i + (j - k))) else r j) = r := funext fun j => if_neg (by omega)
    rw [e1]
    rfl
  | succ q ih =>
    intro i r k fuel hi hf hk
    obtain ⟨z, rfl⟩ : ∃ z, fuel = z + 1 := ⟨fuel - 1, by omega⟩
    rw [fX6_addBytes_3, if_neg (nI_lt_of (k := e) (by omega) (by omega)), rI_mk ha hsa (by omega) hn, cV_mk hA.1, add_tx hA I J r k (by omega), bd_some, nI_1, tx_ne has has1]
    rw [ih (i + 1) _ (k + 1) z (by omega) (by omega) (by omega), show k + 1 + q = k + (q + 1) by omega]
    refine congrArg (fun y => some ((), (N, SL, S, R, txI I s y (k + (q + 1)), J))) (funext fun j => ?_)
    by_cases q1 : k + 1 ≤ j ∧ j < k + (q + 1)
    · rw [if_pos q1, if_pos ⟨by omega, by omega⟩, show i + 1 + (j - (k + 1)) = i + (j - k) by omega]
    · rw [if_neg q1]
      by_cases q2 : j = k
      · rw [if_pos q2, if_pos ⟨by omega, by omega⟩, show i + (j - k) = i by omega]
      · rw [if_neg q2, if_neg (fun h => q1 ⟨by omega, h.2⟩)]
/-- addBytes(from, start, end) -/
theorem addBytes_tx (hA : ShaAt N S R s) {a : Nat} (ha : a < N) {n : Nat} (hsa : S a = .inl (.byte, n)) (hn : n < 2 ^ 31) (has : a ≠ s) (has1 : a ≠ s + 1) (I : Nat → Nat → Int32) (J : Nat → Nat → Int64) (b e : Nat) (hbe : b ≤ e) (he : e ≤ n) (r : Nat → Int32) (k : Nat) (hk : k + (e - b) ≤ 119) :
    fX6_addBytes s a (nI b) (nI e) (N, SL, S, R, txI I s r k, J) = some ((), (N, SL, S, R, txI I s (fun j => if k ≤ j ∧ j < k + (e - b) then nb (I a (b + (j - k))) else r j) (k + (e - b)), J)) :=
  addBytes_loop hA ha hsa hn has has1 I J e he (e - b) b r k FU (by omega) (by unfold FU; omega) hk
/-- byte b of a hash, as the class takes it -/
def byC (h : Nat → Int32) (b : Nat) : Int32 := (xushr (h (b / 4)) ((24 : Int32) - ((8 : Int32) * nI (b % 4)))) &&& 255
theorem shr2 : ∀ b, b < 32 → xshr (nI b) 2 = nI (b / 4) := by decide +kernel
theorem and3 : ∀ b, b < 32 → nI b &&& (3 : Int32) = nI (b % 4) := by decide +kernel
theorem byteOf_mk {a : Nat} (ha : a < N) (hsa : S a = .inl (.int, 8)) (I : Nat → Nat → Int32) (J : Nat → Nat → Int64) (b : Nat) (hb : b < 32) : fX8_byteOf a (nI b) (N, SL, S, R, I, J) = some (byC (I a) b, (N, SL, S, R, I, J)) := by
  unfold fX8_byteOf
  rw [shr2 b hb, and3 b hb, rI_mk ha hsa (by omega) (by decide)]
  rfl
theorem addHash_loop (hA : ShaAt N S R s) {a : Nat} (ha : a < N) (hsa : S a = .inl (.int, 8)) (has : a ≠ s) (has1 : a ≠ s + 1) (I : Nat → Nat → Int32) (J : Nat → Nat → Int64) : ∀ (q i : Nat) (r : Nat → Int32) (k fuel : Nat), i + q = 32 → q < fuel → k + q ≤ 119 →
    fX6_addHash_2 fuel s a (nI i) (N, SL, S, R, txI I s r k, J) = some ((), (N, SL, S, R, txI I s (fun j => if k ≤ j ∧ j < k + q then nb (byC (I a) (i + (j - k))) else r j) (k + q), J)) := by
  intro q
  induction q with
  | zero =>
    intro i r k fuel hi hf hk
    obtain ⟨z, rfl⟩ : ∃ z, fuel = z + 1 := ⟨fuel - 1, by omega⟩
    have hi : i = 32 := by omega
    subst hi
    rw [fX6_addHash_2, if_pos (by decide)]
    have e1 : (fun j => if k ≤ j ∧ j < k + 0 then nb (byC (I a) (32 + (j - k))) else r j) = r := funext fun j => if_neg (by omega)
    rw [e1]
    rfl
  | succ q ih =>
    intro i r k fuel hi hf hk
    obtain ⟨z, rfl⟩ : ∃ z, fuel = z + 1 := ⟨fuel - 1, by omega⟩
    rw [fX6_addHash_2, if_neg (show ¬ (32 : Int32) ≤ nI i from nI_lt_of (k := 32) (by decide) (by omega)), byteOf_mk ha hsa _ J i (by omega), bd_some, cV_mk hA.1, add_tx hA I J r k (by omega), bd_some, nI_1, tx_ne has has1]
    rw [ih (i + 1) _ (k + 1) z (by omega) (by omega) (by omega), show k + 1 + q = k + (q + 1) by omega]
    refine congrArg (fun y => some ((), (N, SL, S, R, txI I s y (k + (q + 1)), J))) (funext fun j => ?_)
    by_cases q1 : k + 1 ≤ j ∧ j < k + (q + 1)
    · rw [if_pos q1, if_pos ⟨by omega, by omega⟩, show i + 1 + (j - (k + 1)) = i + (j - k) by omega]
    · rw [if_neg q1]
      by_cases q2 : j = k
      · rw [if_pos q2, if_pos ⟨by omega, by omega⟩, show i + (j - k) = i by omega]
      · rw [if_neg q2, if_neg (fun h => q1 ⟨by omega, h.2⟩)]
theorem addHash_tx (hA : ShaAt N S R s) {a : Nat} (ha : a < N) (hsa : S a = .inl (.int, 8)) (has : a ≠ s) (has1 : a ≠ s + 1) (I : Nat → Nat → Int32) (J : Nat → Nat → Int64) (r : Nat → Int32) (k : Nat) (hk : k + 32 ≤ 119) :
    fX6_addHash s a (N, SL, S, R, txI I s r k, J) = some ((), (N, SL, S, R, txI I s (fun j => if k ≤ j ∧ j < k + 32 then nb (byC (I a) (j - k)) else r j) (k + 32), J)) := by
  have h := addHash_loop (SL := SL) hA ha hsa has has1 I J 32 0 r k FU rfl (by decide) hk
  rw [show (fun j => if k ≤ j ∧ j < k + 32 then nb (byC (I a) (j - k)) else r j) = (fun j => if k ≤ j ∧ j < k + 32 then nb (byC (I a) (0 + (j - k))) else r j) from funext fun j => by rw [Nat.zero_add]]
  exact h
end Text
