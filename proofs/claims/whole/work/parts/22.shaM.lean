-- P1, reference: block(at) over its message, words, state
section ShaM
variable {N SL : Nat} {S : Nat → Shp} {R : Nat → Nat → Option Nat} {m : Nat}
theorem turn_mk (a b : Int32) (M : Mem) : fX9_turn a b M = some (((xushr a b) ||| (xshl a ((32 : Int32) - b))), M) := rfl
set_option maxHeartbeats 4000000 in
/-- the rounds -/
theorem mround_loop (hA : MdAt N S R m) : ∀ (q t : Nat) (a b c d e f g h : Int32) (I : Nat → Nat → Int32) (J : Nat → Nat → Int64) (fuel : Nat), t + q = 64 → q < fuel →
    fX9_block_232 fuel m a b c d e f g h (nI t) (N, SL, S, R, I, J) = some ((), (N, SL, S, R, u1 I (m + 34) (fun i => if i < 8 then I (m + 34) i + at8 (rds (I (m + 31)) (I (m + 33)) t q (a, b, c, d, e, f, g, h)) i else I (m + 34) i), J)) := by
  obtain ⟨r40, s40, l40, n40⟩ := md_rounds hA
  obtain ⟨r43, s43, l43, n43⟩ := md_words hA
  obtain ⟨r44, s44, l44, n44⟩ := md_state hA
  have ho := hA.1
  intro q
  induction q with
  | zero =>
    intro t a b c d e f g h I J fuel ht hf
    obtain ⟨k, rfl⟩ : ∃ k, fuel = k + 1 := ⟨fuel - 1, by omega⟩
    have ht : t = 64 := by omega
    subst ht
    rw [fX9_block_232, if_pos (by decide)]
    rw [gR_mk ho r44, show (0 : Int32) = nI 0 from rfl, rI_mk l44 s44 (by decide) (by decide), wI_mk l44 n44 s44 (by decide) (by decide)]
    rw [gR_mk ho r44, show (1 : Int32) = nI 1 from rfl, rI_mk l44 s44 (by decide) (by decide), wI_mk l44 n44 s44 (by decide) (by decide)]
    rw [gR_mk ho r44, show (2 : Int32) = nI 2 from rfl, rI_mk l44 s44 (by decide) (by decide), wI_mk l44 n44 s44 (by decide) (by decide)]
    rw [gR_mk ho r44, show (3 : Int32) = nI 3 from rfl, rI_mk l44 s44 (by decide) (by decide), wI_mk l44 n44 s44 (by decide) (by decide)]
    rw [gR_mk ho r44, show (4 : Int32) = nI 4 from rfl, rI_mk l44 s44 (by decide) (by decide), wI_mk l44 n44 s44 (by decide) (by decide)]
    rw [gR_mk ho r44, show (5 : Int32) = nI 5 from rfl, rI_mk l44 s44 (by decide) (by decide), wI_mk l44 n44 s44 (by decide) (by decide)]
    rw [gR_mk ho r44, show (6 : Int32) = nI 6 from rfl, rI_mk l44 s44 (by decide) (by decide), wI_mk l44 n44 s44 (by decide) (by decide)]
    rw [gR_mk ho r44, show (7 : Int32) = nI 7 from rfl, rI_mk l44 s44 (by decide) (by decide), wI_mk l44 n44 s44 (by decide) (by decide)]
    simp only [vp_narI]
    refine congrArg (fun z => some ((), (N, SL, S, R, z, J))) ?_
    funext c' i
    unfold u1
    by_cases hc : c' = m + 34
    · subst hc
      rw [if_pos rfl]
      show _ = (if i < 8 then I (m + 34) i + at8 (a, b, c, d, e, f, g, h) i else I (m + 34) i)
      match i with
      | 0 => simp [u2, at8]
      | 1 => simp [u2, at8]
      | 2 => simp [u2, at8]
      | 3 => simp [u2, at8]
      | 4 => simp [u2, at8]
      | 5 => simp [u2, at8]
      | 6 => simp [u2, at8]
      | 7 => simp [u2, at8]
      | i + 8 => rw [if_neg (by omega)]; simp [u2]
    · rw [if_neg hc]
      simp [u2, hc]
  | succ q ih =>
    intro t a b c d e f g h I J fuel ht hf
    obtain ⟨k, rfl⟩ : ∃ k, fuel = k + 1 := ⟨fuel - 1, by omega⟩
    rw [fX9_block_232, if_neg (show ¬ (64 : Int32) ≤ nI t from nI_lt_of (k := 64) (by decide) (by omega))]
    simp only [turn_mk, bd_some]
    rw [gR_mk ho r40, rI_mk l40 s40 (by omega) (by decide), gR_mk ho r43, rI_mk l43 s43 (by omega) (by decide), nI_1]
    exact ih (t + 1) _ _ _ _ _ _ _ _ I J k (by omega) (by omega)
set_option maxHeartbeats 4000000 in
/-- the words 16 .. 63, then the rounds -/
theorem msched_loop (hA : MdAt N S R m) (w : Nat → Int32) : ∀ (q k : Nat) (I : Nat → Nat → Int32) (J : Nat → Nat → Int64) (fuel : Nat), k + q = 48 → q < fuel → (∀ j, j < 16 + k → I (m + 33) j = sch w k j) →
    ∃ row X : Nat → Int32, fX9_block_60 fuel m (nI (16 + k)) (N, SL, S, R, I, J) = some ((), (N, SL, S, R, u1 (u1 I (m + 33) row) (m + 34) X, J)) ∧ ∀ i, i < 8 → X i = comp (I (m + 31)) w (I (m + 34)) i := by
  obtain ⟨r43, s43, l43, n43⟩ := md_words hA
  obtain ⟨r44, s44, l44, n44⟩ := md_state hA
  have ho := hA.1
  intro q
  induction q with
  | zero =>
    intro k I J fuel hk hf hI
    obtain ⟨z, rfl⟩ : ∃ z, fuel = z + 1 := ⟨fuel - 1, by omega⟩
    have hk : k = 48 := by omega
    subst hk
    refine ⟨I (m + 33), fun i => if i < 8 then I (m + 34) i + at8 (rds (I (m + 31)) (I (m + 33)) 0 64 (v8 (I (m + 34)))) i else I (m + 34) i, ?_, fun i hi => ?_⟩
    · rw [fX9_block_60, if_pos (by decide), u1_self]
      rw [gR_mk ho r44, show (0 : Int32) = nI 0 from rfl, rI_mk l44 s44 (by decide) (by decide)]
      rw [gR_mk ho r44, show (1 : Int32) = nI 1 from rfl, rI_mk l44 s44 (by decide) (by decide)]
      rw [gR_mk ho r44, show (2 : Int32) = nI 2 from rfl, rI_mk l44 s44 (by decide) (by decide)]
      rw [gR_mk ho r44, show (3 : Int32) = nI 3 from rfl, rI_mk l44 s44 (by decide) (by decide)]
      rw [gR_mk ho r44, show (4 : Int32) = nI 4 from rfl, rI_mk l44 s44 (by decide) (by decide)]
      rw [gR_mk ho r44, show (5 : Int32) = nI 5 from rfl, rI_mk l44 s44 (by decide) (by decide)]
      rw [gR_mk ho r44, show (6 : Int32) = nI 6 from rfl, rI_mk l44 s44 (by decide) (by decide)]
      rw [gR_mk ho r44, show (7 : Int32) = nI 7 from rfl, rI_mk l44 s44 (by decide) (by decide)]
      exact mround_loop hA 64 0 _ _ _ _ _ _ _ _ I J FU rfl (by decide)
    · show (if i < 8 then _ else _) = _
      unfold comp
      rw [if_pos hi, if_pos hi, rds_ext 64 0 (v8 (I (m + 34))) (fun j _ h2 => ⟨rfl, hI j (by omega)⟩)]
  | succ q ih =>
    intro k I J fuel hk hf hI
    obtain ⟨z, rfl⟩ : ∃ z, fuel = z + 1 := ⟨fuel - 1, by omega⟩
    have e15 : nI (16 + k) - (15 : Int32) = nI (k + 1) := by rw [show (15 : Int32) = nI 15 from rfl, pk_sub (by omega)]; congr 1; omega
    have e2 : nI (16 + k) - (2 : Int32) = nI (k + 14) := by rw [show (2 : Int32) = nI 2 from rfl, pk_sub (by omega)]; congr 1; omega
    have e16 : nI (16 + k) - (16 : Int32) = nI k := by rw [show (16 : Int32) = nI 16 from rfl, pk_sub (by omega)]; congr 1; omega
    have e7 : nI (16 + k) - (7 : Int32) = nI (k + 9) := by rw [show (7 : Int32) = nI 7 from rfl, pk_sub (by omega)]; congr 1; omega
    rw [fX9_block_60, if_neg (show ¬ (64 : Int32) ≤ nI (16 + k) from nI_lt_of (k := 64) (by decide) (by omega))]
    simp only [turn_mk, bd_some]
    rw [e15, e2, e16, e7, nI_1]
    rw [gR_mk ho r43, rI_mk l43 s43 (by omega) (by decide), gR_mk ho r43, rI_mk l43 s43 (by omega) (by decide), gR_mk ho r43, gR_mk ho r43, rI_mk l43 s43 (by omega) (by decide), gR_mk ho r43, rI_mk l43 s43 (by omega) (by decide), wI_mk l43 n43 s43 (by omega) (by decide), vp_narI]
    have ev : ((I (m + 33) k + sgA (I (m + 33) (k + 1))) + I (m + 33) (k + 9)) + sgB (I (m + 33) (k + 14)) = ((I (m + 33) k + I (m + 33) (k + 9)) + sgA (I (m + 33) (k + 1))) + sgB (I (m + 33) (k + 14)) := by
      rw [Int32.add_assoc (I (m + 33) k), Int32.add_comm (sgA (I (m + 33) (k + 1))), ← Int32.add_assoc (I (m + 33) k)]
    obtain ⟨row, X, g1, g2⟩ := ih (k + 1) (u2 I (m + 33) (16 + k) (((I (m + 33) k + sgA (I (m + 33) (k + 1))) + I (m + 33) (k + 9)) + sgB (I (m + 33) (k + 14)))) J z (by omega) (by omega) (fun j hj => by
      rw [u2_row, u1_eq]
      show (if j = 16 + k then _ else I (m + 33) j) = (if j = 16 + k then _ else sch w k j)
      by_cases y : j = 16 + k
      · rw [if_pos y, if_pos y, ev, hI k (by omega), hI (k + 9) (by omega), hI (k + 1) (by omega), hI (k + 14) (by omega)]
      · rw [if_neg y, if_neg y, hI j (by omega)])
    rw [u2_ne (show m + 31 ≠ m + 33 by omega), u2_ne (show m + 34 ≠ m + 33 by omega)] at g2
    refine ⟨row, X, ?_, g2⟩
    rw [show u1 I (m + 33) row = u1 (u2 I (m + 33) (16 + k) (((I (m + 33) k + sgA (I (m + 33) (k + 1))) + I (m + 33) (k + 9)) + sgB (I (m + 33) (k + 14)))) (m + 33) row by rw [u2_row, u1_u1]]
    exact g1
set_option maxHeartbeats 4000000 in
theorem mread_loop (hA : MdAt N S R m) (f : Nat) (hf64 : f + 64 ≤ 256) : ∀ (q k : Nat) (I : Nat → Nat → Int32) (J : Nat → Nat → Int64) (fuel : Nat), k + q = 16 → q < fuel → (∀ j, j < k → I (m + 33) j = wordP (I (m + 32)) (f + 4 * j)) →
    ∃ row X : Nat → Int32, fX9_block_2 fuel m (nI f) (nI k) (N, SL, S, R, I, J) = some ((), (N, SL, S, R, u1 (u1 I (m + 33) row) (m + 34) X, J)) ∧ ∀ i, i < 8 → X i = comp (I (m + 31)) (fun j => wordP (I (m + 32)) (f + 4 * j)) (I (m + 34)) i := by
  obtain ⟨r41, s41, l41, n41⟩ := md_message hA
  obtain ⟨r43, s43, l43, n43⟩ := md_words hA
  have ho := hA.1
  intro q
  induction q with
  | zero =>
    intro k I J fuel hk hf hI
    obtain ⟨z, rfl⟩ : ∃ z, fuel = z + 1 := ⟨fuel - 1, by omega⟩
    have hk : k = 16 := by omega
    subst hk
    rw [fX9_block_2, if_pos (by decide)]
    exact msched_loop hA _ 48 0 I J FU rfl (by decide) (fun j hj => hI j (by omega))
  | succ q ih =>
    intro k I J fuel hk hf hI
    obtain ⟨z, rfl⟩ : ∃ z, fuel = z + 1 := ⟨fuel - 1, by omega⟩
    have e0 : nI f + (4 : Int32) * nI k = nI (f + 4 * k) := by rw [show (4 : Int32) = nI 4 from rfl, pk_mul, nI_add]
    rw [fX9_block_2, if_neg (show ¬ (16 : Int32) ≤ nI k from nI_lt_of (k := 16) (by decide) (by omega))]
    rw [show FU = ((((999995 + 1) + 1) + 1) + 1) + 1 from rfl]
    rw [fX9_block_13, if_neg (by decide), e0, show (0 : Int32) = nI 0 from rfl, nI_add, gR_mk ho r41, rI_mk l41 s41 (by omega) (by decide), nI_1]
    rw [fX9_block_13, if_neg (by decide), e0, nI_add, gR_mk ho r41, rI_mk l41 s41 (by omega) (by decide), nI_1]
    rw [fX9_block_13, if_neg (by decide), e0, nI_add, gR_mk ho r41, rI_mk l41 s41 (by omega) (by decide), nI_1]
    rw [fX9_block_13, if_neg (by decide), e0, nI_add, gR_mk ho r41, rI_mk l41 s41 (by omega) (by decide), nI_1]
    rw [fX9_block_13, if_pos (by decide), gR_mk ho r43, wI_mk l43 n43 s43 (by omega) (by decide), vp_narI, nI_1]
    have ew : (xshl ((xshl ((xshl ((xshl (nI 0) 8) ||| I (m + 32) (f + 4 * k + 0)) 8) ||| I (m + 32) (f + 4 * k + (0 + 1))) 8) ||| I (m + 32) (f + 4 * k + (0 + 1 + 1))) 8) ||| I (m + 32) (f + 4 * k + (0 + 1 + 1 + 1)) = wordP (I (m + 32)) (f + 4 * k) := wordM_eq (I (m + 32)) (f + 4 * k)
    rw [ew]
    have e9 : u2 I (m + 33) k (wordP (I (m + 32)) (f + 4 * k)) (m + 32) = I (m + 32) := u2_ne (by omega)
    obtain ⟨row, X, g1, g2⟩ := ih (k + 1) (u2 I (m + 33) k (wordP (I (m + 32)) (f + 4 * k))) J z (by omega) (by omega) (fun j hj => by
      rw [e9, u2_row, u1_eq]
      show (if j = k then _ else I (m + 33) j) = _
      by_cases y : j = k
      · rw [if_pos y, y]
      · rw [if_neg y, hI j (by omega)])
    rw [e9, u2_ne (show m + 31 ≠ m + 33 by omega), u2_ne (show m + 34 ≠ m + 33 by omega)] at g2
    refine ⟨row, X, ?_, g2⟩
    rw [show u1 I (m + 33) row = u1 (u2 I (m + 33) k (wordP (I (m + 32)) (f + 4 * k))) (m + 33) row by rw [u2_row, u1_u1]]
    exact g1
/-- block(at) -/
theorem mblock_spec (hA : MdAt N S R m) (f : Nat) (hf64 : f + 64 ≤ 256) (I : Nat → Nat → Int32) (J : Nat → Nat → Int64) :
    ∃ row X : Nat → Int32, fX9_block m (nI f) (N, SL, S, R, I, J) = some ((), (N, SL, S, R, u1 (u1 I (m + 33) row) (m + 34) X, J)) ∧ ∀ i, i < 8 → X i = comp (I (m + 31)) (fun j => wordP (I (m + 32)) (f + 4 * j)) (I (m + 34)) i :=
  mread_loop hA f hf64 16 0 I J FU rfl (by decide) (fun j hj => absurd hj (by omega))
end ShaM
