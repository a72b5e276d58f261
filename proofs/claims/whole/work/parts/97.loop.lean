-- P6: the law's loop
theorem nI_int {n : Nat} (h : n < 2147483648) : (nI n).toInt = (n : Int) := by
  show (BitVec.ofNat 32 n).toInt = _
  rw [BitVec.toInt_eq_toNat_cond, BitVec.toNat_ofNat, Nat.mod_eq_of_lt (by omega), if_pos (by omega)]
theorem sub7 {L i : Nat} (hL : L ≤ 3584) (hi : i ≤ 3584) : (nI L - (7 : Int32)) < nI i ↔ L < i + 7 := by
  have e : (nI L - (7 : Int32)).toInt = (L : Int) - 7 := by
    rw [Int32.toInt_sub, nI_int (by omega), show (7 : Int32).toInt = 7 from rfl, Int.bmod_def]
    split <;> omega
  rw [Int32.lt_iff_toInt_lt, e, nI_int (by omega)]
  omega
section Loop
variable {N SL : Nat} {S : Nat → Shp} {R : Nat → Nat → Option Nat} {I : Nat → Nat → Int32} {J : Nat → Nat → Int64} {L i : Nat} {xs : Nat → Int32} {β : Type} {kk : Int32 → Option β}
theorem gL_mk (h : S 2 = .inl (.int, L)) : gL (N, SL, S, R, I, J) 2 kk = kk (nI L) := by
  unfold gL
  rw [if_pos (by decide)]
  show (match S 2 with | .inl (_, n) => kk n.toInt32 | .inr _ => none) = _
  rw [h]
  rfl
theorem rs_0 (hN : 2 < N) (h2 : S 2 = .inl (.int, L)) (hL : L ≤ 3584) (hI : I 2 = xs) (hk : i < L) : rI (N, SL, S, R, I, J) .int 2 (nI i) kk = kk (xs i) := by
  rw [rI_mk hN h2 hk (by omega), hI]
theorem rs_1 (hN : 2 < N) (h2 : S 2 = .inl (.int, L)) (hL : L ≤ 3584) (hI : I 2 = xs) (hk : i + 1 < L) : rI (N, SL, S, R, I, J) .int 2 (nI i + (1 : Int32)) kk = kk (xs (i + 1)) := by
  rw [show (1 : Int32) = nI 1 from rfl, nI_add]
  exact rs_0 hN h2 hL hI hk
theorem rs_2 (hN : 2 < N) (h2 : S 2 = .inl (.int, L)) (hL : L ≤ 3584) (hI : I 2 = xs) (hk : i + 2 < L) : rI (N, SL, S, R, I, J) .int 2 (nI i + (2 : Int32)) kk = kk (xs (i + 2)) := by
  rw [show (2 : Int32) = nI 2 from rfl, nI_add]
  exact rs_0 hN h2 hL hI hk
theorem rs_3 (hN : 2 < N) (h2 : S 2 = .inl (.int, L)) (hL : L ≤ 3584) (hI : I 2 = xs) (hk : i + 3 < L) : rI (N, SL, S, R, I, J) .int 2 (nI i + (3 : Int32)) kk = kk (xs (i + 3)) := by
  rw [show (3 : Int32) = nI 3 from rfl, nI_add]
  exact rs_0 hN h2 hL hI hk
theorem rs_4 (hN : 2 < N) (h2 : S 2 = .inl (.int, L)) (hL : L ≤ 3584) (hI : I 2 = xs) (hk : i + 4 < L) : rI (N, SL, S, R, I, J) .int 2 (nI i + (4 : Int32)) kk = kk (xs (i + 4)) := by
  rw [show (4 : Int32) = nI 4 from rfl, nI_add]
  exact rs_0 hN h2 hL hI hk
theorem rs_5 (hN : 2 < N) (h2 : S 2 = .inl (.int, L)) (hL : L ≤ 3584) (hI : I 2 = xs) (hk : i + 5 < L) : rI (N, SL, S, R, I, J) .int 2 (nI i + (5 : Int32)) kk = kk (xs (i + 5)) := by
  rw [show (5 : Int32) = nI 5 from rfl, nI_add]
  exact rs_0 hN h2 hL hI hk
theorem rs_6 (hN : 2 < N) (h2 : S 2 = .inl (.int, L)) (hL : L ≤ 3584) (hI : I 2 = xs) (hk : i + 6 < L) : rI (N, SL, S, R, I, J) .int 2 (nI i + (6 : Int32)) kk = kk (xs (i + 6)) := by
  rw [show (6 : Int32) = nI 6 from rfl, nI_add]
  exact rs_0 hN h2 hL hI hk
set_option maxHeartbeats 4000000 in
theorem law_loop (hT : TopAt N S R) (h2 : S 2 = .inl (.int, L)) (hL : L ≤ 3584) : ∀ (q i fuel : Nat) (I : Nat → Nat → Int32) (J : Nat → Nat → Int64), L < i + 7 * q + 7 → q < fuel → i ≤ 3584 → I 2 = xs → Both I J →
    ∃ Me : Mem, fL_law_18 fuel 2 3 759 (nI i) (N, SL, S, R, I, J) = some (1, Me) ∧ Me.1 = N ∧ Me.2.1 = SL := by
  have hN : 2 < N := by have := hT.1.2.1; omega
  intro q
  induction q with
  | zero =>
    intro i fuel I J hq hf hi hI hB
    obtain ⟨y, rfl⟩ : ∃ y, fuel = y + 1 := ⟨fuel - 1, by omega⟩
    rw [fL_law_18, gL_mk h2, if_pos ((sub7 hL hi).mpr (by omega))]
    exact ⟨_, rfl, rfl, rfl⟩
  | succ q ih =>
    intro i fuel I J hq hf hi hI hB
    obtain ⟨y, rfl⟩ : ∃ y, fuel = y + 1 := ⟨fuel - 1, by omega⟩
    rw [fL_law_18, gL_mk h2]
    by_cases w : L < i + 7
    · rw [if_pos ((sub7 hL hi).mpr w)]
      exact ⟨_, rfl, rfl, rfl⟩
    rw [if_neg (fun z => w ((sub7 hL hi).mp z)), rs_0 hN h2 hL hI (by omega)]
    have next : ∀ (I2 : Nat → Nat → Int32) (J2 : Nat → Nat → Int64), I2 2 = I 2 → Both I2 J2 → ∃ Me : Mem, fL_law_1026 (fL_law_18 y) 2 3 759 (nI i) (N, SL, S, R, I2, J2) = some (1, Me) ∧ Me.1 = N ∧ Me.2.1 = SL := by
      intro I2 J2 e B
      unfold fL_law_1026
      rw [show (7 : Int32) = nI 7 from rfl, nI_add]
      exact ih (i + 7) y I2 J2 (by omega) (by omega) (by omega) (by rw [e, hI]) B
    by_cases w0 : (xs i &&& (31 : Int32)) = 0
    · obtain ⟨a, I1, I2, J1, J2, c1, c2, c3, c4, c5⟩ := op_open (SL := SL) hT hB ((yshl (xs (i + 1)).toInt64 (32 : Int32)) ||| ((xs (i + 2)).toInt64 &&& (4294967295 : Int64)))
      have hI1 : I1 2 = xs := by rw [c2, hI]
      rw [if_pos w0, rs_1 hN h2 hL hI (by omega), rs_2 hN h2 hL hI (by omega), tp_o hT, c1, bd_some, rs_1 hN h2 hL hI1 (by omega), rs_2 hN h2 hL hI1 (by omega), md_o hT.md, c3, bd_some, if_pos rfl]
      exact next I2 J2 c4 c5
    rw [if_neg w0]
    by_cases w1 : (xs i &&& (31 : Int32)) = 1
    · obtain ⟨a, I1, I2, J1, J2, c1, c2, c3, c4, c5⟩ := op_leg (SL := SL) hT hB (xs (i + 1)) ((yshl (xs (i + 2)).toInt64 (32 : Int32)) ||| ((xs (i + 3)).toInt64 &&& (4294967295 : Int64)))
      have hI1 : I1 2 = xs := by rw [c2, hI]
      rw [if_pos w1, rs_1 hN h2 hL hI (by omega), rs_2 hN h2 hL hI (by omega), rs_3 hN h2 hL hI (by omega), tp_o hT, c1, bd_some, rs_1 hN h2 hL hI1 (by omega), rs_2 hN h2 hL hI1 (by omega), rs_3 hN h2 hL hI1 (by omega), md_o hT.md, c3, bd_some, if_pos rfl]
      exact next I2 J2 c4 c5
    rw [if_neg w1]
    by_cases w2 : (xs i &&& (31 : Int32)) = 2
    · obtain ⟨a, I1, I2, J1, J2, c1, c2, c3, c4, c5⟩ := op_clear (SL := SL) hT hB 
      have hI1 : I1 2 = xs := by rw [c2, hI]
      rw [if_pos w2, tp_o hT, c1, bd_some, md_o hT.md, c3, bd_some, if_pos rfl]
      exact next I2 J2 c4 c5
    rw [if_neg w2]
    by_cases w3 : (xs i &&& (31 : Int32)) = 3
    · obtain ⟨a, I1, I2, J1, J2, c1, c2, c3, c4, c5⟩ := op_post (SL := SL) hT hB ((yshl (xs (i + 1)).toInt64 (32 : Int32)) ||| ((xs (i + 2)).toInt64 &&& (4294967295 : Int64)))
      have hI1 : I1 2 = xs := by rw [c2, hI]
      rw [if_pos w3, rs_1 hN h2 hL hI (by omega), rs_2 hN h2 hL hI (by omega), tp_o hT, c1, bd_some, rs_1 hN h2 hL hI1 (by omega), rs_2 hN h2 hL hI1 (by omega), md_o hT.md, c3, bd_some, if_pos rfl]
      exact next I2 J2 c4 c5
    rw [if_neg w3]
    by_cases w4 : (xs i &&& (31 : Int32)) = 4
    · obtain ⟨a, I1, I2, J1, J2, c1, c2, c3, c4, c5⟩ := op_hold (SL := SL) hT hB ((yshl (xs (i + 1)).toInt64 (32 : Int32)) ||| ((xs (i + 2)).toInt64 &&& (4294967295 : Int64))) (xs (i + 3)) ((yshl (xs (i + 4)).toInt64 (32 : Int32)) ||| ((xs (i + 5)).toInt64 &&& (4294967295 : Int64)))
      have hI1 : I1 2 = xs := by rw [c2, hI]
      rw [if_pos w4, rs_1 hN h2 hL hI (by omega), rs_2 hN h2 hL hI (by omega), rs_3 hN h2 hL hI (by omega), rs_4 hN h2 hL hI (by omega), rs_5 hN h2 hL hI (by omega), tp_o hT, c1, bd_some, rs_1 hN h2 hL hI1 (by omega), rs_2 hN h2 hL hI1 (by omega), rs_3 hN h2 hL hI1 (by omega), rs_4 hN h2 hL hI1 (by omega), rs_5 hN h2 hL hI1 (by omega), md_o hT.md, c3, bd_some, if_pos rfl]
      exact next I2 J2 c4 c5
    rw [if_neg w4]
    by_cases w5 : (xs i &&& (31 : Int32)) = 5
    · obtain ⟨a, I1, I2, J1, J2, c1, c2, c3, c4, c5⟩ := op_rel (SL := SL) hT hB (xs (i + 1))
      have hI1 : I1 2 = xs := by rw [c2, hI]
      rw [if_pos w5, rs_1 hN h2 hL hI (by omega), tp_o hT, c1, bd_some, rs_1 hN h2 hL hI1 (by omega), md_o hT.md, c3, bd_some, if_pos rfl]
      exact next I2 J2 c4 c5
    rw [if_neg w5]
    by_cases w6 : (xs i &&& (31 : Int32)) = 6
    · obtain ⟨a, I1, I2, J1, J2, c1, c2, c3, c4, c5⟩ := op_cap (SL := SL) hT hB ((yshl (xs (i + 1)).toInt64 (32 : Int32)) ||| ((xs (i + 2)).toInt64 &&& (4294967295 : Int64))) (xs (i + 3)) (xs (i + 4)) ((yshl (xs (i + 5)).toInt64 (32 : Int32)) ||| ((xs (i + 6)).toInt64 &&& (4294967295 : Int64)))
      have hI1 : I1 2 = xs := by rw [c2, hI]
      rw [if_pos w6, rs_1 hN h2 hL hI (by omega), rs_2 hN h2 hL hI (by omega), rs_3 hN h2 hL hI (by omega), rs_4 hN h2 hL hI (by omega), rs_5 hN h2 hL hI (by omega), rs_6 hN h2 hL hI (by omega), tp_o hT, c1, bd_some, rs_1 hN h2 hL hI1 (by omega), rs_2 hN h2 hL hI1 (by omega), rs_3 hN h2 hL hI1 (by omega), rs_4 hN h2 hL hI1 (by omega), rs_5 hN h2 hL hI1 (by omega), rs_6 hN h2 hL hI1 (by omega), md_o hT.md, c3, bd_some, if_pos rfl]
      exact next I2 J2 c4 c5
    rw [if_neg w6]
    by_cases w7 : (xs i &&& (31 : Int32)) = 7
    · obtain ⟨a, I1, I2, J1, J2, c1, c2, c3, c4, c5⟩ := op_rev (SL := SL) hT hB ((yshl (xs (i + 1)).toInt64 (32 : Int32)) ||| ((xs (i + 2)).toInt64 &&& (4294967295 : Int64))) (xs (i + 3))
      have hI1 : I1 2 = xs := by rw [c2, hI]
      rw [if_pos w7, rs_1 hN h2 hL hI (by omega), rs_2 hN h2 hL hI (by omega), rs_3 hN h2 hL hI (by omega), tp_o hT, c1, bd_some, rs_1 hN h2 hL hI1 (by omega), rs_2 hN h2 hL hI1 (by omega), rs_3 hN h2 hL hI1 (by omega), md_o hT.md, c3, bd_some, if_pos rfl]
      exact next I2 J2 c4 c5
    rw [if_neg w7]
    by_cases w8 : (xs i &&& (31 : Int32)) = 8
    · obtain ⟨a, I1, I2, J1, J2, c1, c2, c3, c4, c5⟩ := op_every (SL := SL) hT hB (xs (i + 1))
      have hI1 : I1 2 = xs := by rw [c2, hI]
      rw [if_pos w8, rs_1 hN h2 hL hI (by omega), tp_o hT, c1, bd_some, rs_1 hN h2 hL hI1 (by omega), md_o hT.md, c3, bd_some, if_pos rfl]
      exact next I2 J2 c4 c5
    rw [if_neg w8]
    by_cases w9 : (xs i &&& (31 : Int32)) = 9
    · obtain ⟨a, I1, I2, J1, J2, c1, c2, c3, c4, c5⟩ := op_account (SL := SL) hT hB (xs (i + 1)) (xs (i + 2))
      have hI1 : I1 2 = xs := by rw [c2, hI]
      rw [if_pos w9, rs_1 hN h2 hL hI (by omega), rs_2 hN h2 hL hI (by omega), tp_o hT, c1, bd_some, rs_1 hN h2 hL hI1 (by omega), rs_2 hN h2 hL hI1 (by omega), md_o hT.md, c3, bd_some, if_pos rfl]
      exact next I2 J2 c4 c5
    rw [if_neg w9]
    by_cases w10 : (xs i &&& (31 : Int32)) = 10
    · obtain ⟨a, I1, I2, J1, J2, c1, c2, c3, c4, c5⟩ := op_entry (SL := SL) hT hB (xs (i + 1)) (xs (i + 2))
      have hI1 : I1 2 = xs := by rw [c2, hI]
      rw [if_pos w10, rs_1 hN h2 hL hI (by omega), rs_2 hN h2 hL hI (by omega), tp_o hT, c1, bd_some, rs_1 hN h2 hL hI1 (by omega), rs_2 hN h2 hL hI1 (by omega), md_o hT.md, c3, bd_some, if_pos rfl]
      exact next I2 J2 c4 c5
    rw [if_neg w10]
    by_cases w11 : (xs i &&& (31 : Int32)) = 11
    · obtain ⟨a, I1, I2, J1, J2, c1, c2, c3, c4, c5⟩ := op_data (SL := SL) hT hB (xs (i + 1))
      have hI1 : I1 2 = xs := by rw [c2, hI]
      rw [if_pos w11, rs_1 hN h2 hL hI (by omega), tp_o hT, c1, bd_some, rs_1 hN h2 hL hI1 (by omega), md_o hT.md, c3, bd_some, if_pos rfl]
      exact next I2 J2 c4 c5
    rw [if_neg w11]
    by_cases w12 : (xs i &&& (31 : Int32)) = 12
    · obtain ⟨a, I1, I2, J1, J2, c1, c2, c3, c4, c5⟩ := op_alter (SL := SL) hT hB (xs (i + 1)) (xs (i + 2))
      have hI1 : I1 2 = xs := by rw [c2, hI]
      rw [if_pos w12, rs_1 hN h2 hL hI (by omega), rs_2 hN h2 hL hI (by omega), tp_o hT, c1, bd_some, rs_1 hN h2 hL hI1 (by omega), rs_2 hN h2 hL hI1 (by omega), md_o hT.md, c3, bd_some, if_pos rfl]
      exact next I2 J2 c4 c5
    rw [if_neg w12]
    by_cases w13 : (xs i &&& (31 : Int32)) = 13
    · obtain ⟨a, I1, I2, J1, J2, c1, c2, c3, c4, c5⟩ := op_hash (SL := SL) hT hB (xs (i + 1)) (xs (i + 2)) (xs (i + 3))
      have hI1 : I1 2 = xs := by rw [c2, hI]
      rw [if_pos w13, rs_1 hN h2 hL hI (by omega), rs_2 hN h2 hL hI (by omega), rs_3 hN h2 hL hI (by omega), tp_o hT, c1, bd_some, rs_1 hN h2 hL hI1 (by omega), rs_2 hN h2 hL hI1 (by omega), rs_3 hN h2 hL hI1 (by omega), md_o hT.md, c3, bd_some, if_pos rfl]
      exact next I2 J2 c4 c5
    rw [if_neg w13]
    by_cases w14 : (xs i &&& (31 : Int32)) = 14
    · obtain ⟨a, I1, I2, J1, J2, c1, c2, c3, c4, c5⟩ := op_keep (SL := SL) hT hB (xs (i + 1))
      have hI1 : I1 2 = xs := by rw [c2, hI]
      rw [if_pos w14, rs_1 hN h2 hL hI (by omega), tp_o hT, c1, bd_some, rs_1 hN h2 hL hI1 (by omega), md_o hT.md, c3, bd_some, if_pos rfl]
      exact next I2 J2 c4 c5
    rw [if_neg w14]
    by_cases w15 : (xs i &&& (31 : Int32)) = 15
    · obtain ⟨a, I1, I2, J1, J2, c1, c2, c3, c4, c5⟩ := op_verify (SL := SL) hT hB (xs (i + 1))
      have hI1 : I1 2 = xs := by rw [c2, hI]
      rw [if_pos w15, rs_1 hN h2 hL hI (by omega), tp_o hT, c1, bd_some, rs_1 hN h2 hL hI1 (by omega), md_o hT.md, c3, bd_some, if_pos rfl]
      exact next I2 J2 c4 c5
    rw [if_neg w15]
    by_cases w16 : (xs i &&& (31 : Int32)) = 16
    · obtain ⟨a, I1, I2, J1, J2, c1, c2, c3, c4, c5⟩ := op_path (SL := SL) hT hB (xs (i + 1)) (xs (i + 2))
      have hI1 : I1 2 = xs := by rw [c2, hI]
      rw [if_pos w16, rs_1 hN h2 hL hI (by omega), rs_2 hN h2 hL hI (by omega), tp_o hT, c1, bd_some, rs_1 hN h2 hL hI1 (by omega), rs_2 hN h2 hL hI1 (by omega), md_o hT.md, c3, bd_some, if_pos rfl]
      exact next I2 J2 c4 c5
    rw [if_neg w16]
    by_cases w17 : (xs i &&& (31 : Int32)) = 17
    · obtain ⟨a, I1, I2, J1, J2, c1, c2, c3, c4, c5⟩ := op_proof (SL := SL) hT hB (xs (i + 1)) (xs (i + 2))
      have hI1 : I1 2 = xs := by rw [c2, hI]
      rw [if_pos w17, rs_1 hN h2 hL hI (by omega), rs_2 hN h2 hL hI (by omega), tp_o hT, c1, bd_some, rs_1 hN h2 hL hI1 (by omega), rs_2 hN h2 hL hI1 (by omega), md_o hT.md, c3, bd_some, if_pos rfl]
      exact next I2 J2 c4 c5
    rw [if_neg w17]
    by_cases w18 : (xs i &&& (31 : Int32)) = 18
    · obtain ⟨a, I1, I2, J1, J2, c1, c2, c3, c4, c5⟩ := op_step (SL := SL) hT hB (xs (i + 1)) (xs (i + 2))
      have hI1 : I1 2 = xs := by rw [c2, hI]
      rw [if_pos w18, rs_1 hN h2 hL hI (by omega), rs_2 hN h2 hL hI (by omega), tp_o hT, c1, bd_some, rs_1 hN h2 hL hI1 (by omega), rs_2 hN h2 hL hI1 (by omega), md_o hT.md, c3, bd_some, if_pos rfl]
      exact next I2 J2 c4 c5
    rw [if_neg w18]
    by_cases w19 : (xs i &&& (31 : Int32)) = 19
    · obtain ⟨a, I1, I2, J1, J2, c1, c2, c3, c4, c5⟩ := op_leads (SL := SL) hT hB (xs (i + 1)) (xs (i + 2))
      have hI1 : I1 2 = xs := by rw [c2, hI]
      rw [if_pos w19, rs_1 hN h2 hL hI (by omega), rs_2 hN h2 hL hI (by omega), tp_o hT, c1, bd_some, rs_1 hN h2 hL hI1 (by omega), rs_2 hN h2 hL hI1 (by omega), md_o hT.md, c3, bd_some, if_pos rfl]
      exact next I2 J2 c4 c5
    rw [if_neg w19]
    by_cases w20 : (xs i &&& (31 : Int32)) = 20
    · obtain ⟨a, I1, I2, J1, J2, c1, c2, c3, c4, c5⟩ := op_audit (SL := SL) hT hB 
      have hI1 : I1 2 = xs := by rw [c2, hI]
      rw [if_pos w20, tp_o hT, c1, bd_some, md_o hT.md, c3, bd_some, if_pos rfl]
      exact next I2 J2 c4 c5
    rw [if_neg w20]
    by_cases w21 : (xs i &&& (31 : Int32)) = 21
    · obtain ⟨a, I1, I2, J1, J2, c1, c2, c3, c4, c5⟩ := op_count (SL := SL) hT hB (xs (i + 1))
      have hI1 : I1 2 = xs := by rw [c2, hI]
      rw [if_pos w21, rs_1 hN h2 hL hI (by omega), tp_o hT, c1, bd_some, rs_1 hN h2 hL hI1 (by omega), md_o hT.md, c3, bd_some, if_pos rfl]
      exact next I2 J2 c4 c5
    rw [if_neg w21]
    exact next I J rfl hB
theorem pure_claim (L : Nat) (xs : Nat → Int32) (hL : L ≤ 3584) : ∃ Me : Mem, fL_law 2 (M00 L xs) = some (1, Me) ∧ Me.1 ≤ 600003 ∧ Me.2.1 ≤ 7302250 := by
  obtain ⟨s, e1, e2, e3, e4, e5⟩ := law_begin L xs
  obtain ⟨Me, m1, m2, m3⟩ := law_loop (SL := s.2.1) (xs := xs) (top_at (L := L) (I0 := mI (M00 L xs)) e4) (begin_S e5 L (mI (M00 L xs))) hL 512 0 FU (mI (Rp L (mI (M00 L xs)) s)) (fun _ _ => 0) (by omega) (by decide) (by omega) (begin_2 e5 L xs) ⟨s00, s00_ok, begin_C e5 L xs, begin_M e5 L xs⟩
  refine ⟨Me, ?_, by omega, by omega⟩
  rw [e1, show Rp L (mI (M00 L xs)) s = (s.1, s.2.1, mSh (Rp L (mI (M00 L xs)) s), mR (Rp L (mI (M00 L xs)) s), mI (Rp L (mI (M00 L xs)) s), fun _ _ => 0) from rfl, e2]
  exact m1
end Loop
