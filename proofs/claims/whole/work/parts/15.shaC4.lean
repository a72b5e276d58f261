section ShaC4
variable {N SL : Nat} {S : Nat → Shp} {R : Nat → Nat → Option Nat} {s : Nat}
theorem word_eq {T P : Nat → Int32} {p : Nat} (h : ∀ i, p ≤ i → i < p + 4 → T i &&& 255 = P i) : wordC T p = wordP P p := by
  unfold wordC wordP
  rw [h p (by omega) (by omega), h (p + 1) (by omega) (by omega), h (p + 2) (by omega) (by omega), h (p + 3) (by omega) (by omega)]
set_option maxHeartbeats 4000000 in
theorem end17_spec (hA : ShaAt N S R s) {to : Nat} (ht : to < N) (htn : nS ≤ to) (hts : S to = .inl (.int, 8)) (hto : to ≠ s + 1 ∧ to ≠ s + 2 ∧ to ≠ s + 3) (nb : Nat) (hnb : nb = 1 ∨ nb = 2) (n : Nat) (hn : n < 120) (hn2 : n + 9 ≤ 64 * nb) (I : Nat → Nat → Int32) (J : Nat → Nat → Int64) (hI : I s 1 = nI n) :
    ∃ T W X : Nat → Int32, fX6_end_17 s to (nI nb) (N, SL, S, R, I, J) = some ((), (N, SL, S, R, u1 (u1 (u1 (u1 I (s + 1) T) (s + 2) W) (s + 3) X) to (fun j => if j < 8 then (if nb = 1 then comp (I 1) (fun j => wordP (padP (fun i => I (s + 1) i &&& 255) n (64 * nb)) (4 * j)) (I 0) j else comp (I 1) (fun j => wordP (padP (fun i => I (s + 1) i &&& 255) n (64 * nb)) (64 + 4 * j)) (comp (I 1) (fun j => wordP (padP (fun i => I (s + 1) i &&& 255) n (64 * nb)) (4 * j)) (I 0)) j) else I to j), J)) := by
  have hA' := hA
  obtain ⟨ho, h3, ⟨r0, r2, r3⟩, ⟨s1, s2, s3⟩, ⟨n1, q0, q1⟩⟩ := hA
  have hns0 : nS ≤ s := ho.2.1
  have hnS : nS = 3 := rfl
  have hL : 64 * nb < 2 ^ 31 ∧ 64 ≤ 64 * nb ∧ 64 * nb ≤ 128 := by rcases hnb with rfl | rfl <;> decide
  have em : nI nb * (64 : Int32) = nI (64 * nb) := by rw [show (64 : Int32) = nI 64 from rfl, pk_mul, Nat.mul_comm]
  have es : ∀ x, u2 I (s + 1) n x s = I s := fun x => u2_ne (by omega)
  unfold fX6_end_17
  rw [gR_mk ho r0, gI_mk ho, hI, wI_mk (by omega) (by omega) s1 (by omega) (by decide), gI_mk ho, es, hI, em, nI_1]
  rw [zero_loop hA' to (nI nb) (64 * nb) ⟨by omega, by omega⟩ (64 * nb - 2 - (n + 1)) (n + 1) _ J FU (by omega) (by unfold FU; omega)]
  rw [u2_row, u1_u1, u1_eq]
  generalize hB : (fun i => if n + 1 ≤ i ∧ i < 64 * nb - 2 then (0 : Int32) else if i = n then vp_nar .byte (-128 : Int32) else I (s + 1) i) = B
  have hBi : ∀ i, B i = if n + 1 ≤ i ∧ i < 64 * nb - 2 then (0 : Int32) else if i = n then vp_nar .byte (-128 : Int32) else I (s + 1) i := fun i => by rw [← hB]
  obtain ⟨T, W, X, hT, hR⟩ := tail_spec (SL := SL) hA' ht htn hts hto nb hnb n hn (u1 I (s + 1) B) J (by rw [u1_ne (by omega)]; exact hI)
  refine ⟨T, W, X, ?_⟩
  rw [hR, u1_u1]
  have f1 : u1 I (s + 1) B 1 = I 1 := u1_ne (by omega)
  have f0 : u1 I (s + 1) B 0 = I 0 := u1_ne (by omega)
  have ft : u1 I (s + 1) B to = I to := u1_ne hto.1
  rw [f1, f0, ft]
  have hp : ∀ i, i < 64 * nb → T i &&& 255 = padP (fun i => I (s + 1) i &&& 255) n (64 * nb) i := fun i hi => by
    rw [hT i, u1_eq, hBi i]
    unfold padP
    dsimp only
    by_cases z1 : i + 2 = 64 * nb
    · rw [if_pos z1, if_neg (by omega), if_neg (by omega), if_pos z1]
      exact tail_hi n hn
    · rw [if_neg z1]
      by_cases z2 : i + 1 = 64 * nb
      · rw [if_pos z2, if_neg (by omega), if_neg (by omega), if_neg z1, if_pos z2]
        exact tail_lo n hn
      · rw [if_neg z2]
        by_cases z3 : i < n
        · rw [if_pos z3, if_neg (by omega), if_neg (by omega)]
        · rw [if_neg z3]
          by_cases z4 : i = n
          · rw [if_pos z4, if_neg (by omega), if_pos z4]
            decide
          · rw [if_pos (show n + 1 ≤ i ∧ i < 64 * nb - 2 from ⟨by omega, by omega⟩), if_neg z4, if_neg z1, if_neg z2]
            decide
  refine congrArg (fun z => some ((), (N, SL, S, R, u1 (u1 (u1 (u1 I (s + 1) T) (s + 2) W) (s + 3) X) to z, J))) (funext fun j => ?_)
  by_cases y : j < 8
  · rw [if_pos y, if_pos y]
    rcases hnb with rfl | rfl
    · rw [if_pos rfl, if_pos rfl]
      exact comp_ext (fun _ _ => rfl) (fun q hq => word_eq (fun i h1 h2 => hp i (by omega))) (fun _ _ => rfl) j y
    · rw [if_neg (by decide), if_neg (by decide)]
      exact comp_ext (fun _ _ => rfl) (fun q hq => word_eq (fun i h1 h2 => hp i (by omega))) (fun i hi => comp_ext (fun _ _ => rfl) (fun q hq => word_eq (fun i h1 h2 => hp i (by omega))) (fun _ _ => rfl) i hi) j y
  · rw [if_neg y, if_neg y]
/-- end(to): the digest of the text stands at to -/
theorem end_spec (hA : ShaAt N S R s) {to : Nat} (ht : to < N) (htn : nS ≤ to) (hts : S to = .inl (.int, 8)) (hto : to ≠ s + 1 ∧ to ≠ s + 2 ∧ to ≠ s + 3) (n : Nat) (hn : n < 120) (I : Nat → Nat → Int32) (J : Nat → Nat → Int64) (hI : I s 1 = nI n) :
    ∃ T W X : Nat → Int32, fX6_end s to (N, SL, S, R, I, J) = some ((), (N, SL, S, R, u1 (u1 (u1 (u1 I (s + 1) T) (s + 2) W) (s + 3) X) to (fun j => if j < 8 then dig (I 1) (I 0) (fun i => I (s + 1) i &&& 255) n j else I to j), J)) := by
  unfold fX6_end
  rw [gI_mk hA.1, hI, show nI n + (9 : Int32) = nI (n + 9) by rw [show (9 : Int32) = nI 9 from rfl, nI_add]]
  by_cases h : n ≤ 55
  · rw [if_neg (show ¬ (64 : Int32) < nI (n + 9) from nI_nlt (a := 64) (b := n + 9) (by omega) (by decide))]
    obtain ⟨T, W, X, g⟩ := end17_spec (SL := SL) hA ht htn hts hto 1 (Or.inl rfl) n hn (by omega) I J hI
    refine ⟨T, W, X, ?_⟩
    rw [show (1 : Int32) = nI 1 from rfl, g]
    unfold dig
    simp only [if_pos h, if_true]
  · rw [if_pos (show (64 : Int32) < nI (n + 9) from nI_lt (a := 64) (by omega) (by omega))]
    obtain ⟨T, W, X, g⟩ := end17_spec (SL := SL) hA ht htn hts hto 2 (Or.inr rfl) n hn (by omega) I J hI
    refine ⟨T, W, X, ?_⟩
    rw [show (2 : Int32) = nI 2 from rfl, g]
    unfold dig
    simp only [if_neg h, show ¬ (2 : Nat) = 1 by decide, if_false]
end ShaC4
