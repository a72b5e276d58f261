-- P1: the digest of a text of n bytes (n <= 119), and the class's end()
def wordP (P : Nat → Int32) (p : Nat) : Int32 := (((xshl (P p) 24) ||| (xshl (P (p + 1)) 16)) ||| (xshl (P (p + 2)) 8)) ||| P (p + 3)
/-- the padded text -/
def padP (m : Nat → Int32) (n last : Nat) (i : Nat) : Int32 := if i < n then m i else if i = n then 128 else if i + 2 = last then nI (n / 32) else if i + 1 = last then nI (8 * n % 256) else 0
def dig (K F m : Nat → Int32) (n : Nat) : Nat → Int32 := if n ≤ 55 then comp K (fun j => wordP (padP m n 64) (4 * j)) F else comp K (fun j => wordP (padP m n 128) (64 + 4 * j)) (comp K (fun j => wordP (padP m n 128) (4 * j)) F)
theorem tail_hi : ∀ n, n < 120 → (vp_nar .byte ((xshr (nI n) 5).toInt8.toInt32)) &&& 255 = nI (n / 32) := by decide +kernel
theorem tail_lo : ∀ n, n < 120 → (vp_nar .byte ((xshl (nI n) 3).toInt8.toInt32)) &&& 255 = nI (8 * n % 256) := by decide +kernel
section ShaC3
variable {N SL : Nat} {S : Nat → Shp} {R : Nat → Nat → Option Nat} {s : Nat}
/-- what the loop that clears the text goes on with -/
def tailF (s to : Nat) (b : Int32) (last : Nat) (M : Mem) : Option (Unit × Mem) := fX6_end_42 1 s to b (nI last) (nI (last - 2)) M
theorem zero_loop (hA : ShaAt N S R s) (to : Nat) (b : Int32) (last : Nat) (hl : 2 ≤ last ∧ last ≤ 128) : ∀ (m k : Nat) (I : Nat → Nat → Int32) (J : Nat → Nat → Int64) (fuel : Nat), k + m = last - 2 → m < fuel →
    fX6_end_42 fuel s to b (nI last) (nI k) (N, SL, S, R, I, J) = tailF s to b last (N, SL, S, R, u1 I (s + 1) (fun i => if k ≤ i ∧ i < last - 2 then 0 else I (s + 1) i), J) := by
  obtain ⟨ho, h3, ⟨r0, r2, r3⟩, ⟨s1, s2, s3⟩, ⟨n1, q0, q1⟩⟩ := hA
  have hns : nS ≤ s + 1 := Nat.le_trans ho.2.1 (Nat.le_add_right _ _)
  have e2 : nI last - (2 : Int32) = nI (last - 2) := by rw [show (2 : Int32) = nI 2 from rfl, pk_sub (by omega)]
  intro m
  induction m with
  | zero =>
    intro k I J fuel hk hf
    obtain ⟨z, rfl⟩ : ∃ z, fuel = z + 1 := ⟨fuel - 1, by omega⟩
    have hk : k = last - 2 := by omega
    subst hk
    have e : (fun i => if last - 2 ≤ i ∧ i < last - 2 then (0 : Int32) else I (s + 1) i) = I (s + 1) := funext fun i => if_neg (by omega)
    rw [e, u1_self]
    unfold tailF
    rw [fX6_end_42, fX6_end_42, e2, if_pos (by first | exact Int32.le_refl _ | exact (nI_leI (by omega) (by omega)).mpr (Nat.le_refl _)), if_pos (by first | exact Int32.le_refl _ | exact (nI_leI (by omega) (by omega)).mpr (Nat.le_refl _))]
  | succ m ih =>
    intro k I J fuel hk hf
    obtain ⟨z, rfl⟩ : ∃ z, fuel = z + 1 := ⟨fuel - 1, by omega⟩
    rw [fX6_end_42, e2, if_neg (nI_lt_of (k := last - 2) (by omega) (by omega))]
    rw [gR_mk ho r0, wI_mk (by omega) hns s1 (by omega) (by decide), nI_1]
    rw [ih (k + 1) _ J z (by omega) (by omega)]
    refine congrArg (fun q => tailF s to b last (N, SL, S, R, q, J)) ?_
    rw [u2_row, u1_u1, u1_eq]
    refine congrArg (u1 I (s + 1)) (funext fun i => ?_)
    by_cases q1 : k + 1 ≤ i ∧ i < last - 2
    · rw [if_pos q1, if_pos ⟨by omega, q1.2⟩]
    · rw [if_neg q1]
      by_cases q2 : i = k
      · rw [if_pos q2, if_pos ⟨by omega, by omega⟩]; decide
      · rw [if_neg q2, if_neg (fun h => q1 ⟨by omega, h.2⟩)]
set_option maxHeartbeats 4000000 in
/-- behind the clearing: the length, FIRST, the blocks, the copy -/
theorem tail_spec (hA : ShaAt N S R s) {to : Nat} (ht : to < N) (htn : nS ≤ to) (hts : S to = .inl (.int, 8)) (hto : to ≠ s + 1 ∧ to ≠ s + 2 ∧ to ≠ s + 3) (nb : Nat) (hnb : nb = 1 ∨ nb = 2) (n : Nat) (hn : n < 120) (I : Nat → Nat → Int32) (J : Nat → Nat → Int64) (hI : I s 1 = nI n) :
    ∃ T W X : Nat → Int32, (∀ i, T i = if i + 2 = 64 * nb then vp_nar .byte ((xshr (nI n) 5).toInt8.toInt32) else if i + 1 = 64 * nb then vp_nar .byte ((xshl (nI n) 3).toInt8.toInt32) else I (s + 1) i) ∧
      tailF s to (nI nb) (64 * nb) (N, SL, S, R, I, J) = some ((), (N, SL, S, R, u1 (u1 (u1 (u1 I (s + 1) T) (s + 2) W) (s + 3) X) to (fun j => if j < 8 then (if nb = 1 then comp (I 1) (fun j => wordC T (4 * j)) (I 0) j else comp (I 1) (fun j => wordC T (64 + 4 * j)) (comp (I 1) (fun j => wordC T (4 * j)) (I 0)) j) else I to j), J)) := by
  have hA' := hA
  obtain ⟨ho, h3, ⟨r0, r2, r3⟩, ⟨s1, s2, s3⟩, ⟨n1, q0, q1⟩⟩ := hA
  have hns0 : nS ≤ s := ho.2.1
  have hnS : nS = 3 := rfl
  obtain ⟨hto1, hto2, hto3⟩ := hto
  have hL : 64 * nb < 2 ^ 31 ∧ 64 ≤ 64 * nb ∧ 64 * nb ≤ 128 := by rcases hnb with rfl | rfl <;> decide
  have e2 : nI (64 * nb) - (2 : Int32) = nI (64 * nb - 2) := by rw [show (2 : Int32) = nI 2 from rfl, pk_sub (by omega)]
  have e1 : nI (64 * nb) - (1 : Int32) = nI (64 * nb - 1) := by rw [show (1 : Int32) = nI 1 from rfl, pk_sub (by omega)]
  obtain ⟨T, hT⟩ : ∃ T : Nat → Int32, T = fun i => if i + 2 = 64 * nb then vp_nar .byte ((xshr (nI n) 5).toInt8.toInt32) else if i + 1 = 64 * nb then vp_nar .byte ((xshl (nI n) 3).toInt8.toInt32) else I (s + 1) i := ⟨_, rfl⟩
  have hrow : u2 (u2 I (s + 1) (64 * nb - 2) (vp_nar .byte ((xshr (nI n) 5).toInt8.toInt32))) (s + 1) (64 * nb - 1) (vp_nar .byte ((xshl (nI n) 3).toInt8.toInt32)) = u1 I (s + 1) T := by
    rw [u2_row, u2_row, u1_u1, u1_eq, hT]
    refine congrArg (u1 I (s + 1)) (funext fun i => ?_)
    by_cases z1 : i + 1 = 64 * nb
    · rw [if_pos (by omega), if_neg (by omega), if_pos z1]
    · rw [if_neg (by omega), if_neg z1]
      by_cases z2 : i + 2 = 64 * nb
      · rw [if_pos (by omega), if_pos z2]
      · rw [if_neg (by omega), if_neg z2]
  have es : ∀ x, u2 I (s + 1) (64 * nb - 2) x s = I s := fun x => u2_ne (by omega)
  have hstart : tailF s to (nI nb) (64 * nb) (N, SL, S, R, I, J) = fX6_end_107 FU s to (nI nb) (nI 0) (N, SL, S, R, u1 (u1 I (s + 1) T) (s + 3) (fun j => if j < 8 then I 0 j else I (s + 3) j), J) := by
    unfold tailF
    rw [fX6_end_42, e2, e1, if_pos (by first | exact Int32.le_refl _ | exact (nI_leI (by omega) (by omega)).mpr (Nat.le_refl _))]
    rw [gR_mk ho r0, gI_mk ho, wI_mk (by omega) (by omega) s1 (by omega) (by decide), gR_mk ho r0, gI_mk ho, wI_mk (by omega) (by omega) s1 (by omega) (by decide), gR_mk ho r3]
    rw [es, hI, hrow]
    rw [copy_spec (by omega) q0 h3 (by omega) s3 (by omega), bd_some]
    rw [u1_ne (show (0 : Nat) ≠ s + 1 by omega), u1_ne (show s + 3 ≠ s + 1 by omega)]
    rfl
  generalize hI2 : u1 (u1 I (s + 1) T) (s + 3) (fun j => if j < 8 then I 0 j else I (s + 3) j) = I2 at hstart
  have i1 : I2 1 = I 1 := by rw [← hI2, u1_ne (by omega), u1_ne (by omega)]
  have it : I2 (s + 1) = T := by rw [← hI2, u1_ne (by omega), u1_eq]
  have ih : ∀ j, j < 8 → I2 (s + 3) j = I 0 j := fun j hj => by rw [← hI2, u1_eq]; exact if_pos hj
  have hz : (64 : Int32) = nI 64 := rfl
  obtain ⟨w1, g1, x1, g2, g3⟩ := block_spec (SL := SL) hA' 0 (by omega) I2 J
  have hb1 : ∀ z, fX6_end_107 (z + 1) s to (nI nb) (nI 0) (N, SL, S, R, I2, J) = fX6_end_107 z s to (nI nb) (nI 1) (N, SL, S, R, u1 (u1 I2 (s + 2) w1) (s + 3) x1, J) := fun z => by
    rw [fX6_end_107, if_neg (nI_lt_of (k := nb) (by rcases hnb with rfl | rfl <;> decide) (by rcases hnb with rfl | rfl <;> decide))]
    rw [show nI 0 * (64 : Int32) = nI 0 from rfl, cV_mk ho, g1, bd_some, cV_mk ho, g2, bd_some, nI_1]
  have c1 : ∀ i, i < 8 → x1 i = comp (I 1) (fun j => wordC T (4 * j)) (I 0) i := fun i hi => by
    rw [g3 i hi, i1, it]
    exact comp_ext (fun _ _ => rfl) (fun j _ => by rw [Nat.zero_add]) ih i hi
  rcases hnb with rfl | rfl
  · refine ⟨T, w1, x1, fun i => by rw [hT], ?_⟩
    rw [hstart, show FU = (999998 + 1) + 1 from rfl, hb1, fX6_end_107, if_pos (by decide), gR_mk ho r3, copy_spec (by omega) s3 ht htn hts (by omega), bd_some]
    refine congrArg (fun z => some ((), (N, SL, S, R, z, J))) ?_
    have e5 : u1 (u1 I2 (s + 2) w1) (s + 3) x1 = u1 (u1 (u1 I (s + 1) T) (s + 2) w1) (s + 3) x1 := by
      rw [← hI2]
      funext c'
      unfold u1
      by_cases y1 : c' = s + 3 <;> by_cases y2 : c' = s + 2 <;> simp [y1, y2]
    rw [e5]
    refine congrArg (u1 (u1 (u1 (u1 I (s + 1) T) (s + 2) w1) (s + 3) x1) to) (funext fun j => ?_)
    by_cases y : j < 8
    · rw [if_pos y, if_pos y, u1_eq, if_pos rfl, c1 j y]
    · rw [if_neg y, if_neg y, u1_ne hto3, u1_ne hto2, u1_ne hto1]
  · obtain ⟨w2, k1, x2, k2, k3⟩ := block_spec (SL := SL) hA' 64 (by omega) (u1 (u1 I2 (s + 2) w1) (s + 3) x1) J
    have j1 : u1 (u1 I2 (s + 2) w1) (s + 3) x1 1 = I 1 := by rw [u1_ne (by omega), u1_ne (by omega), i1]
    have jt : u1 (u1 I2 (s + 2) w1) (s + 3) x1 (s + 1) = T := by rw [u1_ne (by omega), u1_ne (by omega), it]
    have c2 : ∀ i, i < 8 → x2 i = comp (I 1) (fun j => wordC T (64 + 4 * j)) (comp (I 1) (fun j => wordC T (4 * j)) (I 0)) i := fun i hi => by
      rw [k3 i hi, j1, jt]
      exact comp_ext (fun _ _ => rfl) (fun j _ => rfl) (fun j hj => by rw [u1_eq]; exact c1 j hj) i hi
    refine ⟨T, w2, x2, fun i => by rw [hT], ?_⟩
    rw [hstart, show FU = ((999997 + 1) + 1) + 1 from rfl, hb1, fX6_end_107, if_neg (by decide)]
    rw [show nI 1 * (64 : Int32) = nI 64 from rfl, cV_mk ho, k1, bd_some, cV_mk ho, k2, bd_some, nI_1, fX6_end_107, if_pos (by decide), gR_mk ho r3, copy_spec (by omega) s3 ht htn hts (by omega), bd_some]
    refine congrArg (fun z => some ((), (N, SL, S, R, z, J))) ?_
    have e5 : u1 (u1 (u1 (u1 I2 (s + 2) w1) (s + 3) x1) (s + 2) w2) (s + 3) x2 = u1 (u1 (u1 I (s + 1) T) (s + 2) w2) (s + 3) x2 := by
      rw [← hI2]
      funext c'
      unfold u1
      by_cases y1 : c' = s + 3 <;> by_cases y2 : c' = s + 2 <;> simp [y1, y2]
    rw [e5]
    refine congrArg (u1 (u1 (u1 (u1 I (s + 1) T) (s + 2) w2) (s + 3) x2) to) (funext fun j => ?_)
    by_cases y : j < 8
    · rw [if_pos y, if_pos y, u1_eq, if_neg (by decide), c2 j y]
    · rw [if_neg y, if_neg y, u1_ne hto3, u1_ne hto2, u1_ne hto1]
end ShaC3
