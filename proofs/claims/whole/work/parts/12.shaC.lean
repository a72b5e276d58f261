-- P1, class: the Sha object at s (text s + 1, schedule s + 2, state s + 3)
def ShaAt (N : Nat) (S : Nat → Shp) (R : Nat → Nat → Option Nat) (s : Nat) : Prop := Ob N S s 6 ∧ s + 3 < N ∧ (R s 0 = some (s + 1) ∧ R s 2 = some (s + 2) ∧ R s 3 = some (s + 3)) ∧ (S (s + 1) = .inl (.byte, 128) ∧ S (s + 2) = .inl (.int, 64) ∧ S (s + 3) = .inl (.int, 8)) ∧ (1 < N ∧ S 0 = .inl (.int, 8) ∧ S 1 = .inl (.int, 64))
section ShaC
variable {N SL : Nat} {S : Nat → Shp} {R : Nat → Nat → Option Nat} {s : Nat}
theorem nI_lt_of {k t : Nat} (hk : k < 2 ^ 31) (ht : t < k) : ¬ nI k ≤ nI t := fun h => absurd ((nI_leI hk (by omega)).mp h) (by omega)
set_option maxHeartbeats 4000000 in
theorem mix_loop (hA : ShaAt N S R s) : ∀ (m t : Nat) (a b c d e f g h : Int32) (I : Nat → Nat → Int32) (J : Nat → Nat → Int64) (fuel : Nat), t + m = 64 → m < fuel →
    fX6_mix_66 fuel s a b c d e f g h (nI t) (N, SL, S, R, I, J) = some ((), (N, SL, S, R, u1 I (s + 3) (fun i => if i < 8 then I (s + 3) i + at8 (rds (I 1) (I (s + 2)) t m (a, b, c, d, e, f, g, h)) i else I (s + 3) i), J)) := by
  obtain ⟨ho, h3, ⟨r0, r2, r3⟩, ⟨s1, s2, s3⟩, ⟨n1, q0, q1⟩⟩ := hA
  have hns : nS ≤ s + 3 := Nat.le_trans ho.2.1 (Nat.le_add_right _ _)
  intro m
  induction m with
  | zero =>
    intro t a b c d e f g h I J fuel ht hf
    obtain ⟨k, rfl⟩ : ∃ k, fuel = k + 1 := ⟨fuel - 1, by omega⟩
    have ht : t = 64 := by omega
    subst ht
    rw [fX6_mix_66, if_pos (by decide)]
    rw [gR_mk ho r3, show (0 : Int32) = nI 0 from rfl, rI_mk h3 s3 (by decide) (by decide), wI_mk h3 hns s3 (by decide) (by decide)]
    rw [gR_mk ho r3, show (1 : Int32) = nI 1 from rfl, rI_mk h3 s3 (by decide) (by decide), wI_mk h3 hns s3 (by decide) (by decide)]
    rw [gR_mk ho r3, show (2 : Int32) = nI 2 from rfl, rI_mk h3 s3 (by decide) (by decide), wI_mk h3 hns s3 (by decide) (by decide)]
    rw [gR_mk ho r3, show (3 : Int32) = nI 3 from rfl, rI_mk h3 s3 (by decide) (by decide), wI_mk h3 hns s3 (by decide) (by decide)]
    rw [gR_mk ho r3, show (4 : Int32) = nI 4 from rfl, rI_mk h3 s3 (by decide) (by decide), wI_mk h3 hns s3 (by decide) (by decide)]
    rw [gR_mk ho r3, show (5 : Int32) = nI 5 from rfl, rI_mk h3 s3 (by decide) (by decide), wI_mk h3 hns s3 (by decide) (by decide)]
    rw [gR_mk ho r3, show (6 : Int32) = nI 6 from rfl, rI_mk h3 s3 (by decide) (by decide), wI_mk h3 hns s3 (by decide) (by decide)]
    rw [gR_mk ho r3, show (7 : Int32) = nI 7 from rfl, rI_mk h3 s3 (by decide) (by decide), wI_mk h3 hns s3 (by decide) (by decide)]
    simp only [vp_narI]
    refine congrArg (fun z => some ((), (N, SL, S, R, z, J))) ?_
    funext c' i
    unfold u1
    by_cases hc : c' = s + 3
    · subst hc
      rw [if_pos rfl]
      show _ = (if i < 8 then I (s + 3) i + at8 (a, b, c, d, e, f, g, h) i else I (s + 3) i)
      match i with
      | 0 => simp [u2, at8]
      | 1 => simp [u2, at8]
      | 2 => simp [u2, at8]
      | 3 => simp [u2, at8]
      | 4 => simp [u2, at8]
      | 5 => simp [u2, at8]
      | 6 => simp [u2, at8]
      | 7 => simp [u2, at8]
      | i + 8 => rw [if_neg (by omega)]; simp [u2]
    · rw [if_neg hc]
      simp [u2, hc]
  | succ m ih =>
    intro t a b c d e f g h I J fuel ht hf
    obtain ⟨k, rfl⟩ : ∃ k, fuel = k + 1 := ⟨fuel - 1, by omega⟩
    rw [fX6_mix_66, if_neg (show ¬ (64 : Int32) ≤ nI t from nI_lt_of (k := 64) (by decide) (by omega))]
    rw [rI_mk n1 q1 (by omega) (by decide), gR_mk ho r2, rI_mk (by omega) s2 (by omega) (by decide), nI_1]
    exact ih (t + 1) _ _ _ _ _ _ _ _ I J k (by omega) (by omega)
set_option maxHeartbeats 4000000 in
/-- mix(): the rounds over the schedule, added to the state -/
theorem mix_spec (hA : ShaAt N S R s) (I : Nat → Nat → Int32) (J : Nat → Nat → Int64) : fX6_mix s (N, SL, S, R, I, J) = some ((), (N, SL, S, R, u1 I (s + 3) (fun i => if i < 8 then I (s + 3) i + at8 (rds (I 1) (I (s + 2)) 0 64 (v8 (I (s + 3)))) i else I (s + 3) i), J)) := by
  have hA' := hA
  obtain ⟨ho, h3, ⟨r0, r2, r3⟩, ⟨s1, s2, s3⟩, ⟨n1, q0, q1⟩⟩ := hA
  unfold fX6_mix
  rw [gR_mk ho r3, show (0 : Int32) = nI 0 from rfl, rI_mk h3 s3 (by decide) (by decide)]
  rw [gR_mk ho r3, show (1 : Int32) = nI 1 from rfl, rI_mk h3 s3 (by decide) (by decide)]
  rw [gR_mk ho r3, show (2 : Int32) = nI 2 from rfl, rI_mk h3 s3 (by decide) (by decide)]
  rw [gR_mk ho r3, show (3 : Int32) = nI 3 from rfl, rI_mk h3 s3 (by decide) (by decide)]
  rw [gR_mk ho r3, show (4 : Int32) = nI 4 from rfl, rI_mk h3 s3 (by decide) (by decide)]
  rw [gR_mk ho r3, show (5 : Int32) = nI 5 from rfl, rI_mk h3 s3 (by decide) (by decide)]
  rw [gR_mk ho r3, show (6 : Int32) = nI 6 from rfl, rI_mk h3 s3 (by decide) (by decide)]
  rw [gR_mk ho r3, show (7 : Int32) = nI 7 from rfl, rI_mk h3 s3 (by decide) (by decide)]
  exact mix_loop hA' 64 0 _ _ _ _ _ _ _ _ I J FU rfl (by decide)
set_option maxHeartbeats 4000000 in
/-- the schedule's second loop -/
theorem sched_loop (hA : ShaAt N S R s) (w : Nat → Int32) : ∀ (m k : Nat) (I : Nat → Nat → Int32) (J : Nat → Nat → Int64) (fuel : Nat), k + m = 48 → m < fuel → (∀ j, j < 16 + k → I (s + 2) j = sch w k j) →
    ∃ row : Nat → Int32, fX6_readSchedule_87 fuel s (nI (16 + k)) (N, SL, S, R, I, J) = some ((), (N, SL, S, R, u1 I (s + 2) row, J)) ∧ ∀ j, j < 64 → row j = sch w 48 j := by
  obtain ⟨ho, h3, ⟨r0, r2, r3⟩, ⟨s1, s2, s3⟩, ⟨n1, q0, q1⟩⟩ := hA
  have hns : nS ≤ s + 2 := Nat.le_trans ho.2.1 (Nat.le_add_right _ _)
  intro m
  induction m with
  | zero =>
    intro k I J fuel hk hf hI
    obtain ⟨z, rfl⟩ : ∃ z, fuel = z + 1 := ⟨fuel - 1, by omega⟩
    have hk : k = 48 := by omega
    subst hk
    refine ⟨I (s + 2), ?_, fun j hj => hI j hj⟩
    rw [fX6_readSchedule_87, if_pos (by decide), u1_self]
  | succ m ih =>
    intro k I J fuel hk hf hI
    obtain ⟨z, rfl⟩ : ∃ z, fuel = z + 1 := ⟨fuel - 1, by omega⟩
    have e15 : nI (16 + k) - (15 : Int32) = nI (k + 1) := by rw [show (15 : Int32) = nI 15 from rfl, pk_sub (by omega)]; congr 1; omega
    have e2 : nI (16 + k) - (2 : Int32) = nI (k + 14) := by rw [show (2 : Int32) = nI 2 from rfl, pk_sub (by omega)]; congr 1; omega
    have e16 : nI (16 + k) - (16 : Int32) = nI k := by rw [show (16 : Int32) = nI 16 from rfl, pk_sub (by omega)]; congr 1; omega
    have e7 : nI (16 + k) - (7 : Int32) = nI (k + 9) := by rw [show (7 : Int32) = nI 7 from rfl, pk_sub (by omega)]; congr 1; omega
    rw [fX6_readSchedule_87, if_neg (show ¬ (64 : Int32) ≤ nI (16 + k) from nI_lt_of (k := 64) (by decide) (by omega))]
    rw [e15, e2, e16, e7, nI_1]
    rw [gR_mk ho r2, rI_mk (by omega) s2 (by omega) (by decide), gR_mk ho r2, rI_mk (by omega) s2 (by omega) (by decide), gR_mk ho r2, gR_mk ho r2, rI_mk (by omega) s2 (by omega) (by decide), gR_mk ho r2, rI_mk (by omega) s2 (by omega) (by decide), wI_mk (by omega) hns s2 (by omega) (by decide), vp_narI]
    obtain ⟨row, g1, g2⟩ := ih (k + 1) (u2 I (s + 2) (16 + k) (((I (s + 2) k + I (s + 2) (k + 9)) + sgA (I (s + 2) (k + 1))) + sgB (I (s + 2) (k + 14)))) J z (by omega) (by omega) (fun j hj => by
      rw [u2_row, u1_eq]
      show (if j = 16 + k then _ else I (s + 2) j) = (if j = 16 + k then _ else sch w k j)
      by_cases q : j = 16 + k
      · rw [if_pos q, if_pos q, hI k (by omega), hI (k + 9) (by omega), hI (k + 1) (by omega), hI (k + 14) (by omega)]
      · rw [if_neg q, if_neg q, hI j (by omega)])
    refine ⟨row, ?_, g2⟩
    rw [show u1 I (s + 2) row = u1 (u2 I (s + 2) (16 + k) (((I (s + 2) k + I (s + 2) (k + 9)) + sgA (I (s + 2) (k + 1))) + sgB (I (s + 2) (k + 14)))) (s + 2) row by rw [u2_row, u1_u1]]
    exact g1
end ShaC
