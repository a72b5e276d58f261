-- P1, class: the schedule whole, copies of hashes
def wordC (t : Nat → Int32) (p : Nat) : Int32 := (((xshl (t p &&& 255) 24) ||| (xshl (t (p + 1) &&& 255) 16)) ||| (xshl (t (p + 2) &&& 255) 8)) ||| (t (p + 3) &&& 255)
section ShaC2
variable {N SL : Nat} {S : Nat → Shp} {R : Nat → Nat → Option Nat} {s : Nat}
set_option maxHeartbeats 4000000 in
theorem read_loop (hA : ShaAt N S R s) (f : Nat) (hf64 : f + 64 ≤ 128) : ∀ (m k : Nat) (I : Nat → Nat → Int32) (J : Nat → Nat → Int64) (fuel : Nat), k + m = 16 → m < fuel → (∀ j, j < k → I (s + 2) j = wordC (I (s + 1)) (f + 4 * j)) →
    ∃ row : Nat → Int32, fX6_readSchedule_2 fuel s (nI f) (nI k) (N, SL, S, R, I, J) = some ((), (N, SL, S, R, u1 I (s + 2) row, J)) ∧ ∀ j, j < 64 → row j = sch (fun j => wordC (I (s + 1)) (f + 4 * j)) 48 j := by
  have hA' := hA
  obtain ⟨ho, h3, ⟨r0, r2, r3⟩, ⟨s1, s2, s3⟩, ⟨n1, q0, q1⟩⟩ := hA
  have hns : nS ≤ s + 2 := Nat.le_trans ho.2.1 (Nat.le_add_right _ _)
  intro m
  induction m with
  | zero =>
    intro k I J fuel hk hf hI
    obtain ⟨z, rfl⟩ : ∃ z, fuel = z + 1 := ⟨fuel - 1, by omega⟩
    have hk : k = 16 := by omega
    subst hk
    rw [fX6_readSchedule_2, if_pos (by decide)]
    exact sched_loop hA' _ 48 0 I J FU rfl (by decide) (fun j hj => hI j (by omega))
  | succ m ih =>
    intro k I J fuel hk hf hI
    obtain ⟨z, rfl⟩ : ∃ z, fuel = z + 1 := ⟨fuel - 1, by omega⟩
    have e0 : nI f + (4 : Int32) * nI k = nI (f + 4 * k) := by rw [show (4 : Int32) = nI 4 from rfl, pk_mul, nI_add]
    have e1 : nI (f + 4 * k) + (1 : Int32) = nI (f + 4 * k + 1) := nI_1 _
    have e2 : nI (f + 4 * k) + (2 : Int32) = nI (f + 4 * k + 2) := by rw [show (2 : Int32) = nI 2 from rfl, nI_add]
    have e3 : nI (f + 4 * k) + (3 : Int32) = nI (f + 4 * k + 3) := by rw [show (3 : Int32) = nI 3 from rfl, nI_add]
    rw [fX6_readSchedule_2, if_neg (show ¬ (16 : Int32) ≤ nI k from nI_lt_of (k := 16) (by decide) (by omega))]
    rw [e0, e1, e2, e3, nI_1 k]
    rw [gR_mk ho r2, gR_mk ho r0, rI_mk (by omega) s1 (by omega) (by decide), gR_mk ho r0, rI_mk (by omega) s1 (by omega) (by decide), gR_mk ho r0, rI_mk (by omega) s1 (by omega) (by decide), gR_mk ho r0, rI_mk (by omega) s1 (by omega) (by decide), wI_mk (by omega) hns s2 (by omega) (by decide), vp_narI]
    have e9 : u2 I (s + 2) k (wordC (I (s + 1)) (f + 4 * k)) (s + 1) = I (s + 1) := u2_ne (by omega)
    obtain ⟨row, g1, g2⟩ := ih (k + 1) (u2 I (s + 2) k (wordC (I (s + 1)) (f + 4 * k))) J z (by omega) (by omega) (fun j hj => by
      rw [e9, u2_row, u1_eq]
      show (if j = k then _ else I (s + 2) j) = _
      by_cases q : j = k
      · rw [if_pos q, q]
      · rw [if_neg q, hI j (by omega)])
    rw [e9] at g2
    refine ⟨row, ?_, g2⟩
    rw [show u1 I (s + 2) row = u1 (u2 I (s + 2) k (wordC (I (s + 1)) (f + 4 * k))) (s + 2) row by rw [u2_row, u1_u1]]
    exact g1
/-- a block: readSchedule(from), mix() -/
theorem block_spec (hA : ShaAt N S R s) (f : Nat) (hf64 : f + 64 ≤ 128) (I : Nat → Nat → Int32) (J : Nat → Nat → Int64) :
    ∃ row : Nat → Int32, fX6_readSchedule s (nI f) (N, SL, S, R, I, J) = some ((), (N, SL, S, R, u1 I (s + 2) row, J)) ∧
      ∃ r2 : Nat → Int32, fX6_mix s (N, SL, S, R, u1 I (s + 2) row, J) = some ((), (N, SL, S, R, u1 (u1 I (s + 2) row) (s + 3) r2, J)) ∧ ∀ i, i < 8 → r2 i = comp (I 1) (fun j => wordC (I (s + 1)) (f + 4 * j)) (I (s + 3)) i := by
  obtain ⟨row, g1, g2⟩ := read_loop (SL := SL) hA f hf64 16 0 I J FU rfl (by decide) (fun j hj => absurd hj (by omega))
  refine ⟨row, g1, _, mix_spec hA _ _, fun i hi => ?_⟩
  have e3 : u1 I (s + 2) row (s + 3) = I (s + 3) := u1_ne (by omega)
  have e1 : u1 I (s + 2) row 1 = I 1 := u1_ne (by have := hA.1.2.1; have h : nS = 3 := rfl; omega)
  rw [e3, e1, u1_eq]
  unfold comp
  rw [if_pos hi, if_pos hi, rds_ext 64 0 (v8 (I (s + 3))) (fun j _ h2 => ⟨rfl, g2 j (by omega)⟩)]
/-- copyHash(from, to): eight words -/
theorem copy_loop {a d : Nat} (ha : a < N) (hsa : S a = .inl (.int, 8)) (hd : d < N) (hnd : nS ≤ d) (hsd : S d = .inl (.int, 8)) (had : a ≠ d) (r : Nat → Int32) : ∀ (m k : Nat) (I : Nat → Nat → Int32) (J : Nat → Nat → Int64) (fuel : Nat), k + m = 8 → m < fuel → (∀ j, I d j = if j < k then I a j else r j) →
    fX8_copyHash_2 fuel a d (nI k) (N, SL, S, R, I, J) = some ((), (N, SL, S, R, u1 I d (fun j => if j < 8 then I a j else r j), J)) := by
  intro m
  induction m with
  | zero =>
    intro k I J fuel hk hf hI
    obtain ⟨z, rfl⟩ : ∃ z, fuel = z + 1 := ⟨fuel - 1, by omega⟩
    have hk : k = 8 := by omega
    subst hk
    rw [fX8_copyHash_2, if_pos (by decide)]
    have e : (fun j => if j < 8 then I a j else r j) = I d := (funext hI).symm
    rw [e, u1_self]
  | succ m ih =>
    intro k I J fuel hk hf hI
    obtain ⟨z, rfl⟩ : ∃ z, fuel = z + 1 := ⟨fuel - 1, by omega⟩
    rw [fX8_copyHash_2, if_neg (show ¬ (8 : Int32) ≤ nI k from nI_lt_of (k := 8) (by decide) (by omega))]
    rw [rI_mk ha hsa (by omega) (by decide), wI_mk hd hnd hsd (by omega) (by decide), vp_narI, nI_1]
    have ea : u2 I d k (I a k) a = I a := u2_ne had
    have g := ih (k + 1) (u2 I d k (I a k)) J z (by omega) (by omega) (fun j => by
      rw [ea, u2_row, u1_eq]
      show (if j = k then _ else I d j) = _
      by_cases q : j = k
      · rw [if_pos q, if_pos (by omega), q]
      · rw [if_neg q, hI j]
        by_cases q2 : j < k
        · rw [if_pos q2, if_pos (by omega)]
        · rw [if_neg q2, if_neg (by omega)])
    rw [g, ea, u2_row, u1_u1]
theorem copy_spec {a d : Nat} (ha : a < N) (hsa : S a = .inl (.int, 8)) (hd : d < N) (hnd : nS ≤ d) (hsd : S d = .inl (.int, 8)) (had : a ≠ d) (I : Nat → Nat → Int32) (J : Nat → Nat → Int64) : fX8_copyHash a d (N, SL, S, R, I, J) = some ((), (N, SL, S, R, u1 I d (fun j => if j < 8 then I a j else I d j), J)) :=
  copy_loop ha hsa hd hnd hsd had (I d) 8 0 I J FU rfl (by decide) (fun j => by rw [if_neg (by omega)])
end ShaC2
