-- P6, reference: leads
section LeadsM
variable {N SL : Nat} {S : Nat → Shp} {R : Nat → Nat → Option Nat}
/-- the first 32 bytes of a join: (left ? the step : of) -/
theorem bes1_loop (hA : MdAt N S R 759) (I : Nat → Nat → Int32) (J : Nat → Nat → Int64) (r : Nat) (hr : r < N) (hsr : S r = .inl (.int, 32)) (h1 : r ≠ 759) (h2 : r ≠ 759 + 32) (s : Nat) (hs : s < 32) (left : Bool) : ∀ (q b : Nat) (R0 : Nat → Int32) (k fuel : Nat), b + q = 32 → q < fuel → k + q ≤ 256 →
    fX9_beside_8 fuel 759 r (nI s) (bI left) (nI b) (N, SL, S, R, smI I 759 R0 k, J) = fX9_beside_51 FU 759 r (nI s) (bI left) (nI 0) (N, SL, S, R, smI I 759 (fun j => if k ≤ j ∧ j < k + q then (if left = true then I 801 (32 * s + (b + (j - k))) else I r (b + (j - k))) else R0 j) (k + q), J) := by
  intro q
  induction q with
  | zero =>
    intro b R0 k fuel hb hf hk
    obtain ⟨y, rfl⟩ : ∃ y, fuel = y + 1 := ⟨fuel - 1, by omega⟩
    have hb : b = 32 := by omega
    subst hb
    rw [fX9_beside_8, if_pos (by decide)]
    have e1 : (fun j => if k ≤ j ∧ j < k + 0 then (if left = true then I 801 (32 * s + (32 + (j - k))) else I r (32 + (j - k))) else R0 j) = R0 := funext fun j => if_neg (by omega)
    rw [e1]
    rfl
  | succ q ih =>
    intro b R0 k fuel hb hf hk
    obtain ⟨y, rfl⟩ : ∃ y, fuel = y + 1 := ⟨fuel - 1, by omega⟩
    have fin : ∀ x : Int32, x = (if left = true then I 801 (32 * s + b) else I r b) → fX9_beside_39 (fX9_beside_8 y) 759 r (nI s) (bI left) (nI b) x 759 (N, SL, S, R, smI I 759 R0 k, J) = fX9_beside_51 FU 759 r (nI s) (bI left) (nI 0) (N, SL, S, R, smI I 759 (fun j => if k ≤ j ∧ j < k + (q + 1) then (if left = true then I 801 (32 * s + (b + (j - k))) else I r (b + (j - k))) else R0 j) (k + (q + 1)), J) := by
      intro x hx
      unfold fX9_beside_39
      rw [md_o hA, says_sm hA I J R0 k (by omega), bd_some, nI_1, ih (b + 1) _ (k + 1) y (by omega) (by omega) (by omega), show k + 1 + q = k + (q + 1) by omega]
      refine congrArg (fun w => fX9_beside_51 FU 759 r (nI s) (bI left) (nI 0) (N, SL, S, R, smI I 759 w (k + (q + 1)), J)) (funext fun j => ?_)
      by_cases q1 : k + 1 ≤ j ∧ j < k + (q + 1)
      · rw [if_pos q1, if_pos (show k ≤ j ∧ j < k + (q + 1) from ⟨by omega, by omega⟩), show b + 1 + (j - (k + 1)) = b + (j - k) by omega]
      · rw [if_neg q1]
        by_cases q2 : j = k
        · rw [if_pos q2, if_pos (show k ≤ j ∧ j < k + (q + 1) from ⟨by omega, by omega⟩), show b + (j - k) = b by omega, hx]
        · rw [if_neg q2, if_neg (show ¬ (k ≤ j ∧ j < k + (q + 1)) from fun h => q1 ⟨by omega, by omega⟩)]
    rw [fX9_beside_8, if_neg (show ¬ (32 : Int32) ≤ nI b from nI_lt_of (k := 32) (by decide) (by omega))]
    cases left with
    | false =>
      rw [if_pos (show bI false = 0 from rfl), rI_mk hr hsr (by omega) (by decide), sm_ne h1 h2]
      exact fin _ (if_neg (fun q => by cases q)).symm
    | true =>
      rw [if_neg (show ¬ bI true = 0 by decide), md_f56 hA, show (32 : Int32) = nI 32 from rfl, nI_mul, nI_add, md_r42 hA (by omega), sm_ne (by omega) (by omega)]
      exact fin _ (if_pos rfl).symm
theorem bes2_loop (hA : MdAt N S R 759) (I : Nat → Nat → Int32) (J : Nat → Nat → Int64) (r : Nat) (hr : r < N) (hsr : S r = .inl (.int, 32)) (h1 : r ≠ 759) (h2 : r ≠ 759 + 32) (s : Nat) (hs : s < 32) (left : Bool) : ∀ (q b : Nat) (R0 : Nat → Int32) (k fuel : Nat), b + q = 32 → q < fuel → k + q ≤ 256 →
    fX9_beside_51 fuel 759 r (nI s) (bI left) (nI b) (N, SL, S, R, smI I 759 R0 k, J) = (cV (N, SL, S, R, smI I 759 (fun j => if k ≤ j ∧ j < k + q then (if left = true then I r (b + (j - k)) else I 801 (32 * s + (b + (j - k)))) else R0 j) (k + q), J) 9 759 (fX9_sum 759 (N, SL, S, R, smI I 759 (fun j => if k ≤ j ∧ j < k + q then (if left = true then I r (b + (j - k)) else I 801 (32 * s + (b + (j - k)))) else R0 j) (k + q), J)) fun _u2 M1 => fX9_beside_98 FU 759 r (0 : Int32) M1) := by
  intro q
  induction q with
  | zero =>
    intro b R0 k fuel hb hf hk
    obtain ⟨y, rfl⟩ : ∃ y, fuel = y + 1 := ⟨fuel - 1, by omega⟩
    have hb : b = 32 := by omega
    subst hb
    have e1 : (fun j => if k ≤ j ∧ j < k + 0 then (if left = true then I r (32 + (j - k)) else I 801 (32 * s + (32 + (j - k)))) else R0 j) = R0 := funext fun j => if_neg (by omega)
    rw [fX9_beside_51, if_pos (by decide), e1]
    rfl
  | succ q ih =>
    intro b R0 k fuel hb hf hk
    obtain ⟨y, rfl⟩ : ∃ y, fuel = y + 1 := ⟨fuel - 1, by omega⟩
    have ef : ∀ x : Int32, x = (if left = true then I r b else I 801 (32 * s + b)) → (fun j => if k + 1 ≤ j ∧ j < k + 1 + q then (if left = true then I r (b + 1 + (j - (k + 1))) else I 801 (32 * s + (b + 1 + (j - (k + 1))))) else if j = k then x else R0 j) = (fun j => if k ≤ j ∧ j < k + (q + 1) then (if left = true then I r (b + (j - k)) else I 801 (32 * s + (b + (j - k)))) else R0 j) := by
      intro x hx
      funext j
      by_cases q1 : k + 1 ≤ j ∧ j < k + 1 + q
      · rw [if_pos q1, if_pos (show k ≤ j ∧ j < k + (q + 1) from ⟨by omega, by omega⟩), show b + 1 + (j - (k + 1)) = b + (j - k) by omega]
      · rw [if_neg q1]
        by_cases q2 : j = k
        · rw [if_pos q2, if_pos (show k ≤ j ∧ j < k + (q + 1) from ⟨by omega, by omega⟩), show b + (j - k) = b by omega, hx]
        · rw [if_neg q2, if_neg (show ¬ (k ≤ j ∧ j < k + (q + 1)) from fun h => q1 ⟨by omega, by omega⟩)]
    have fin : ∀ x : Int32, x = (if left = true then I r b else I 801 (32 * s + b)) → fX9_beside_82 (fX9_beside_51 y) 759 r (nI s) (bI left) (nI b) x 759 (N, SL, S, R, smI I 759 R0 k, J) = (cV (N, SL, S, R, smI I 759 (fun j => if k ≤ j ∧ j < k + (q + 1) then (if left = true then I r (b + (j - k)) else I 801 (32 * s + (b + (j - k)))) else R0 j) (k + (q + 1)), J) 9 759 (fX9_sum 759 (N, SL, S, R, smI I 759 (fun j => if k ≤ j ∧ j < k + (q + 1) then (if left = true then I r (b + (j - k)) else I 801 (32 * s + (b + (j - k)))) else R0 j) (k + (q + 1)), J)) fun _u2 M1 => fX9_beside_98 FU 759 r (0 : Int32) M1) := by
      intro x hx
      unfold fX9_beside_82
      rw [md_o hA, says_sm hA I J R0 k (by omega), bd_some, nI_1, ih (b + 1) _ (k + 1) y (by omega) (by omega) (by omega), ef x hx, show k + 1 + q = k + (q + 1) by omega]
    rw [fX9_beside_51, if_neg (show ¬ (32 : Int32) ≤ nI b from nI_lt_of (k := 32) (by decide) (by omega))]
    cases left with
    | false =>
      rw [if_pos (show bI false = 0 from rfl), md_f56 hA, show (32 : Int32) = nI 32 from rfl, nI_mul, nI_add, md_r42 hA (by omega), sm_ne (by omega) (by omega)]
      exact fin _ (if_neg (fun q => by cases q)).symm
    | true =>
      rw [if_neg (show ¬ bI true = 0 by decide), rI_mk hr hsr (by omega) (by decide), sm_ne h1 h2]
      exact fin _ (if_pos rfl).symm
theorem bes3_loop (hA : MdAt N S R 759) (J : Nat → Nat → Int64) (r : Nat) (hr : r < N) (hrn : nS ≤ r) (hsr : S r = .inl (.int, 32)) (h3 : r ≠ 794) (H : Nat → Int32) : ∀ (q b fuel : Nat) (I : Nat → Nat → Int32), b + q = 32 → q < fuel → (∀ j, j < 32 → I 794 j = hb H j) → (∀ j, j < b → I r j = hb H j) →
    ∃ I' : Nat → Nat → Int32, fX9_beside_98 fuel 759 r (nI b) (N, SL, S, R, I, J) = some ((), (N, SL, S, R, I', J)) ∧ (∀ c, c ≠ r → I' c = I c) ∧ ∀ j, j < 32 → I' r j = hb H j
  | 0, b, fuel, I, hb', hf, hh, hd => by
    obtain ⟨y, rfl⟩ : ∃ y, fuel = y + 1 := ⟨fuel - 1, by omega⟩
    have : b = 32 := by omega
    subst this
    exact ⟨I, by rw [fX9_beside_98, if_pos (by decide)], fun _ _ => rfl, hd⟩
  | q + 1, b, fuel, I, hb', hf, hh, hd => by
    obtain ⟨y, rfl⟩ : ∃ y, fuel = y + 1 := ⟨fuel - 1, by omega⟩
    obtain ⟨I', g1, g2, g3⟩ := bes3_loop hA J r hr hrn hsr h3 H q (b + 1) y (u2 I r b (hb H b)) (by omega) (by omega) (fun j hj => by rw [u2_ne (Ne.symm h3)]; exact hh j hj) (fun j hj => by
      rw [u2_at]
      by_cases z : j = b
      · rw [z, up_eq]
      · rw [up_ne z]; exact hd j (by omega))
    refine ⟨I', ?_, fun c hc => by rw [g2 c hc, u2_ne hc], g3⟩
    rw [fX9_beside_98, if_neg (show ¬ (32 : Int32) ≤ nI b from nI_lt_of (k := 32) (by decide) (by omega)), md_f45 hA, md_r35 hA (by omega)]
    show wI _ .int r (nI b) (I 794 b) _ = _
    rw [hh b (by omega), wI_mk hr hrn hsr (by omega) (by decide), vp_narI, nI_1]
    exact g1
set_option maxHeartbeats 4000000 in
/-- beside(of, s, left) -/
theorem beside_D (hT : TopAt N S R) (I : Nat → Nat → Int32) (J : Nat → Nat → Int64) (hS : MS I) (r : Nat) (hr : r = 805 ∨ r = 806) (s : Nat) (hs : s < 32) (left : Bool) (a h : Nat → Int32) (ha : ∀ j, j < 32 → I r j = hb a j) (hh : ∀ j, j < 32 → I 801 (32 * s + j) = hb h j) :
    ∃ I' : Nat → Nat → Int32, fX9_beside 759 r (nI s) (bI left) (N, SL, S, R, I, J) = some ((), (N, SL, S, R, I', J)) ∧ MS I' ∧ (∀ c, c ≠ 759 → (c < 791 ∨ 796 < c) → c ≠ r → I' c = I c) ∧ (∀ j, j ≠ 42 → I' 759 j = I 759 j) ∧ ∀ j, j < 32 → I' r j = hb (if left = true then ndH h a else ndH a h) j := by
  have hA := hT.md
  have ho := hA.1
  have hN := hT.1.2.1
  have hnS : nS = 3 := rfl
  have hsr : S r = .inl (.int, 32) := by
    rcases hr with rfl | rfl
    · exact (md_older hA).2.1
    · exact (md_newer hA).2.1
  obtain ⟨x, hx⟩ : ∃ x, x = (if left = true then h else a) := ⟨_, rfl⟩
  obtain ⟨z, hz⟩ : ∃ z, z = (if left = true then a else h) := ⟨_, rfl⟩
  have exz : (if left = true then ndH h a else ndH a h) = ndH x z := by
    rw [hx, hz]
    cases left with
    | true => rw [if_pos rfl, if_pos rfl, if_pos rfl]
    | false => rw [if_neg (fun q => by cases q), if_neg (fun q => by cases q), if_neg (fun q => by cases q)]
  have hlen : (1 :: (hbs x ++ hbs z)).length = 65 := by simp [hbs_len]
  have gx : ∀ j, j < 32 → (if left = true then I 801 (32 * s + j) else I r j) = hb x j := fun j hj => by
    rw [hx]
    cases left with
    | true => rw [if_pos rfl, if_pos rfl]; exact hh j hj
    | false => rw [if_neg (fun q => by cases q), if_neg (fun q => by cases q)]; exact ha j hj
  have gz : ∀ j, j < 32 → (if left = true then I r j else I 801 (32 * s + j)) = hb z j := fun j hj => by
    rw [hz]
    cases left with
    | true => rw [if_pos rfl, if_pos rfl]; exact ha j hj
    | false => rw [if_neg (fun q => by cases q), if_neg (fun q => by cases q)]; exact hh j hj
  obtain ⟨I1, g1, g2, g3, g4⟩ := sum_D (SL := SL) hA I J hS.1 (1 :: (hbs x ++ hbs z)) (by rw [hlen]; decide) (fun j => if 33 ≤ j ∧ j < 33 + 32 then (if left = true then I r (0 + (j - 33)) else I 801 (32 * s + (0 + (j - 33)))) else if 1 ≤ j ∧ j < 1 + 32 then (if left = true then I 801 (32 * s + (0 + (j - 1))) else I r (0 + (j - 1))) else if j = 0 then (1 : Int32) else I (759 + 32) j) (fun j hj => by
    rw [hlen] at hj
    match j with
    | 0 => rfl
    | j + 1 =>
      rw [List.getD_cons_succ]
      by_cases q : j < 32
      · rw [if_neg (show ¬ (33 ≤ j + 1 ∧ j + 1 < 33 + 32) by omega), if_pos (show 1 ≤ j + 1 ∧ j + 1 < 1 + 32 from ⟨by omega, by omega⟩), getD_app_l (by rw [hbs_len]; exact q), hbs_get x q, show 0 + (j + 1 - 1) = j by omega, gx j q]
      · rw [if_pos (show 33 ≤ j + 1 ∧ j + 1 < 33 + 32 from ⟨by omega, by omega⟩), getD_app_r (by rw [hbs_len]; omega), hbs_len, hbs_get z (by omega), show 0 + (j + 1 - 33) = j - 32 by omega, gz (j - 32) (by omega)])
  obtain ⟨I2, k1, k2, k3⟩ := bes3_loop (SL := SL) hA J r (by omega) (by omega) hsr (by omega) (ndH x z) 32 0 FU I1 rfl (by decide) g4 (fun j hj => absurd hj (by omega))
  refine ⟨I2, ?_, ⟨fun j hj => by rw [k2 790 (by omega), g2.hfr.1 790 (by omega) (by omega)]; exact hS.1 j hj, by rw [k2 759 (by omega)]; exact g3⟩, fun c q1 q2 q3 => by rw [k2 c q3, g2.hfr.1 c q1 q2], fun j hj => by rw [k2 759 (by omega), g2.hfr.2 j hj], by rw [exz]; exact k3⟩
  unfold fX9_beside
  have e0 : (N, SL, S, R, I, J) = ((N, SL, S, R, smI I 759 (I (759 + 32)) 0, J) : Mem) := by rw [sm_self hS.2]
  rw [e0, md_o hA, says_sm hA I J _ 0 (by decide), bd_some]
  have e1 := bes1_loop (SL := SL) hA I J r (by omega) hsr (by omega) (by omega) s hs left 32 0 (fun j => if j = 0 then (1 : Int32) else I (759 + 32) j) (0 + 1) FU rfl (by decide) (by decide)
  have e2 := bes2_loop (SL := SL) hA I J r (by omega) hsr (by omega) (by omega) s hs left 32 0 (fun j => if 1 ≤ j ∧ j < 1 + 32 then (if left = true then I 801 (32 * s + (0 + (j - 1))) else I r (0 + (j - 1))) else if j = 0 then (1 : Int32) else I (759 + 32) j) 33 FU rfl (by decide) (by decide)
  refine e1.trans (e2.trans ?_)
  rw [hlen] at g1
  rw [show 33 + 32 = 65 from rfl, md_o hA, g1, bd_some]
  exact k1
end LeadsM
