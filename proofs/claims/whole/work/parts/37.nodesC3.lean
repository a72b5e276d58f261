section NodesC3
variable {N SL : Nat} {S : Nat → Shp} {R : Nat → Nat → Option Nat} {p : Nat}
set_option maxHeartbeats 4000000 in
theorem nodeOf_loop (hA : PgAt N S R p) (J : Nat → Nat → Int64) (st : Nat → Nat) (n : Nat) (hn : n ≤ 200) (level pos : Nat) (hlv : level ≤ 7) (hpos : (pos + 1) * 2 ^ level ≤ n) : ∀ (q h : Nat) (I : Nat → Nat → Int32) (fuel : Nat), h + q = level + 1 → q < fuel → NInv I p st n → (∀ g, h = g + 1 → ∀ u, 2 ^ (8 - g) + pos * 2 ^ (level - g) ≤ u → u < 2 ^ (8 - g) + pos * 2 ^ (level - g) + 2 ^ (level - g) → I (p + 666) u ≠ 0) →
    ∃ I' : Nat → Nat → Int32, fX5_nodeOf_2 fuel p (nI level) (nI pos) (nI h) (N, SL, S, R, I, J) = some (p + 210 + (2 ^ (8 - level) + pos), (N, SL, S, R, I', J)) ∧ NF p I I' ∧ NInv I' p st n ∧ (∀ v, I (p + 666) v ≠ 0 → I' (p + 666) v ≠ 0) ∧ I' (p + 666) (2 ^ (8 - level) + pos) ≠ 0 := by
  have hA' := hA
  obtain ⟨⟨ho, hlN, hsha⟩, ⟨r0, r1, r3, r4, r6, r7⟩, ⟨s1, s2, s7, s209, s666⟩, hch, hnd⟩ := hA
  have plv : 0 < 2 ^ level := Nat.two_pow_pos level
  have hp200 : pos + 1 ≤ 200 := Nat.le_trans (Nat.le_trans (Nat.le_mul_of_pos_right (pos + 1) plv) hpos) hn
  intro q
  induction q with
  | zero =>
    intro h I fuel hh hf hI hk
    obtain ⟨y, rfl⟩ : ∃ y, fuel = y + 1 := ⟨fuel - 1, by omega⟩
    have hh : h = level + 1 := by omega
    subst hh
    have hlt : 2 ^ (8 - level) + pos < 456 := by
      have h1 : 2 ^ (8 - level) * 2 ^ level = 256 := by rw [← Nat.pow_add, show 8 - level + level = 8 by omega]
      have h2 : 2 ^ (8 - level) ≤ 256 := Nat.le_trans (Nat.le_mul_of_pos_right _ plv) (Nat.le_of_eq h1)
      omega
    refine ⟨I, ?_, NF.refl, hI, fun _ h => h, ?_⟩
    · rw [fX5_nodeOf_2, if_pos (nI_lt (by omega) (by omega)), sh256 level (by omega), nI_add, gR_mk ho r6, rR_mk (by omega) s209 hlt (by decide) (hnd _ hlt).1]
    · have := hk level rfl (2 ^ (8 - level) + pos)
      rw [Nat.sub_self, Nat.pow_zero, Nat.mul_one] at this
      exact this (Nat.le_refl _) (by omega)
  | succ q ih =>
    intro h I fuel hh hf hI hk
    obtain ⟨y, rfl⟩ : ∃ y, fuel = y + 1 := ⟨fuel - 1, by omega⟩
    have hhl : h ≤ level := by omega
    have hXY : 2 ^ (level - h) * 2 ^ h = 2 ^ level := by rw [← Nat.pow_add, show level - h + h = level by omega]
    have hWY : 2 ^ (8 - h) * 2 ^ h = 256 := by rw [← Nat.pow_add, show 8 - h + h = 8 by omega]
    have hY : 0 < 2 ^ h := Nat.two_pow_pos h
    have hXp : 0 < 2 ^ (level - h) := Nat.two_pow_pos _
    have hPX : (pos + 1) * 2 ^ (level - h) * 2 ^ h ≤ 200 := by rw [Nat.mul_assoc, hXY]; omega
    have hx : (pos + 1) * 2 ^ (level - h) < 2 ^ (8 - h) := Nat.lt_of_mul_lt_mul_right (a := 2 ^ h) (by rw [hWY]; omega)
    have hPe : (pos + 1) * 2 ^ (level - h) = pos * 2 ^ (level - h) + 2 ^ (level - h) := by rw [Nat.add_mul, Nat.one_mul]
    have hW256 : 2 ^ (8 - h) ≤ 256 := Nat.le_trans (Nat.le_mul_of_pos_right _ hY) (Nat.le_of_eq hWY)
    have hP200 : (pos + 1) * 2 ^ (level - h) ≤ 200 := Nat.le_trans (Nat.le_mul_of_pos_right _ hY) hPX
    obtain ⟨I1, g1, g2, g3, g4, g5⟩ := nodes_loop (SL := SL) hA' J st n (fX5_nodeOf_2 y) (nI level) (nI pos) (nI h) (2 ^ (8 - h) + pos * 2 ^ (level - h)) (2 ^ (8 - h) + pos * 2 ^ (level - h) + 2 ^ (level - h)) (by omega) (fun u => ∃ g, h = g + 1 ∧ 2 ^ (8 - g) + pos * 2 ^ (level - g) ≤ u ∧ u < 2 ^ (8 - g) + pos * 2 ^ (level - g) + 2 ^ (level - g))
      (fun u I1 h1 h2 hI1 hk1 => by
        match h, hh, hhl, hXY, hWY, hY, hXp, hPX, hx, hPe, hW256, hP200, h1, h2, hk1 with
        | 0, _, _, _, _, _, _, _, _, _, _, _, h1, h2, _ =>
          obtain ⟨i, rfl⟩ : ∃ i, u = 256 + i := ⟨u - 256, by have : 2 ^ (8 - 0) = 256 := rfl; omega⟩
          refine learn_leaf hA' I1 J st n i hn ?_ hI1.1 hI1.2.1 hI1.2.2
          simp only [Nat.sub_zero] at h2
          have e : (pos + 1) * 2 ^ level = pos * 2 ^ level + 2 ^ level := by rw [Nat.add_mul, Nat.one_mul]
          have : 2 ^ 8 = 256 := rfl
          omega
        | g + 1, _, hhl, _, _, _, _, hPX, hx, hPe, hW256, hP200, h1, h2, hk1 =>
          have pw : 2 ^ (8 - g) = 2 * 2 ^ (8 - (g + 1)) := by rw [show 8 - g = (8 - (g + 1)) + 1 by omega, Nat.pow_succ, Nat.mul_comm]
          have px : 2 ^ (level - g) = 2 * 2 ^ (level - (g + 1)) := by rw [show level - g = (level - (g + 1)) + 1 by omega, Nat.pow_succ, Nat.mul_comm]
          have ppx : pos * 2 ^ (level - g) = 2 * (pos * 2 ^ (level - (g + 1))) := by rw [px, ← Nat.mul_assoc, Nat.mul_comm pos 2, Nat.mul_assoc]
          have hg1 : 2 ^ (8 - g) ≤ 256 := Nat.pow_le_pow_right (n := 2) (by decide) (show 8 - g ≤ 8 by omega)
          have h2x : 2 * ((pos + 1) * 2 ^ (level - (g + 1))) ≤ 200 := by
            have : 2 ≤ 2 ^ (g + 1) := Nat.pow_le_pow_right (n := 2) (by decide) (show 1 ≤ g + 1 by omega)
            exact Nat.le_trans (by rw [Nat.mul_comm]; exact Nat.mul_le_mul_left _ this) hPX
          obtain ⟨ps, rfl⟩ : ∃ ps, u = 2 ^ (8 - (g + 1)) + ps := ⟨u - 2 ^ (8 - (g + 1)), by omega⟩
          exact learn_node hA' I1 J st n g ps (by omega) (by omega) (by omega) hI1.2.1 hI1.2.2 (hk1 _ ⟨g, rfl, by rw [pw, ppx]; omega, by rw [pw, ppx, px]; omega⟩) (hk1 _ ⟨g, rfl, by rw [pw, ppx]; omega, by rw [pw, ppx, px]; omega⟩))
      (2 ^ (level - h)) (2 ^ (8 - h) + pos * 2 ^ (level - h)) I FU rfl (Nat.le_refl _) (by unfold FU; omega) hI (fun u hu => by
        obtain ⟨g, a, b, c⟩ := hu
        exact hk g a u b c)
    obtain ⟨I2, k1, k2, k3, k4, k5⟩ := ih (h + 1) I1 y (by omega) (by omega) g3 (fun g hg u a b => by
      have : g = h := by omega
      subst this
      exact g5 u a b)
    refine ⟨I2, ?_, g2.trans k2, k3, fun v hv => k4 v (g4 v hv), k5⟩
    have es : nI level - nI h = nI (level - h) := pk_sub hhl
    rw [fX5_nodeOf_2, if_neg (nI_nlt hhl (by omega)), sh256 h (by omega), es, shlp (level - h) (by omega) pos (by omega), shl1 (level - h) (by omega), nI_add, nI_add, g1, nI_1]
    exact k1
/-- nodeOf(level, position): the row of the tree of 2^level leaves -/
theorem nodeOf_spec (hA : PgAt N S R p) (I : Nat → Nat → Int32) (J : Nat → Nat → Int64) (st : Nat → Nat) (n : Nat) (hn : n ≤ 200) (level pos : Nat) (hlv : level ≤ 7) (hpos : (pos + 1) * 2 ^ level ≤ n) (hI : NInv I p st n) :
    ∃ I' : Nat → Nat → Int32, fX5_nodeOf p (nI level) (nI pos) (N, SL, S, R, I, J) = some (p + 210 + (2 ^ (8 - level) + pos), (N, SL, S, R, I', J)) ∧ NF p I I' ∧ NInv I' p st n ∧ ∀ j, j < 8 → I' (p + 210 + (2 ^ (8 - level) + pos)) j = ctH (lfC (I (p + 1)) st) level (pos * 2 ^ level) j := by
  obtain ⟨I', g1, g2, g3, g4, g5⟩ := nodeOf_loop (SL := SL) hA J st n hn level pos hlv hpos (level + 1) 0 I FU (by omega) (by unfold FU; omega) hI (fun g hg => absurd hg (by omega))
  have plv : 0 < 2 ^ level := Nat.two_pow_pos level
  have hWY : 2 ^ (8 - level) * 2 ^ level = 256 := by rw [← Nat.pow_add, show 8 - level + level = 8 by omega]
  have hp1 : pos + 1 < 2 ^ (8 - level) := Nat.lt_of_mul_lt_mul_right (a := 2 ^ level) (by rw [hWY]; omega)
  have hp200 : pos + 1 ≤ 200 := Nat.le_trans (Nat.le_trans (Nat.le_mul_of_pos_right (pos + 1) plv) hpos) hn
  have h2 : 2 ^ (8 - level) ≤ 256 := Nat.le_trans (Nat.le_mul_of_pos_right _ plv) (Nat.le_of_eq hWY)
  refine ⟨I', g1, g2, g3, fun j hj => ?_⟩
  have := (g3.2.2 level pos (by omega) (by omega) (by omega) g5).1 j hj
  rw [g2 (p + 1) (by omega) (by omega)] at this
  exact this
end NodesC3
