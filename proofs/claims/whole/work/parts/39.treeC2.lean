section TreeC2
variable {N SL : Nat} {S : Nat → Shp} {R : Nat → Nat → Option Nat} {p : Nat}
set_option maxHeartbeats 4000000 in
/-- up to the lowest bit of n -/
theorem treeA_loop (hA : PgAt N S R p) (J : Nat → Nat → Int64) (st : Nat → Nat) (nn : Nat) (hnn : nn ≤ 200) {to : Nat} (ht : to < N) (htn : nS ≤ to) (hts : S to = .inl (.int, 8)) (hto : to < p ∨ p + 666 < to) (f n : Nat) (hn0 : 0 < n) (hfn : f + n ≤ nn) (hal : ∀ e, e < 8 → n / 2 ^ e % 2 = 1 → f % 2 ^ e = 0) :
    ∀ (k l : Nat) (I : Nat → Nat → Int32) (fuel : Nat), l + k = 8 → k < fuel → sm2 (blN n k l) = n → NInv I p st nn →
    ∃ I' : Nat → Nat → Int32, fX5_treeOf_28 fuel p (nI f) (nI n) to (nI (f + n)) (nI l) (N, SL, S, R, I, J) = some ((), (N, SL, S, R, I', J)) ∧ TF p to I I' ∧ NInv I' p st nn ∧ ∀ j, j < 8 → I' to j = treeH (lfC (I (p + 1)) st) f n j := by
  have hA' := hA
  obtain ⟨⟨ho, hlN, hsha⟩, ⟨r0, r1, r3, r4, r6, r7⟩, ⟨s1, s2, s7, s209, s666⟩, hch, hnd⟩ := hA
  have hnS : nS = 3 := rfl
  have hns := ho.2.1
  intro k
  induction k with
  | zero =>
    intro l I fuel hl hf hs hI
    have : (0 : Nat) = n := hs
    omega
  | succ k ih =>
    intro l I fuel hl hf hs hI
    obtain ⟨y, rfl⟩ : ∃ y, fuel = y + 1 := ⟨fuel - 1, by omega⟩
    have hl8 : l < 8 := by omega
    rw [fX5_treeOf_28, if_neg (show ¬ (8 : Int32) ≤ nI l from nI_lt_of (k := 8) (by decide) hl8)]
    have hbl : blN n (k + 1) l = if n / 2 ^ l % 2 = 1 then l :: blN n k (l + 1) else blN n k (l + 1) := rfl
    by_cases q : n / 2 ^ l % 2 = 1
    · rw [hbl, if_pos q] at hs
      have hs' : sm2 (blN n k (l + 1)) + 2 ^ l = n := hs
      have pl : 0 < 2 ^ l := Nat.two_pow_pos l
      rw [if_pos ((bit_test n (by omega) l hl8).mpr q)]
      have hsub : nI (f + n) - (xshl (1 : Int32) (nI l)) = nI (f + sm2 (blN n k (l + 1))) := by
        rw [shl1 l (by omega), pk_sub (by omega), show f + n - 2 ^ l = f + sm2 (blN n k (l + 1)) by omega]
      have hmod : (f + sm2 (blN n k (l + 1))) % 2 ^ l = 0 := by
        have hn256 : n < 2 ^ (l + 1 + k) := by rw [show l + 1 + k = 8 by omega]; have : 2 ^ 8 = 256 := rfl; omega
        rw [bl_sm n k (l + 1) hn256, Nat.pow_succ, Nat.mul_comm (2 ^ l) 2, ← Nat.mul_assoc, Nat.add_mul_mod_self_right]
        exact hal l hl8 q
      have hdm : (f + sm2 (blN n k (l + 1))) / 2 ^ l * 2 ^ l = f + sm2 (blN n k (l + 1)) := by
        have := Nat.div_add_mod (f + sm2 (blN n k (l + 1))) (2 ^ l)
        rw [hmod, Nat.add_zero, Nat.mul_comm] at this
        exact this
      obtain ⟨I1, g1, g2, g3, g4⟩ := nodeOf_spec (SL := SL) hA' I J st nn hnn l ((f + sm2 (blN n k (l + 1))) / 2 ^ l) (by omega) (by rw [Nat.add_mul, Nat.one_mul, hdm]; omega) hI
      rw [hdm] at g4
      have hV : 2 ^ (8 - l) + (f + sm2 (blN n k (l + 1))) / 2 ^ l < 456 := by
        have h1 : 2 ^ (8 - l) * 2 ^ l = 256 := by rw [← Nat.pow_add, show 8 - l + l = 8 by omega]
        have h2 : 2 ^ (8 - l) ≤ 256 := Nat.le_trans (Nat.le_mul_of_pos_right _ pl) (Nat.le_of_eq h1)
        have h3 : (f + sm2 (blN n k (l + 1))) / 2 ^ l ≤ f + sm2 (blN n k (l + 1)) := Nat.div_le_self _ _
        omega
      generalize 2 ^ (8 - l) + (f + sm2 (blN n k (l + 1))) / 2 ^ l = V at g1 g4 hV
      have e1 : I1 (p + 1) = I (p + 1) := g2 (p + 1) (by omega) (by omega)
      obtain ⟨I2, hI2e⟩ : ∃ I2, I2 = u1 I1 to (fun j => if j < 8 then I1 (p + 210 + V) j else I1 to j) := ⟨_, rfl⟩
      have f2 : ∀ c, c ≠ to → I2 c = I1 c := fun c hc => by rw [hI2e]; exact u1_ne hc
      have hI2 : NInv I2 p st nn := NInv.out hns (fun c hc => f2 c (by omega)) g3
      have e2 : I2 (p + 1) = I (p + 1) := by rw [f2 (p + 1) (by omega), e1]
      obtain ⟨I', k1, k2, k3, k4⟩ := treeB_loop (SL := SL) hA' J st nn hnn ht htn hts hto f n hfn hal (lfC (I (p + 1)) st) k (l + 1) (ctH (lfC (I (p + 1)) st) l (f + sm2 (blN n k (l + 1)))) I2 y (by omega) (by omega) (by omega) hI2 (by rw [e2]) (fun j hj => by rw [hI2e, u1_eq, if_pos hj, g4 j hj])
      have hT : TF p to I I2 := fun c a b d => by rw [f2 c a, g2 c b d]
      have hinc : Inc 0 (l :: blN n k (l + 1)) := ⟨Nat.zero_le _, bl_inc n k (l + 1) (l + 1) (Nat.le_refl _)⟩
      have hft := fold_tree (lf := lfC (I (p + 1)) st) (f := f) hinc (by rw [hs]; omega)
      rw [hs] at hft
      refine ⟨I', ?_, hT.trans k2, k3, fun j hj => by rw [k4 j hj, hft]⟩
      rw [hsub, shr_div _ (by omega) l hl8, cV_mk ho, g1, bd_some, shl1 l (by omega), nI_add, nI_add, if_pos (by rw [show f + sm2 (blN n k (l + 1)) + 2 ^ l = f + n by omega]), copy_spec (by omega) (hnd V hV).2 ht htn hts (by omega), bd_some, ← hI2e]
      unfold fX5_treeOf_100
      rw [nI_1]
      exact k1
    · rw [hbl, if_neg q] at hs
      rw [if_neg (fun z => q ((bit_test n (by omega) l hl8).mp z))]
      obtain ⟨I', k1, k2, k3, k4⟩ := ih (l + 1) I y (by omega) (by omega) hs hI
      refine ⟨I', ?_, k2, k3, k4⟩
      unfold fX5_treeOf_100
      rw [nI_1]
      exact k1
/-- treeOf(first, n, to): THE TREE of n entries from first on, where first is a part's beginning -/
theorem treeOf_spec (hA : PgAt N S R p) (I : Nat → Nat → Int32) (J : Nat → Nat → Int64) (st : Nat → Nat) (nn : Nat) (hnn : nn ≤ 200) {to : Nat} (ht : to < N) (htn : nS ≤ to) (hts : S to = .inl (.int, 8)) (hto : to < p ∨ p + 666 < to) (f n : Nat) (hfn : f + n ≤ nn) (hal : ∀ e, e < 8 → n / 2 ^ e % 2 = 1 → f % 2 ^ e = 0) (hI : NInv I p st nn) :
    ∃ I' : Nat → Nat → Int32, fX5_treeOf p (nI f) (nI n) to (N, SL, S, R, I, J) = some ((), (N, SL, S, R, I', J)) ∧ TF p to I I' ∧ NInv I' p st nn ∧ ∀ j, j < 8 → I' to j = treeH (lfC (I (p + 1)) st) f n j := by
  have ho := hA.1.1
  have hsha := hA.1.2.2
  have r3 := hA.2.1.2.2.1
  have hns := ho.2.1
  have hnS : nS = 3 := rfl
  unfold fX5_treeOf
  by_cases h0 : n = 0
  · subst h0
    rw [if_pos (show nI 0 = (0 : Int32) from rfl)]
    obtain ⟨I', g1, g2, g3⟩ := end_D (SL := SL) hsha ht htn hts ⟨by omega, by omega, by omega⟩ (by omega) I J hI.2.1 [] (by decide) (I (p + 3 + 1)) (fun i hi => absurd hi (by simp))
    refine ⟨I', ?_, fun c a b d => g2 c (by omega) (by omega) (by omega) (by omega) a, NInv.out hns (fun c hc => g2 c (by omega) (by omega) (by omega) (by omega) (by omega)) hI, fun j hj => by rw [g3 j hj]; rfl⟩
    have g1 : fX6_end (p + 3) to (N, SL, S, R, txI I (p + 3) (I (p + 3 + 1)) 0, J) = some ((), (N, SL, S, R, I', J)) := g1
    rw [gR_mk ho r3, cV_mk hsha.1, begin_any hsha I J, bd_some, gR_mk ho r3, cV_mk hsha.1, g1, bd_some]
  · rw [if_neg (nI_ne0 (by omega) (by omega)), nI_add, show (0 : Int32) = nI 0 from rfl]
    have e : sm2 (blN n 8 0) = n := by
      have : 2 ^ (0 + 8) = 256 := rfl
      rw [bl_sm n 8 0 (by omega), Nat.pow_zero, Nat.div_one, Nat.mul_one]
    exact treeA_loop hA J st nn hnn ht htn hts hto f n (by omega) hfn hal 8 0 I FU rfl (by decide) e hI
end TreeC2
