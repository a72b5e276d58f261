/-- the set bits of n at the levels l, l + 1, .. (k of them) -/
def blN (n : Nat) : Nat → Nat → List Nat
  | 0, _ => []
  | k + 1, l => if n / 2 ^ l % 2 = 1 then l :: blN n k (l + 1) else blN n k (l + 1)
theorem bl_inc (n : Nat) : ∀ (k l i : Nat), i ≤ l → Inc i (blN n k l)
  | 0, _, _, _ => trivial
  | k + 1, l, i, h => by
    show Inc i (if n / 2 ^ l % 2 = 1 then l :: blN n k (l + 1) else blN n k (l + 1))
    by_cases q : n / 2 ^ l % 2 = 1
    · rw [if_pos q]; exact ⟨h, bl_inc n k (l + 1) (l + 1) (Nat.le_refl _)⟩
    · rw [if_neg q]; exact bl_inc n k (l + 1) i (by omega)
theorem bl_sm (n : Nat) : ∀ (k l : Nat), n < 2 ^ (l + k) → sm2 (blN n k l) = n / 2 ^ l * 2 ^ l
  | 0, l, h => by
    show 0 = _
    rw [Nat.div_eq_of_lt (by simpa using h), Nat.zero_mul]
  | k + 1, l, h => by
    have ih := bl_sm n k (l + 1) (by rw [show l + 1 + k = l + (k + 1) by omega]; exact h)
    have e1 : n / 2 ^ (l + 1) = n / 2 ^ l / 2 := by rw [Nat.pow_succ, Nat.div_div_eq_div_mul]
    have e2 : n / 2 ^ (l + 1) * 2 ^ (l + 1) = (n / 2 ^ l / 2 * 2) * 2 ^ l := by rw [e1, Nat.pow_succ, Nat.mul_comm (2 ^ l) 2, Nat.mul_assoc]
    show sm2 (if n / 2 ^ l % 2 = 1 then l :: blN n k (l + 1) else blN n k (l + 1)) = _
    by_cases q : n / 2 ^ l % 2 = 1
    · rw [if_pos q]
      show sm2 (blN n k (l + 1)) + 2 ^ l = _
      rw [ih, e2, show n / 2 ^ l / 2 * 2 * 2 ^ l + 2 ^ l = (n / 2 ^ l / 2 * 2 + 1) * 2 ^ l by rw [Nat.add_mul, Nat.one_mul], show n / 2 ^ l / 2 * 2 + 1 = n / 2 ^ l by omega]
    · rw [if_neg q, ih, e2, show n / 2 ^ l / 2 * 2 = n / 2 ^ l by omega]
theorem bit_test : ∀ n, n < 201 → ∀ l, l < 8 → ((xshr (nI n) (nI l)) &&& (1 : Int32) = (1 : Int32) ↔ n / 2 ^ l % 2 = 1) := by decide +kernel
theorem shr_div : ∀ n, n < 201 → ∀ l, l < 8 → xshr (nI n) (nI l) = nI (n / 2 ^ l) := by decide +kernel
/-- only the Sha's cells, the nodes, 'known' and to have changed -/
def TF (p to : Nat) (I I' : Nat → Nat → Int32) : Prop := ∀ c, c ≠ to → (c < p + 3 ∨ p + 6 < c) → (c < p + 210 ∨ p + 666 < c) → I' c = I c
theorem TF.trans {p to : Nat} {I I' I'' : Nat → Nat → Int32} (h : TF p to I I') (h' : TF p to I' I'') : TF p to I I'' := fun c a b d => (h' c a b d).trans (h c a b d)
theorem NF.tf {p to : Nat} {I I' : Nat → Nat → Int32} (h : NF p I I') : TF p to I I' := fun c _ b d => h c b d
section TreeC
variable {N SL : Nat} {S : Nat → Shp} {R : Nat → Nat → Option Nat} {p : Nat}
/-- rows outside Pages may change: NInv stays -/
theorem NInv.out {I I' : Nat → Nat → Int32} {st : Nat → Nat} {n : Nat} (hp : nS ≤ p) (h : ∀ c, (c < nS ∨ (p ≤ c ∧ c ≤ p + 666 ∧ (c < p + 3 ∨ p + 6 < c))) → I' c = I c) (hI : NInv I p st n) : NInv I' p st n := by
  have hnS : nS = 3 := rfl
  refine ⟨⟨fun i hi => by rw [h (p + 2) (by omega)]; exact hI.1.1 i hi, hI.1.2⟩, ⟨fun j hj => by rw [h 1 (by omega)]; exact hI.2.1.1 j hj, fun j hj => by rw [h 0 (by omega)]; exact hI.2.1.2 j hj⟩, fun a pos ha hpos hv hk => ?_⟩
  rw [h (p + 666) (by omega)] at hk
  refine ⟨fun j hj => ?_, (hI.2.2 a pos ha hpos hv hk).2⟩
  rw [h (p + 1) (by omega), h (p + 210 + (2 ^ (8 - a) + pos)) (by omega)]
  exact (hI.2.2 a pos ha hpos hv hk).1 j hj
set_option maxHeartbeats 4000000 in
/-- behind the lowest bit: each higher one joins -/
theorem treeB_loop (hA : PgAt N S R p) (J : Nat → Nat → Int64) (st : Nat → Nat) (nn : Nat) (hnn : nn ≤ 200) {to : Nat} (ht : to < N) (htn : nS ≤ to) (hts : S to = .inl (.int, 8)) (hto : to < p ∨ p + 666 < to) (f n : Nat) (hfn : f + n ≤ nn) (hal : ∀ e, e < 8 → n / 2 ^ e % 2 = 1 → f % 2 ^ e = 0) (lf : Nat → Nat → Int32) :
    ∀ (k l : Nat) (acc : Nat → Int32) (I : Nat → Nat → Int32) (fuel : Nat), l + k = 8 → k < fuel → sm2 (blN n k l) < n → NInv I p st nn → lf = lfC (I (p + 1)) st → (∀ j, j < 8 → I to j = acc j) →
    ∃ I' : Nat → Nat → Int32, fX5_treeOf_28 fuel p (nI f) (nI n) to (nI (f + sm2 (blN n k l))) (nI l) (N, SL, S, R, I, J) = some ((), (N, SL, S, R, I', J)) ∧ TF p to I I' ∧ NInv I' p st nn ∧ ∀ j, j < 8 → I' to j = foldT lf f acc (blN n k l) j := by
  have hA' := hA
  obtain ⟨⟨ho, hlN, hsha⟩, ⟨r0, r1, r3, r4, r6, r7⟩, ⟨s1, s2, s7, s209, s666⟩, hch, hnd⟩ := hA
  have hnS : nS = 3 := rfl
  have hns := ho.2.1
  intro k
  induction k with
  | zero =>
    intro l acc I fuel hl hf hs hI hlf ha
    obtain ⟨y, rfl⟩ : ∃ y, fuel = y + 1 := ⟨fuel - 1, by omega⟩
    have hl : l = 8 := by omega
    subst hl
    exact ⟨I, by rw [fX5_treeOf_28, if_pos (by decide)], fun _ _ _ _ => rfl, hI, ha⟩
  | succ k ih =>
    intro l acc I fuel hl hf hs hI hlf ha
    obtain ⟨y, rfl⟩ : ∃ y, fuel = y + 1 := ⟨fuel - 1, by omega⟩
    have hl8 : l < 8 := by omega
    rw [fX5_treeOf_28, if_neg (show ¬ (8 : Int32) ≤ nI l from nI_lt_of (k := 8) (by decide) hl8)]
    have hbl : blN n (k + 1) l = if n / 2 ^ l % 2 = 1 then l :: blN n k (l + 1) else blN n k (l + 1) := rfl
    by_cases q : n / 2 ^ l % 2 = 1
    · rw [hbl, if_pos q] at hs ⊢
      have hs' : sm2 (blN n k (l + 1)) + 2 ^ l < n := hs
      have pl : 0 < 2 ^ l := Nat.two_pow_pos l
      rw [if_pos ((bit_test n (by omega) l hl8).mpr q)]
      have esm : sm2 (l :: blN n k (l + 1)) = sm2 (blN n k (l + 1)) + 2 ^ l := rfl
      rw [esm]
      have hsub : nI (f + (sm2 (blN n k (l + 1)) + 2 ^ l)) - (xshl (1 : Int32) (nI l)) = nI (f + sm2 (blN n k (l + 1))) := by
        rw [shl1 l (by omega), pk_sub (by omega), show f + (sm2 (blN n k (l + 1)) + 2 ^ l) - 2 ^ l = f + sm2 (blN n k (l + 1)) by omega]
      have hmod : (f + sm2 (blN n k (l + 1))) % 2 ^ l = 0 := by
        have hn256 : n < 2 ^ (l + 1 + k) := by rw [show l + 1 + k = 8 by omega]; have : 2 ^ 8 = 256 := rfl; omega
        rw [bl_sm n k (l + 1) hn256, Nat.pow_succ, Nat.mul_comm (2 ^ l) 2, ← Nat.mul_assoc, Nat.add_mul_mod_self_right]
        exact hal l hl8 q
      have hdm : (f + sm2 (blN n k (l + 1))) / 2 ^ l * 2 ^ l = f + sm2 (blN n k (l + 1)) := by
        have := Nat.div_add_mod (f + sm2 (blN n k (l + 1))) (2 ^ l)
        rw [hmod, Nat.add_zero, Nat.mul_comm] at this
        exact this
      obtain ⟨I1, g1, g2, g3, g4⟩ := nodeOf_spec (SL := SL) hA' I J st nn hnn l ((f + sm2 (blN n k (l + 1))) / 2 ^ l) (by omega) (by rw [Nat.add_mul, Nat.one_mul, hdm]; omega) hI
      rw [hdm, ← hlf] at g4
      have hV : 2 ^ (8 - l) + (f + sm2 (blN n k (l + 1))) / 2 ^ l < 456 := by
        have h1 : 2 ^ (8 - l) * 2 ^ l = 256 := by rw [← Nat.pow_add, show 8 - l + l = 8 by omega]
        have h2 : 2 ^ (8 - l) ≤ 256 := Nat.le_trans (Nat.le_mul_of_pos_right _ pl) (Nat.le_of_eq h1)
        have h3 : (f + sm2 (blN n k (l + 1))) / 2 ^ l ≤ f + sm2 (blN n k (l + 1)) := Nat.div_le_self _ _
        omega
      generalize 2 ^ (8 - l) + (f + sm2 (blN n k (l + 1))) / 2 ^ l = V at g1 g4 hV
      have eto : I1 to = I to := g2 to (by omega) (by omega)
      have e1 : I1 (p + 1) = I (p + 1) := g2 (p + 1) (by omega) (by omega)
      obtain ⟨I2, b1, b2, b3⟩ := join_D (SL := SL) hsha (a := p + 210 + V) (b := to) (to := to) (by omega) (hnd V hV).2 ⟨by omega, by omega⟩ ht hts ⟨by omega, by omega⟩ ht htn hts ⟨by omega, by omega, by omega⟩ (by omega) I1 J g3.2.1
      have hI2 : NInv I2 p st nn := NInv.out hns (fun c hc => b2 c (by omega) (by omega) (by omega) (by omega) (by omega)) g3
      have e2 : I2 (p + 1) = I (p + 1) := by rw [b2 (p + 1) (by omega) (by omega) (by omega) (by omega) (by omega), e1]
      have hnd2 : ndH (I1 (p + 210 + V)) (I1 to) = ndH (ctH lf l (f + sm2 (blN n k (l + 1)))) acc := by
        unfold ndH
        rw [hbs_ext g4, eto, hbs_ext ha]
      obtain ⟨I', k1, k2, k3, k4⟩ := ih (l + 1) (ndH (ctH lf l (f + sm2 (blN n k (l + 1)))) acc) I2 y (by omega) (by omega) (by omega) hI2 (by rw [e2]; exact hlf) (fun j hj => by rw [b3 j hj, hnd2])
      have hT : TF p to I I2 := fun c a b d => by rw [b2 c (by omega) (by omega) (by omega) (by omega) a, g2 c b d]
      refine ⟨I', ?_, hT.trans k2, k3, k4⟩
      rw [hsub, shr_div _ (by omega) l hl8, cV_mk ho, g1, bd_some, shl1 l (by omega), nI_add, nI_add, if_neg (fun z => absurd ((nI_eq (by omega) (by omega)).mp z) (by omega)), gR_mk ho r3, cV_mk hsha.1, b1, bd_some]
      unfold fX5_treeOf_100
      rw [nI_1]
      exact k1
    · rw [hbl, if_neg q] at hs ⊢
      rw [if_neg (fun z => q ((bit_test n (by omega) l hl8).mp z))]
      obtain ⟨I', k1, k2, k3, k4⟩ := ih (l + 1) acc I y (by omega) (by omega) hs hI hlf ha
      refine ⟨I', ?_, k2, k3, k4⟩
      unfold fX5_treeOf_100
      rw [nI_1]
      exact k1
end TreeC
