-- P4, class: the nodes: node 2^(8-h) + pos is the tree of 2^h leaves from pos * 2^h on
/-- the LEAF of entry i in the class -/
def lfC (now : Nat → Int32) (st : Nat → Nat) (i : Nat) : Nat → Int32 := D (0 :: byP now st i)
/-- node v = 2^(8-h) + pos is as it has to be -/
def NdAt (I : Nat → Nat → Int32) (p : Nat) (st : Nat → Nat) (h pos : Nat) : Prop := ∀ j, j < 8 → I (p + 210 + (2 ^ (8 - h) + pos)) j = ctH (lfC (I (p + 1)) st) h (pos * 2 ^ h) j
/-- every known node is as it has to be, and lies over the first n entries alone -/
def NdOk (I : Nat → Nat → Int32) (p : Nat) (st : Nat → Nat) (n : Nat) : Prop := ∀ h pos, h ≤ 8 → pos < 2 ^ (8 - h) → 2 ^ (8 - h) + pos < 456 → I (p + 666) (2 ^ (8 - h) + pos) ≠ 0 → NdAt I p st h pos ∧ (pos + 1) * 2 ^ h ≤ n
/-- only the Sha's cells, the nodes' rows and 'known' have changed -/
def NF (p : Nat) (I I' : Nat → Nat → Int32) : Prop := ∀ c, (c < p + 3 ∨ p + 6 < c) → (c < p + 210 ∨ p + 666 < c) → I' c = I c
theorem NF.refl {p : Nat} {I : Nat → Nat → Int32} : NF p I I := fun _ _ _ => rfl
theorem NF.trans {p : Nat} {I I' I'' : Nat → Nat → Int32} (h : NF p I I') (h' : NF p I' I'') : NF p I I'' := fun c a b => (h' c a b).trans (h c a b)
/-- a node's number tells its level and place -/
theorem node_inj {h h' pos pos' : Nat} (hh : h ≤ 8) (hh' : h' ≤ 8) (hp : pos < 2 ^ (8 - h)) (hp' : pos' < 2 ^ (8 - h')) (e : 2 ^ (8 - h) + pos = 2 ^ (8 - h') + pos') : h = h' ∧ pos = pos' := by
  have hk : ∀ a b : Nat, a < b → ∀ x y, x < 2 ^ a → 2 ^ a + x = 2 ^ b + y → False := fun a b hab x y hx he => by
    have h1 : 2 ^ (a + 1) ≤ 2 ^ b := Nat.pow_le_pow_right (by decide) hab
    rw [Nat.pow_succ] at h1
    omega
  have hd : 8 - h = 8 - h' := by
    rcases Nat.lt_trichotomy (8 - h) (8 - h') with q | q | q
    · exact (hk _ _ q pos pos' hp e).elim
    · exact q
    · exact (hk _ _ q pos' pos hp' e.symm).elim
  rw [hd] at e
  exact ⟨by omega, by omega⟩
section NodesC
variable {N SL : Nat} {S : Nat → Shp} {R : Nat → Nat → Option Nat} {p : Nat}
set_option maxHeartbeats 4000000 in
/-- learn(256 + i): the leaf -/
theorem learn_leaf (hA : PgAt N S R p) (I : Nat → Nat → Int32) (J : Nat → Nat → Int64) (st : Nat → Nat) (n i : Nat) (hn : n ≤ 200) (hi : i < n) (hst : StOk I p st n) (hS : Sta I) (hN : NdOk I p st n) :
    ∃ I' : Nat → Nat → Int32, fX5_learn p (nI (256 + i)) (N, SL, S, R, I, J) = some ((), (N, SL, S, R, I', J)) ∧ NF p I I' ∧ NdOk I' p st n ∧ (∀ v, I (p + 666) v ≠ 0 → I' (p + 666) v ≠ 0) ∧ I' (p + 666) (256 + i) ≠ 0 := by
  obtain ⟨⟨ho, hl, hsha⟩, ⟨r0, r1, r3, r4, r6, r7⟩, ⟨s1, s2, s7, s209, s666⟩, hch, hnd⟩ := hA
  have hnS : nS = 3 := rfl
  have hns := ho.2.1
  have hs0 := hsha.1
  have hst1 := hst.2 i hi
  obtain ⟨I0, hI0⟩ : ∃ I0, I0 = u2 I (p + 666) (256 + i) (vp_nar .boolean 1) := ⟨_, rfl⟩
  have f0 : ∀ c, c ≠ p + 666 → I0 c = I c := fun c hc => by rw [hI0]; exact u2_ne hc
  have hS0 : Sta I0 := ⟨fun j hj => by rw [f0 1 (by omega)]; exact hS.1 j hj, fun j hj => by rw [f0 0 (by omega)]; exact hS.2 j hj⟩
  obtain ⟨I1, I2, b1, b2, b3, b4, b5, b6, b7⟩ := leafC_D (SL := SL) hsha (a := p + 1) (to := p + 210 + (256 + i)) (n := 16400) (b := st i) (e := st (i + 1)) (by omega) s1 (by decide) ⟨by omega, by omega⟩ hst1.1 hst1.2.2 (by omega) (by omega) (by omega) (hnd (256 + i) (by omega)).2 ⟨by omega, by omega, by omega⟩ (by omega) I0 J hS0
  have k1 : ∀ v, I2 (p + 666) v = if v = 256 + i then vp_nar .boolean 1 else I (p + 666) v := fun v => by
    rw [b6 (p + 666) (by omega) (by omega) (by omega) (by omega) (by omega), hI0, u2_row, u1_eq]
  have e1 : I2 (p + 1) = I (p + 1) := by rw [b6 (p + 1) (by omega) (by omega) (by omega) (by omega) (by omega), f0 _ (by omega)]
  have hv1 : vp_nar .boolean 1 ≠ 0 := by decide
  refine ⟨I2, ?_, fun c a b => by rw [b6 c (by omega) (by omega) (by omega) (by omega) (by omega), f0 c (by omega)], ?_, fun v hv => ?_, ?_⟩
  · unfold fX5_learn
    have e256 : nI (256 + i) - (256 : Int32) = nI i := by rw [show (256 : Int32) = nI 256 from rfl, pk_sub (by omega), show 256 + i - 256 = i by omega]
    rw [gR_mk ho r7, wI_mk (by omega) (by omega) s666 (by omega) (by decide), ← hI0, if_pos (show (256 : Int32) ≤ nI (256 + i) from (nI_leI (a := 256) (by decide) (by omega)).mpr (by omega))]
    rw [e256, nI_1]
    rw [gR_mk ho r3, cV_mk hs0, b1, bd_some, gR_mk ho r3, cV_mk hs0, b2, bd_some]
    rw [gR_mk ho r3, gR_mk ho r0, gR_mk ho r1, rI_mk (by omega) s2 (by omega) (by decide), gR_mk ho r1, rI_mk (by omega) s2 (by omega) (by decide)]
    rw [tx_ne (by omega) (by omega), f0 (p + 2) (by omega), hst.1 i (by omega), hst.1 (i + 1) (by omega), cV_mk hs0, b3, bd_some]
    rw [gR_mk ho r3, gR_mk ho r6, rR_mk (by omega) s209 (by omega) (by decide) (hnd (256 + i) (by omega)).1, cV_mk hs0, b5, bd_some]
  · intro h pos hh hp hv hk
    by_cases z : 2 ^ (8 - h) + pos = 256 + i
    · obtain ⟨q1, q2⟩ := node_inj hh (Nat.zero_le 8) hp (show i < 2 ^ (8 - 0) by show i < 256; omega) z
      subst q1
      subst q2
      refine ⟨fun j hj => ?_, by rw [Nat.pow_zero]; omega⟩
      rw [e1, z, b7 j hj, f0 (p + 1) (by omega)]
      show _ = lfC (I (p + 1)) st (pos * 1) j
      rw [Nat.mul_one]
      rfl
    · rw [k1, if_neg z] at hk
      refine ⟨fun j hj => ?_, (hN h pos hh hp hv hk).2⟩
      rw [e1, b6 _ (by omega) (by omega) (by omega) (by omega) (by omega), f0 _ (by omega)]
      exact (hN h pos hh hp hv hk).1 j hj
  · rw [k1]
    by_cases z : v = 256 + i
    · rw [if_pos z]; exact hv1
    · rw [if_neg z]; exact hv
  · rw [k1, if_pos rfl]
    exact hv1
set_option maxHeartbeats 4000000 in
/-- learn(v) of an inner node whose both nodes below are known -/
theorem learn_node (hA : PgAt N S R p) (I : Nat → Nat → Int32) (J : Nat → Nat → Int64) (st : Nat → Nat) (n h pos : Nat) (hh : h + 1 ≤ 8) (hp : pos < 2 ^ (8 - (h + 1))) (hv2 : 2 * (2 ^ (8 - (h + 1)) + pos) + 1 < 456) (hS : Sta I) (hN : NdOk I p st n) (hk1 : I (p + 666) (2 * (2 ^ (8 - (h + 1)) + pos)) ≠ 0) (hk2 : I (p + 666) (2 * (2 ^ (8 - (h + 1)) + pos) + 1) ≠ 0) :
    ∃ I' : Nat → Nat → Int32, fX5_learn p (nI (2 ^ (8 - (h + 1)) + pos)) (N, SL, S, R, I, J) = some ((), (N, SL, S, R, I', J)) ∧ NF p I I' ∧ NdOk I' p st n ∧ (∀ v, I (p + 666) v ≠ 0 → I' (p + 666) v ≠ 0) ∧ I' (p + 666) (2 ^ (8 - (h + 1)) + pos) ≠ 0 := by
  obtain ⟨⟨ho, hl, hsha⟩, ⟨r0, r1, r3, r4, r6, r7⟩, ⟨s1, s2, s7, s209, s666⟩, hch, hnd⟩ := hA
  have hnS : nS = 3 := rfl
  have hns := ho.2.1
  have hs0 := hsha.1
  have pw : 2 ^ (8 - h) = 2 * 2 ^ (8 - (h + 1)) := by rw [show 8 - h = (8 - (h + 1)) + 1 by omega, Nat.pow_succ, Nat.mul_comm]
  generalize hw : 2 ^ (8 - (h + 1)) = w at *
  generalize hV : w + pos = V at *
  have hV1 : V < 256 := by
    have := Nat.pow_le_pow_right (show 0 < 2 by decide) (show 8 - (h + 1) ≤ 7 by omega)
    rw [hw] at this
    omega
  have c1 : NdAt I p st h (2 * pos) := And.left <| hN h (2 * pos) (by omega) (by rw [pw]; omega) (by rw [pw]; omega) (by rw [pw, show 2 * w + 2 * pos = 2 * V by omega]; exact hk1)
  have c3 := hN h (2 * pos + 1) (by omega) (by rw [pw]; omega) (by rw [pw]; omega) (by rw [pw, show 2 * w + (2 * pos + 1) = 2 * V + 1 by omega]; exact hk2)
  have c4 : (pos + 1) * 2 ^ (h + 1) ≤ n := by
    have e : (pos + 1) * 2 ^ (h + 1) = (2 * pos + 1 + 1) * 2 ^ h := by rw [Nat.pow_succ, show 2 * pos + 1 + 1 = 2 * (pos + 1) by omega, Nat.mul_comm 2 (pos + 1), Nat.mul_assoc, Nat.mul_comm 2]
    rw [e]
    exact c3.2
  have c2 : NdAt I p st h (2 * pos + 1) := And.left <| hN h (2 * pos + 1) (by omega) (by rw [pw]; omega) (by rw [pw]; omega) (by rw [pw, show 2 * w + (2 * pos + 1) = 2 * V + 1 by omega]; exact hk2)
  unfold NdAt at c1 c2
  rw [pw, show 2 * w + 2 * pos = 2 * V by omega] at c1
  rw [pw, show 2 * w + (2 * pos + 1) = 2 * V + 1 by omega] at c2
  obtain ⟨I0, hI0⟩ : ∃ I0, I0 = u2 I (p + 666) V (vp_nar .boolean 1) := ⟨_, rfl⟩
  have f0 : ∀ c, c ≠ p + 666 → I0 c = I c := fun c hc => by rw [hI0]; exact u2_ne hc
  have hS0 : Sta I0 := ⟨fun j hj => by rw [f0 1 (by omega)]; exact hS.1 j hj, fun j hj => by rw [f0 0 (by omega)]; exact hS.2 j hj⟩
  obtain ⟨I2, b5, b6, b7⟩ := join_D (SL := SL) hsha (a := p + 210 + 2 * V) (b := p + 210 + (2 * V + 1)) (to := p + 210 + V) (by omega) (hnd (2 * V) (by omega)).2 ⟨by omega, by omega⟩ (by omega) (hnd (2 * V + 1) (by omega)).2 ⟨by omega, by omega⟩ (by omega) (by omega) (hnd V (by omega)).2 ⟨by omega, by omega, by omega⟩ (by omega) I0 J hS0
  have k1 : ∀ v, I2 (p + 666) v = if v = V then vp_nar .boolean 1 else I (p + 666) v := fun v => by
    rw [b6 (p + 666) (by omega) (by omega) (by omega) (by omega) (by omega), hI0, u2_row, u1_eq]
  have e1 : I2 (p + 1) = I (p + 1) := by rw [b6 (p + 1) (by omega) (by omega) (by omega) (by omega) (by omega), f0 _ (by omega)]
  have hv1 : vp_nar .boolean 1 ≠ 0 := by decide
  refine ⟨I2, ?_, fun c a b => by rw [b6 c (by omega) (by omega) (by omega) (by omega) (by omega), f0 c (by omega)], ?_, fun v hv => ?_, ?_⟩
  · unfold fX5_learn
    have m2 : (2 : Int32) * nI V = nI (2 * V) := by rw [show (2 : Int32) = nI 2 from rfl, pk_mul]
    rw [gR_mk ho r7, wI_mk (by omega) (by omega) s666 (by omega) (by decide), ← hI0, if_neg (show ¬ (256 : Int32) ≤ nI V from nI_lt_of (k := 256) (by decide) hV1)]
    rw [m2, nI_1, gR_mk ho r3, gR_mk ho r6, rR_mk (by omega) s209 (by omega) (by decide) (hnd (2 * V) (by omega)).1, gR_mk ho r6, rR_mk (by omega) s209 (by omega) (by decide) (hnd (2 * V + 1) (by omega)).1, gR_mk ho r6, rR_mk (by omega) s209 (by omega) (by decide) (hnd V (by omega)).1, cV_mk hs0, b5, bd_some]
  · intro h' pos' hh' hp' hv' hk'
    by_cases z : 2 ^ (8 - h') + pos' = V
    · obtain ⟨q1, q2⟩ := node_inj (h' := h + 1) (pos' := pos) hh' hh hp' (by rw [hw]; exact hp) (by rw [hw, z, hV])
      subst q1
      subst q2
      refine ⟨fun j hj => ?_, c4⟩
      rw [e1, z, b7 j hj, f0 _ (by omega), f0 _ (by omega)]
      have ea : ndH (I (p + 210 + 2 * V)) (I (p + 210 + (2 * V + 1))) = ndH (ctH (lfC (I (p + 1)) st) h (2 * pos' * 2 ^ h)) (ctH (lfC (I (p + 1)) st) h ((2 * pos' + 1) * 2 ^ h)) := by
        unfold ndH
        rw [hbs_ext c1, hbs_ext c2]
      rw [ea]
      show _ = ndH (ctH (lfC (I (p + 1)) st) h (pos' * 2 ^ (h + 1))) (ctH (lfC (I (p + 1)) st) h (pos' * 2 ^ (h + 1) + 2 ^ h)) j
      rw [show 2 * pos' * 2 ^ h = pos' * 2 ^ (h + 1) by rw [Nat.pow_succ, Nat.mul_comm 2 pos', Nat.mul_assoc, Nat.mul_comm 2], show (2 * pos' + 1) * 2 ^ h = pos' * 2 ^ (h + 1) + 2 ^ h by rw [Nat.add_mul, Nat.one_mul, Nat.pow_succ, Nat.mul_comm 2 pos', Nat.mul_assoc, Nat.mul_comm 2]]
    · rw [k1, if_neg z] at hk'
      refine ⟨fun j hj => ?_, (hN h' pos' hh' hp' hv' hk').2⟩
      rw [e1, b6 _ (by omega) (by omega) (by omega) (by omega) (by omega), f0 _ (by omega)]
      exact (hN h' pos' hh' hp' hv' hk').1 j hj
  · rw [k1]
    by_cases z : v = V
    · rw [if_pos z]; exact hv1
    · rw [if_neg z]; exact hv
  · rw [k1, if_pos rfl]
    exact hv1
end NodesC
