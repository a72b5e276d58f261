/-- THE CHAIN behind n entries -/
def chH (by_ : Nat → List Int32) : Nat → Nat → Int32
  | 0 => fun _ => 0
  | i + 1 => D (hbs (chH by_ i) ++ by_ i)
theorem hb_zero {j : Nat} : hb (fun _ => 0) j = 0 := b_ext fun i hi => by rw [bt_hb _ j hi, b_0, b_0]; rfl
theorem MF.data {m : Nat} {I I' : Nat → Nat → Int32} (h : MF m I I') : I' (m + 19) = I (m + 19) := h.1 _ (by omega) (by omega) (by omega) (by omega) (by omega)
theorem MF.beg {m : Nat} {I I' : Nat → Nat → Int32} (h : MF m I I') : I' (m + 21) = I (m + 21) := h.1 _ (by omega) (by omega) (by omega) (by omega) (by omega)
theorem MF.siz {m : Nat} {I I' : Nat → Nat → Int32} (h : MF m I I') : I' (m + 22) = I (m + 22) := h.1 _ (by omega) (by omega) (by omega) (by omega) (by omega)
theorem MF.rnd {m : Nat} {I I' : Nat → Nat → Int32} (h : MF m I I') : I' (m + 31) = I (m + 31) := h.1 _ (by omega) (by omega) (by omega) (by omega) (by omega)
section ChainM
variable {N SL : Nat} {S : Nat → Shp} {R : Nat → Nat → Option Nat} {m : Nat}
theorem sayC_loop (hA : MdAt N S R m) (I : Nat → Nat → Int32) (J : Nat → Nat → Int64) (K : Nat → Int32 → Int32 → Mem → Option (Unit × Mem)) (L : Int32) (i : Int32) : ∀ (q b : Nat) (r : Nat → Int32) (k fuel : Nat), b + q = 32 → q < fuel → k + q ≤ 256 →
    fX9_chain_30 K fuel m L i (nI b) (N, SL, S, R, smI I m r k, J) = bd (fX9_saysEntry m i (N, SL, S, R, smI I m (fun j => if k ≤ j ∧ j < k + q then I (m + 35) (b + (j - k)) else r j) (k + q), J)) (fun _ M1 => cV M1 9 m (fX9_sum m M1) fun _ M3 => K m L (i + (1 : Int32)) M3) := by
  obtain ⟨rh, sh, lh, nh⟩ := md_hash hA
  have ho := hA.1
  intro q
  induction q with
  | zero =>
    intro b r k fuel hb hf hk
    obtain ⟨y, rfl⟩ : ∃ y, fuel = y + 1 := ⟨fuel - 1, by omega⟩
    have hb : b = 32 := by omega
    subst hb
    rw [fX9_chain_30, if_pos (by decide), cV_mk ho]
    have e1 : (fun j => if k ≤ j ∧ j < k + 0 then I (m + 35) (32 + (j - k)) else r j) = r := funext fun j => if_neg (by omega)
    rw [e1]
    rfl
  | succ q ih =>
    intro b r k fuel hb hf hk
    obtain ⟨y, rfl⟩ : ∃ y, fuel = y + 1 := ⟨fuel - 1, by omega⟩
    rw [fX9_chain_30, if_neg (show ¬ (32 : Int32) ≤ nI b from nI_lt_of (k := 32) (by decide) (by omega)), gR_mk ho rh, rI_mk lh sh (by omega) (by decide), sm_ne (by omega) (by omega), cV_mk ho, says_sm hA I J r k (by omega), bd_some, nI_1]
    rw [ih (b + 1) _ (k + 1) y (by omega) (by omega) (by omega), show k + 1 + q = k + (q + 1) by omega]
    refine congrArg (fun w => bd (fX9_saysEntry m i (N, SL, S, R, smI I m w (k + (q + 1)), J)) (fun _ M1 => cV M1 9 m (fX9_sum m M1) fun _ M3 => K m L (i + (1 : Int32)) M3)) (funext fun j => ?_)
    by_cases q1 : k + 1 ≤ j ∧ j < k + (q + 1)
    · rw [if_pos q1, if_pos ⟨by omega, by omega⟩, show b + 1 + (j - (k + 1)) = b + (j - k) by omega]
    · rw [if_neg q1]
      by_cases q2 : j = k
      · rw [if_pos q2, if_pos ⟨by omega, by omega⟩, show b + (j - k) = b by omega]
      · rw [if_neg q2, if_neg (fun h => q1 ⟨by omega, h.2⟩)]
/-- one step of the chain -/
theorem chain_step (hA : MdAt N S R m) (I : Nat → Nat → Int32) (J : Nat → Nat → Int64) (hK : ∀ j, j < 64 → I (m + 31) j = K0h j) (h42 : I m 42 = nI 0) (h : Nat → Int32) (hh : ∀ j, j < 32 → I (m + 35) j = hb h j) (i b z : Nat) (hi : i < 200) (hbe : I (m + 21) i = nI b) (hz : I (m + 22) i = nI z) (hbz : b + z ≤ 17000) (hz2 : z < 87) (K : Nat → Int32 → Int32 → Mem → Option (Unit × Mem)) (L : Int32) :
    ∃ I' : Nat → Nat → Int32, fX9_chain_30 K FU m L (nI i) (nI 0) (N, SL, S, R, I, J) = K m L (nI (i + 1)) (N, SL, S, R, I', J) ∧ MF m I I' ∧ I' m 42 = nI 0 ∧ ∀ j, j < 32 → I' (m + 35) j = hb (D (hbs h ++ bysM I m b z)) j := by
  have ho := hA.1
  have hlen : (hbs h ++ bysM I m b z).length = 32 + z := by rw [List.length_append, hbs_len, bysM_len]
  obtain ⟨I', g1, g2⟩ := sum_D (SL := SL) hA I J hK (hbs h ++ bysM I m b z) (by rw [hlen]; omega) (fun j => if 32 ≤ j ∧ j < 32 + z then I (m + 19) (b + (0 + (j - 32))) else if 0 ≤ j ∧ j < 0 + 32 then I (m + 35) (0 + (j - 0)) else I (m + 32) j) (fun j hj => by
    rw [hlen] at hj
    by_cases q : j < 32
    · rw [if_neg (by omega), if_pos ⟨by omega, by omega⟩, getD_app_l (by rw [hbs_len]; exact q), hbs_get h q, show 0 + (j - 0) = j by omega, hh j q]
    · rw [if_pos ⟨by omega, by omega⟩, getD_app_r (by rw [hbs_len]; omega), hbs_len, bysM_get (by omega), show 0 + (j - 32) = j - 32 by omega])
  refine ⟨I', ?_, g2⟩
  have e0 : (N, SL, S, R, I, J) = ((N, SL, S, R, smI I m (I (m + 32)) 0, J) : Mem) := by rw [sm_self h42]
  rw [e0, sayC_loop hA I J K L (nI i) 32 0 _ 0 FU rfl (by decide) (by decide)]
  unfold fX9_saysEntry
  have e2 := sayE_loop (SL := SL) hA I J i b z hi hbe hz hbz z 0 (fun j => if 0 ≤ j ∧ j < 0 + 32 then I (m + 35) (0 + (j - 0)) else I (m + 32) j) 32 FU (by omega) (by unfold FU; omega) (by omega)
  rw [hlen] at g1
  rw [show (0 : Int32) = nI 0 from rfl, show 0 + 32 = 32 from rfl] at *
  rw [e2, bd_some, cV_mk ho, g1, bd_some, nI_1]
theorem chain_loop (hA : MdAt N S R m) (J : Nat → Nat → Int64) (n : Nat) (hn : n ≤ 200) (bg sz : Nat → Nat) (hb1 : ∀ i, i < n → bg i + sz i ≤ 17000 ∧ sz i < 87) (D0 : Nat → Int32) : ∀ (q i : Nat) (I : Nat → Nat → Int32) (fuel : Nat), i + q = n → q < fuel → (∀ j, j < 64 → I (m + 31) j = K0h j) → I m 42 = nI 0 → I (m + 19) = D0 → (∀ i, i < n → I (m + 21) i = nI (bg i) ∧ I (m + 22) i = nI (sz i)) → (∀ j, j < 32 → I (m + 35) j = hb (chH (fun i => (List.range (sz i)).map (fun k => D0 (bg i + k))) i) j) →
    ∃ I' : Nat → Nat → Int32, fX9_chain_23 fuel m (nI n) (nI i) (N, SL, S, R, I, J) = some ((), (N, SL, S, R, I', J)) ∧ MF m I I' ∧ I' m 42 = nI 0 ∧ ∀ j, j < 32 → I' (m + 35) j = hb (chH (fun i => (List.range (sz i)).map (fun k => D0 (bg i + k))) n) j := by
  intro q
  induction q with
  | zero =>
    intro i I fuel hi hf hK h42 hd hbs_ hh
    obtain ⟨y, rfl⟩ : ∃ y, fuel = y + 1 := ⟨fuel - 1, by omega⟩
    have hi : i = n := by omega
    subst hi
    exact ⟨I, by rw [fX9_chain_23, if_pos ((nI_leI (by omega) (by omega)).mpr (Nat.le_refl _))], MF.refl, h42, hh⟩
  | succ q ih =>
    intro i I fuel hi hf hK h42 hd hbs_ hh
    obtain ⟨y, rfl⟩ : ∃ y, fuel = y + 1 := ⟨fuel - 1, by omega⟩
    obtain ⟨I1, g1, g2, g3, g4⟩ := chain_step (SL := SL) hA I J hK h42 _ hh i (bg i) (sz i) (by omega) (hbs_ i (by omega)).1 (hbs_ i (by omega)).2 (hb1 i (by omega)).1 (hb1 i (by omega)).2 (fX9_chain_23 y) (nI n)
    obtain ⟨I2, k1, k2, k3, k4⟩ := ih (i + 1) I1 y (by omega) (by omega) (fun j hj => by rw [g2.rnd]; exact hK j hj) g3 (by rw [g2.data]; exact hd) (fun i hi => by rw [g2.beg, g2.siz]; exact hbs_ i hi) (fun j hj => by
      rw [g4 j hj]
      unfold bysM
      rw [hd]
      rfl)
    refine ⟨I2, ?_, g2.trans k2, k3, k4⟩
    rw [fX9_chain_23, if_neg (nI_lt_of (k := n) (by omega) (by omega)), show (0 : Int32) = nI 0 from rfl, g1]
    exact k1
end ChainM
