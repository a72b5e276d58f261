/-- what nodeOf rests on, and keeps -/
def NInv (I : Nat → Nat → Int32) (p : Nat) (st : Nat → Nat) (n : Nat) : Prop := StOk I p st n ∧ Sta I ∧ NdOk I p st n
theorem NF.inv {p : Nat} {I I' : Nat → Nat → Int32} {st : Nat → Nat} {n : Nat} (hp : nS ≤ p) (h : NF p I I') (hI : NInv I p st n) (hN : NdOk I' p st n) : NInv I' p st n := by
  have hnS : nS = 3 := rfl
  refine ⟨⟨fun i hi => by rw [h (p + 2) (by omega) (by omega)]; exact hI.1.1 i hi, hI.1.2⟩, ⟨fun j hj => by rw [h 1 (by omega) (by omega)]; exact hI.2.1.1 j hj, fun j hj => by rw [h 0 (by omega) (by omega)]; exact hI.2.1.2 j hj⟩, hN⟩
section NodesC2
variable {N SL : Nat} {S : Nat → Shp} {R : Nat → Nat → Option Nat} {p : Nat}
/-- the nodes v .. B - 1 are learned, where each can be -/
theorem nodes_loop (hA : PgAt N S R p) (J : Nat → Nat → Int64) (st : Nat → Nat) (n : Nat) (K : Nat → Int32 → Int32 → Int32 → Mem → Option (Nat × Mem)) (L P H : Int32) (A B : Nat) (hB : B ≤ 456) (kn : Nat → Prop)
    (hl : ∀ u I1, A ≤ u → u < B → NInv I1 p st n → (∀ v, kn v → I1 (p + 666) v ≠ 0) → ∃ I2 : Nat → Nat → Int32, fX5_learn p (nI u) (N, SL, S, R, I1, J) = some ((), (N, SL, S, R, I2, J)) ∧ NF p I1 I2 ∧ NdOk I2 p st n ∧ (∀ v, I1 (p + 666) v ≠ 0 → I2 (p + 666) v ≠ 0) ∧ I2 (p + 666) u ≠ 0) :
    ∀ (q v : Nat) (I : Nat → Nat → Int32) (fuel : Nat), v + q = B → A ≤ v → q < fuel → NInv I p st n → (∀ v, kn v → I (p + 666) v ≠ 0) →
    ∃ I' : Nat → Nat → Int32, fX5_nodeOf_34 K fuel p L P H (nI B) (nI v) (N, SL, S, R, I, J) = K p L P (H + (1 : Int32)) (N, SL, S, R, I', J) ∧ NF p I I' ∧ NInv I' p st n ∧ (∀ v, I (p + 666) v ≠ 0 → I' (p + 666) v ≠ 0) ∧ ∀ u, v ≤ u → u < B → I' (p + 666) u ≠ 0 := by
  obtain ⟨⟨ho, hlN, hsha⟩, ⟨r0, r1, r3, r4, r6, r7⟩, ⟨s1, s2, s7, s209, s666⟩, hch, hnd⟩ := hA
  intro q
  induction q with
  | zero =>
    intro v I fuel hv hAv hf hI hk
    obtain ⟨y, rfl⟩ : ∃ y, fuel = y + 1 := ⟨fuel - 1, by omega⟩
    refine ⟨I, ?_, NF.refl, hI, fun _ h => h, fun u h1 h2 => absurd h2 (by omega)⟩
    rw [fX5_nodeOf_34, if_pos ((nI_leI (by omega) (by omega)).mpr (by omega))]
  | succ q ih =>
    intro v I fuel hv hAv hf hI hk
    obtain ⟨y, rfl⟩ : ∃ y, fuel = y + 1 := ⟨fuel - 1, by omega⟩
    rw [fX5_nodeOf_34, if_neg (nI_lt_of (k := B) (by omega) (by omega)), gR_mk ho r7, rI_mk (by omega) s666 (by omega) (by decide)]
    by_cases z : I (p + 666) v = 0
    · rw [if_pos z]
      obtain ⟨I2, g1, g2, g3, g4, g5⟩ := hl v I hAv (by omega) hI hk
      obtain ⟨I', k1, k2, k3, k4, k5⟩ := ih (v + 1) I2 y (by omega) (by omega) (by omega) (g2.inv ho.2.1 hI g3) (fun u hu => g4 u (hk u hu))
      refine ⟨I', ?_, g2.trans k2, k3, fun u hu => k4 u (g4 u hu), fun u h1 h2 => ?_⟩
      · rw [cV_mk ho, g1, bd_some]
        unfold fX5_nodeOf_57
        rw [nI_1]
        exact k1
      · by_cases w : u = v
        · rw [w]; exact k4 v g5
        · exact k5 u (by omega) h2
    · rw [if_neg z]
      obtain ⟨I', k1, k2, k3, k4, k5⟩ := ih (v + 1) I y (by omega) (by omega) (by omega) hI hk
      refine ⟨I', ?_, k2, k3, k4, fun u h1 h2 => ?_⟩
      · unfold fX5_nodeOf_57
        rw [nI_1]
        exact k1
      · by_cases w : u = v
        · rw [w]; exact k4 v z
        · exact k5 u (by omega) h2
theorem sh256 : ∀ h, h < 9 → xshr (256 : Int32) (nI h) = nI (2 ^ (8 - h)) := by decide +kernel
theorem shl1 : ∀ d, d < 9 → xshl (1 : Int32) (nI d) = nI (2 ^ d) := by decide +kernel
theorem shlp : ∀ d, d < 9 → ∀ q, q < 256 → xshl (nI q) (nI d) = nI (q * 2 ^ d) := by decide +kernel
end NodesC2
