-- P1, reference: says, sum
/-- the memory with the message r of k bytes -/
def smI (I : Nat → Nat → Int32) (m : Nat) (r : Nat → Int32) (k : Nat) : Nat → Nat → Int32 := u1 (u1 I (m + 32) r) m (fun j => if j = 42 then nI k else I m j)
theorem sm_self {I : Nat → Nat → Int32} {m k : Nat} (h : I m 42 = nI k) : smI I m (I (m + 32)) k = I := by
  unfold smI
  rw [u1_self]
  have e : (fun j => if j = 42 then nI k else I m j) = I m := funext fun j => by
    by_cases q : j = 42
    · rw [if_pos q, q, h]
    · rw [if_neg q]
  rw [e, u1_self]
theorem sm_m {I : Nat → Nat → Int32} {m k : Nat} {r : Nat → Int32} (j : Nat) : smI I m r k m j = if j = 42 then nI k else I m j := by unfold smI; rw [u1_eq]
theorem sm_msg {I : Nat → Nat → Int32} {m k : Nat} {r : Nat → Int32} : smI I m r k (m + 32) = r := by unfold smI; rw [u1_ne (by omega), u1_eq]
theorem sm_ne {I : Nat → Nat → Int32} {m k c : Nat} {r : Nat → Int32} (h1 : c ≠ m) (h2 : c ≠ m + 32) : smI I m r k c = I c := by unfold smI; rw [u1_ne h1, u1_ne h2]
section ShaM2
variable {N SL : Nat} {S : Nat → Shp} {R : Nat → Nat → Option Nat} {m : Nat}
theorem says_sm (hA : MdAt N S R m) (I : Nat → Nat → Int32) (J : Nat → Nat → Int64) (r : Nat → Int32) (k : Nat) (hk : k < 256) (x : Int32) : fX9_says m x (N, SL, S, R, smI I m r k, J) = some ((), (N, SL, S, R, smI I m (fun j => if j = k then x else r j) (k + 1), J)) := by
  obtain ⟨r41, s41, l41, n41⟩ := md_message hA
  have ho := hA.1
  have e : ∀ y, u2 (smI I m r k) (m + 32) k y m = smI I m r k m := fun y => u2_ne (by omega)
  unfold fX9_says
  rw [gR_mk ho r41, gI_mk ho, sm_m, if_pos rfl, wI_mk l41 n41 s41 hk (by decide), vp_narI, gI_mk ho, e, sm_m, if_pos rfl, pI_mk ho, nI_1]
  refine congrArg (fun z => some ((), (N, SL, S, R, z, J))) ?_
  funext c j
  unfold smI u2 u1
  by_cases h1 : c = m
  · subst h1
    by_cases h2 : j = 42
    · simp [h2]
    · simp [h2]
  · by_cases h2 : c = m + 32
    · subst h2
      by_cases h3 : j = k <;> simp [h3]
    · simp [h1, h2]
theorem zero_sm (hA : MdAt N S R m) (I : Nat → Nat → Int32) (J : Nat → Nat → Int64) (L : Int32) (e : Nat) (he : e = 56 ∨ e = 120) : ∀ (q k : Nat) (r : Nat → Int32) (fuel : Nat), k + q = e → q < fuel → e < k + 64 →
    fX9_sum_12 fuel m L (N, SL, S, R, smI I m r k, J) = fX9_sum_34 FU m L (0 : Int32) (N, SL, S, R, smI I m (fun j => if k ≤ j ∧ j < e then 0 else r j) e, J) := by
  have ho := hA.1
  have hrem : ∀ k, k < 256 → nI k - nI k / (64 : Int32) * (64 : Int32) = nI (k % 64) := fun k hk => by
    rw [show (64 : Int32) = nI 64 from rfl]; exact pk_rem (by omega) (by decide) (by decide)
  intro q
  induction q with
  | zero =>
    intro k r fuel hk hf hl
    obtain ⟨z, rfl⟩ : ∃ z, fuel = z + 1 := ⟨fuel - 1, by omega⟩
    have hk : k = e := by omega
    subst hk
    rw [fX9_sum_12, gI_mk ho, sm_m, if_pos rfl, if_neg (by decide), hrem k (by omega)]
    rw [if_pos (by rcases he with rfl | rfl <;> rfl)]
    have e1 : (fun j => if k ≤ j ∧ j < k then (0 : Int32) else r j) = r := funext fun j => if_neg (by omega)
    rw [e1]
  | succ q ih =>
    intro k r fuel hk hf hl
    obtain ⟨z, rfl⟩ : ∃ z, fuel = z + 1 := ⟨fuel - 1, by omega⟩
    rw [fX9_sum_12, gI_mk ho, sm_m, if_pos rfl, if_neg (by decide), hrem k (by omega)]
    rw [if_neg (fun h => by
      have h := (nI_eq (a := k % 64) (b := 56) (by omega) (by decide)).mp h
      omega)]
    rw [cV_mk ho, says_sm hA I J r k (by omega), bd_some, ih (k + 1) _ z (by omega) (by omega) (by omega)]
    refine congrArg (fun y => fX9_sum_34 FU m L (0 : Int32) (N, SL, S, R, smI I m y e, J)) (funext fun j => ?_)
    by_cases q1 : k + 1 ≤ j ∧ j < e
    · rw [if_pos q1, if_pos ⟨by omega, q1.2⟩]
    · rw [if_neg q1]
      by_cases q2 : j = k
      · rw [if_pos q2, if_pos ⟨by omega, by omega⟩]
      · rw [if_neg q2, if_neg (fun h => q1 ⟨by omega, h.2⟩)]
theorem len_24 : ∀ n, n < 120 → (xshr ((8 : Int32) * nI n) 24) &&& 255 = 0 := by decide +kernel
theorem len_16 : ∀ n, n < 120 → (xshr ((8 : Int32) * nI n) 16) &&& 255 = 0 := by decide +kernel
theorem len_8 : ∀ n, n < 120 → (xshr ((8 : Int32) * nI n) 8) &&& 255 = nI (n / 32) := by decide +kernel
theorem len_0 : ∀ n, n < 120 → (xshr ((8 : Int32) * nI n) 0) &&& 255 = nI (8 * n % 256) := by decide +kernel
/-- what sum() goes on with, behind the padding -/
def sumF (m : Nat) (M : Mem) : Option (Unit × Mem) := fX9_sum_53 1 m 0 (-8 : Int32) M
theorem pad_sm (hA : MdAt N S R m) (I : Nat → Nat → Int32) (J : Nat → Nat → Int64) (r : Nat → Int32) (n : Nat) (hn : n < 120) (e : Nat) (he : e = 56 ∨ e = 120) (hne : n + 1 ≤ e ∧ e < n + 65) :
    fX9_sum m (N, SL, S, R, smI I m r n, J) = sumF m (N, SL, S, R, smI I m (fun j => if j < e + 8 then padP r n (e + 8) j else r j) (e + 8), J) := by
  have ho := hA.1
  unfold fX9_sum
  rw [gI_mk ho, sm_m, if_pos rfl, cV_mk ho, says_sm hA I J r n (by omega), bd_some]
  rw [zero_sm hA I J (nI n) e he (e - (n + 1)) (n + 1) _ FU (by omega) (by unfold FU; omega) (by omega)]
  rw [show FU = ((((999995 + 1) + 1) + 1) + 1) + 1 from rfl]
  rw [fX9_sum_34, if_neg (by decide), cV_mk ho, says_sm hA I J _ _ (by omega), bd_some, show (0 : Int32) + 1 = 1 from rfl]
  rw [fX9_sum_34, if_neg (by decide), cV_mk ho, says_sm hA I J _ _ (by omega), bd_some, show (1 : Int32) + 1 = 2 from rfl]
  rw [fX9_sum_34, if_neg (by decide), cV_mk ho, says_sm hA I J _ _ (by omega), bd_some, show (2 : Int32) + 1 = 3 from rfl]
  rw [fX9_sum_34, if_neg (by decide), cV_mk ho, says_sm hA I J _ _ (by omega), bd_some, show (3 : Int32) + 1 = 4 from rfl]
  rw [fX9_sum_34, if_pos (by decide)]
  rw [show FU = ((((999995 + 1) + 1) + 1) + 1) + 1 from rfl]
  rw [fX9_sum_53, if_neg (by decide), len_24 n hn, cV_mk ho, says_sm hA I J _ _ (by omega), bd_some, show (24 : Int32) + (-8) = 16 from rfl]
  rw [fX9_sum_53, if_neg (by decide), len_16 n hn, cV_mk ho, says_sm hA I J _ _ (by omega), bd_some, show (16 : Int32) + (-8) = 8 from rfl]
  rw [fX9_sum_53, if_neg (by decide), len_8 n hn, cV_mk ho, says_sm hA I J _ _ (by omega), bd_some, show (8 : Int32) + (-8) = 0 from rfl]
  rw [fX9_sum_53, if_neg (by decide), len_0 n hn, cV_mk ho, says_sm hA I J _ _ (by omega), bd_some, show (0 : Int32) + (-8) = -8 from rfl]
  rw [show e + 1 + 1 + 1 + 1 + 1 + 1 + 1 + 1 = e + 8 by omega]
  unfold sumF
  rw [fX9_sum_53, fX9_sum_53, if_pos (by decide), if_pos (by decide)]
  have hr : (fun j => if j = e + 1 + 1 + 1 + 1 + 1 + 1 + 1 then nI (8 * n % 256) else if j = e + 1 + 1 + 1 + 1 + 1 + 1 then nI (n / 32) else if j = e + 1 + 1 + 1 + 1 + 1 then (0 : Int32) else if j = e + 1 + 1 + 1 + 1 then (0 : Int32) else if j = e + 1 + 1 + 1 then (0 : Int32) else if j = e + 1 + 1 then (0 : Int32) else if j = e + 1 then (0 : Int32) else if j = e then (0 : Int32) else if n + 1 ≤ j ∧ j < e then (0 : Int32) else if j = n then (128 : Int32) else r j) = (fun j => if j < e + 8 then padP r n (e + 8) j else r j) := by
    funext j
    unfold padP
    repeat' split
    all_goals first | rfl | (exfalso; omega)
  rw [← hr]
end ShaM2
