/-- the hash of an inner node -/
def ndH (a b : Nat → Int32) : Nat → Int32 := D (1 :: (hbs a ++ hbs b))
theorem getD_app_l {a b : List Int32} {j : Nat} (h : j < a.length) : (a ++ b).getD j 0 = a.getD j 0 := by
  rw [List.getD_eq_getElem?_getD, List.getD_eq_getElem?_getD, List.getElem?_append_left h]
theorem getD_app_r {a b : List Int32} {j : Nat} (h : a.length ≤ j) : (a ++ b).getD j 0 = b.getD (j - a.length) 0 := by
  rw [List.getD_eq_getElem?_getD, List.getD_eq_getElem?_getD, List.getElem?_append_right h]
section ShaM5
variable {N SL : Nat} {S : Nat → Shp} {R : Nat → Nat → Option Nat} {m : Nat}
theorem sayH_loop (hA : MdAt N S R m) (I : Nat → Nat → Int32) (J : Nat → Nat → Int64) : ∀ (q b : Nat) (r : Nat → Int32) (k fuel : Nat), b + q = 32 → q < fuel → k + q ≤ 256 →
    fX9_joins_36 fuel m (nI b) (N, SL, S, R, smI I m r k, J) = bd (fX9_sum m (N, SL, S, R, smI I m (fun j => if k ≤ j ∧ j < k + q then I (m + 35) (b + (j - k)) else r j) (k + q), J)) (fun _ M => some ((), M)) := by
  obtain ⟨rh, sh, lh, nh⟩ := md_hash hA
  have ho := hA.1
  intro q
  induction q with
  | zero =>
    intro b r k fuel hb hf hk
    obtain ⟨y, rfl⟩ : ∃ y, fuel = y + 1 := ⟨fuel - 1, by omega⟩
    have hb : b = 32 := by omega
    subst hb
    rw [fX9_joins_36, if_pos (by decide), cV_mk ho]
    have e1 : (fun j => if k ≤ j ∧ j < k + 0 then I (m + 35) (32 + (j - k)) else r j) = r := funext fun j => if_neg (by omega)
    rw [e1]
    rfl
  | succ q ih =>
    intro b r k fuel hb hf hk
    obtain ⟨y, rfl⟩ : ∃ y, fuel = y + 1 := ⟨fuel - 1, by omega⟩
    rw [fX9_joins_36, if_neg (show ¬ (32 : Int32) ≤ nI b from nI_lt_of (k := 32) (by decide) (by omega)), gR_mk ho rh, rI_mk lh sh (by omega) (by decide), sm_ne (by omega) (by omega), cV_mk ho, says_sm hA I J r k (by omega), bd_some, nI_1]
    rw [ih (b + 1) _ (k + 1) y (by omega) (by omega) (by omega), show k + 1 + q = k + (q + 1) by omega]
    refine congrArg (fun w => bd (fX9_sum m (N, SL, S, R, smI I m w (k + (q + 1)), J)) (fun _ M => some ((), M))) (funext fun j => ?_)
    by_cases q1 : k + 1 ≤ j ∧ j < k + (q + 1)
    · rw [if_pos q1, if_pos ⟨by omega, by omega⟩, show b + 1 + (j - (k + 1)) = b + (j - k) by omega]
    · rw [if_neg q1]
      by_cases q2 : j = k
      · rw [if_pos q2, if_pos ⟨by omega, by omega⟩, show b + (j - k) = b by omega]
      · rw [if_neg q2, if_neg (fun h => q1 ⟨by omega, h.2⟩)]
theorem sayW_loop (hA : MdAt N S R m) (I : Nat → Nat → Int32) (J : Nat → Nat → Int64) (w : Nat) (hw : w < 16) : ∀ (q b : Nat) (r : Nat → Int32) (k fuel : Nat), b + q = 32 → q < fuel → k + q ≤ 256 →
    fX9_joins_7 fuel m (nI w) (nI b) (N, SL, S, R, smI I m r k, J) = fX9_joins_36 FU m (nI 0) (N, SL, S, R, smI I m (fun j => if k ≤ j ∧ j < k + q then I (m + 36) (32 * w + (b + (j - k))) else r j) (k + q), J) := by
  obtain ⟨rh, sh, lh, nh⟩ := md_waits hA
  have ho := hA.1
  intro q
  induction q with
  | zero =>
    intro b r k fuel hb hf hk
    obtain ⟨y, rfl⟩ : ∃ y, fuel = y + 1 := ⟨fuel - 1, by omega⟩
    have hb : b = 32 := by omega
    subst hb
    rw [fX9_joins_7, if_pos (by decide)]
    have e1 : (fun j => if k ≤ j ∧ j < k + 0 then I (m + 36) (32 * w + (32 + (j - k))) else r j) = r := funext fun j => if_neg (by omega)
    rw [e1]
    rfl
  | succ q ih =>
    intro b r k fuel hb hf hk
    obtain ⟨y, rfl⟩ : ∃ y, fuel = y + 1 := ⟨fuel - 1, by omega⟩
    have ei : (32 : Int32) * nI w + nI b = nI (32 * w + b) := by rw [show (32 : Int32) = nI 32 from rfl, pk_mul, nI_add]
    rw [fX9_joins_7, if_neg (show ¬ (32 : Int32) ≤ nI b from nI_lt_of (k := 32) (by decide) (by omega)), ei, gR_mk ho rh, rI_mk lh sh (by omega) (by decide), sm_ne (by omega) (by omega), cV_mk ho, says_sm hA I J r k (by omega), bd_some, nI_1]
    rw [ih (b + 1) _ (k + 1) y (by omega) (by omega) (by omega), show k + 1 + q = k + (q + 1) by omega]
    refine congrArg (fun w => fX9_joins_36 FU m (nI 0) (N, SL, S, R, smI I m w (k + (q + 1)), J)) (funext fun j => ?_)
    by_cases q1 : k + 1 ≤ j ∧ j < k + (q + 1)
    · rw [if_pos q1, if_pos ⟨by omega, by omega⟩, show b + 1 + (j - (k + 1)) = b + (j - k) by omega]
    · rw [if_neg q1]
      by_cases q2 : j = k
      · rw [if_pos q2, if_pos ⟨by omega, by omega⟩, show b + (j - k) = b by omega]
      · rw [if_neg q2, if_neg (fun h => q1 ⟨by omega, h.2⟩)]
/-- joins(w): the node over the waiting hash w and the hash -/
theorem joins_D (hA : MdAt N S R m) (I : Nat → Nat → Int32) (J : Nat → Nat → Int64) (hK : ∀ j, j < 64 → I (m + 31) j = K0h j) (h42 : I m 42 = nI 0) (w : Nat) (hw : w < 16) (a b : Nat → Int32) (ha : ∀ j, j < 32 → I (m + 36) (32 * w + j) = hb a j) (hbb : ∀ j, j < 32 → I (m + 35) j = hb b j) :
    ∃ I' : Nat → Nat → Int32, fX9_joins m (nI w) (N, SL, S, R, I, J) = some ((), (N, SL, S, R, I', J)) ∧ MF m I I' ∧ I' m 42 = nI 0 ∧ ∀ j, j < 32 → I' (m + 35) j = hb (ndH a b) j := by
  have ho := hA.1
  have hlen : (1 :: (hbs a ++ hbs b)).length = 65 := by simp [hbs_len]
  obtain ⟨I', g1, g2⟩ := sum_D (SL := SL) hA I J hK (1 :: (hbs a ++ hbs b)) (by rw [hlen]; decide) (fun j => if 33 ≤ j ∧ j < 33 + 32 then I (m + 35) (0 + (j - 33)) else if 1 ≤ j ∧ j < 1 + 32 then I (m + 36) (32 * w + (0 + (j - 1))) else if j = 0 then (1 : Int32) else I (m + 32) j) (fun j hj => by
    rw [hlen] at hj
    match j with
    | 0 => rfl
    | j + 1 =>
      rw [List.getD_cons_succ]
      by_cases q : j < 32
      · rw [if_neg (by omega), if_pos ⟨by omega, by omega⟩, getD_app_l (by rw [hbs_len]; exact q), hbs_get a q, show 0 + (j + 1 - 1) = j by omega, ha j q]
      · rw [if_pos ⟨by omega, by omega⟩, getD_app_r (by rw [hbs_len]; omega), hbs_len, hbs_get b (by omega), show 0 + (j + 1 - 33) = j - 32 by omega, hbb (j - 32) (by omega)])
  refine ⟨I', ?_, g2⟩
  unfold fX9_joins
  have e0 : (N, SL, S, R, I, J) = ((N, SL, S, R, smI I m (I (m + 32)) 0, J) : Mem) := by rw [sm_self h42]
  rw [e0, cV_mk ho, says_sm hA I J _ 0 (by decide), bd_some]
  have e1 := sayW_loop (SL := SL) hA I J w hw 32 0 (fun j => if j = 0 then (1 : Int32) else I (m + 32) j) (0 + 1) FU rfl (by decide) (by decide)
  have e2 := sayH_loop (SL := SL) hA I J 32 0 (fun j => if 1 ≤ j ∧ j < 1 + 32 then I (m + 36) (32 * w + (0 + (j - 1))) else if j = 0 then (1 : Int32) else I (m + 32) j) 33 FU rfl (by decide) (by decide)
  refine e1.trans (e2.trans ?_)
  rw [hlen] at g1
  rw [show 33 + 32 = 65 from rfl, g1, bd_some]
end ShaM5
