-- P3: legs; what refuses them
/-- the sums of the upper and of the lower halves of the amounts -/
def hlS (lg : Nat → Nat × Int64) : Nat → Nat → Int64 → Int64 → Int64 × Int64
  | 0, _, h, l => (h, l)
  | q + 1, k, h, l => hlS lg q (k + 1) (h + yshr (lg k).2 32) (l + ((lg k).2 &&& 4294967295))
/-- the legs come to nothing -/
abbrev evenL (n : Nat) (lg : Nat → Nat × Int64) : Prop := ((hlS lg n 0 0 0).2 &&& 4294967295) = 0 ∧ (hlS lg n 0 0 0).1 + yshr (hlS lg n 0 0 0).2 32 = 0
/-- the balances behind the legs; none where one goes over -/
def bhR (lg : Nat → Nat × Int64) : Nat → Nat → (Nat → Int64) → Option (Nat → Int64)
  | 0, _, ba => some ba
  | q + 1, k, ba => if 0 ≤ ((ba (lg k).1 ^^^ (ba (lg k).1 + (lg k).2)) &&& ((lg k).2 ^^^ (ba (lg k).1 + (lg k).2))) then bhR lg q (k + 1) (up ba (lg k).1 (ba (lg k).1 + (lg k).2)) else none
/-- a leg's account comes below its floor; hb: what is held behind -/
abbrev lowB (L : Lg) (bb : Nat → Int64) (hb : Nat → Nat) (n : Nat) (lg : Nat → Nat × Int64) : Prop := ∃ k, k < n ∧ (bb (lg k).1).toInt < (L.fl (lg k).1).toInt + (hb (lg k).1 : Int)
def wghO (L : Lg) (hb : Nat → Nat) (n : Nat) (lg : Nat → Nat × Int64) : Option (Nat → Int64) → Int32
  | none => -5
  | some bb => if lowB L bb hb n lg then -6 else if L.ne < 200 then 0 else -8
/-- what refuses the legs: -5, -6, -8, or 0 -/
def wgh (L : Lg) (hb : Nat → Nat) (n : Nat) (lg : Nat → Nat × Int64) : Int32 := wghO L hb n lg (bhR lg n 0 L.ba)
/-- the Legs at g are these -/
def LegsOk (I : Nat → Nat → Int32) (J : Nat → Nat → Int64) (g n : Nat) (lg : Nat → Nat × Int64) : Prop := I g 2 = nI n ∧ n ≤ 8 ∧ ∀ k, k < n → I (g + 1) k = nI (lg k).1 ∧ J (g + 2) k = (lg k).2
section Weigh
variable {N SL : Nat} {S : Nat → Shp} {R : Nat → Nat → Option Nat} {b g : Nat}
theorem isBelow_mk (x y : Int64) (M : Mem) : fX8_isBelow x y M = some (if x.toUInt64.toNat < y.toUInt64.toNat then 1 else 0, M) := by
  unfold fX8_isBelow fX8_isBelow_19
  by_cases q : x.toUInt64.toNat < y.toUInt64.toNat
  · have h := (below_u x y).mpr q
    rw [if_neg (Int64.not_le.mpr h), if_pos q, retZ_1]
  · have h := fun z => q ((below_u x y).mp z)
    rw [if_pos (Int64.not_lt.mp h), if_neg q, retZ_0]
theorem isByte_mk (x : Int32) (M : Mem) : fX8_isByte x M = some (if x < 0 ∨ 255 < x then 0 else 1, M) := by
  unfold fX8_isByte fX8_isByte_15 fX8_isByte_16
  by_cases q : x < 0
  · rw [if_pos q, if_pos (Or.inl q), retZ_0]
  · rw [if_neg q]
    by_cases w : 255 < x
    · rw [if_pos w, if_pos (Or.inr w), retZ_0]
    · rw [if_neg w, if_neg (fun z => z.elim q w), retZ_1]
theorem canBe_mk (x : Int32) (M : Mem) : fX8_canBeEntry x M = some (if x < 0 ∨ 200 ≤ x then 0 else 1, M) := by
  unfold fX8_canBeEntry fX8_canBeEntry_15 fX8_canBeEntry_16
  by_cases q : x < 0
  · rw [if_pos q, if_pos (Or.inl q), retZ_0]
  · rw [if_neg q]
    by_cases w : 200 ≤ x
    · rw [if_pos w, if_pos (Or.inr w), retZ_0]
    · rw [if_neg w, if_neg (fun z => z.elim q w), retZ_1]
/-- a small number that is not below 0 is a nI -/
theorem nI_sm {x : Int32} {n : Nat} (h0 : ¬ x < 0) (h1 : x < nI n ∨ x ≤ nI n) (hn : n < 2 ^ 31) : ∃ a, x = nI a ∧ a ≤ n := by
  have e : (nI n).toInt = n := Int32.toInt_ofNat_of_lt hn
  have h2 : 0 ≤ x.toInt := by
    have := Int.not_lt.mp (fun z => h0 (Int32.lt_iff_toInt_lt.mpr z))
    have z0 : (0 : Int32).toInt = 0 := rfl
    omega
  have h3 : x.toInt ≤ n := by
    rcases h1 with h | h
    · have := Int32.lt_iff_toInt_lt.mp h; omega
    · have := Int32.le_iff_toInt_le.mp h; omega
  refine ⟨x.toInt.toNat, ?_, by omega⟩
  apply Int32.toInt_inj.mp
  show _ = (Int32.ofNat x.toInt.toNat).toInt
  rw [Int32.toInt_ofNat_of_lt (by omega)]
  omega
theorem areThere_loop (hA : LedAt N S R b) (hG : LgAt N S R g) (I : Nat → Nat → Int32) (J : Nat → Nat → Int64) (L : Lg) (hC : CRep b I J L) (hna : L.na ≤ 40) (n : Nat) (lg : Nat → Nat × Int64) (hl : LegsOk I J g n lg) (h256 : ∀ k, k < n → (lg k).1 < 256) : ∀ (q k fuel : Nat), k + q = n → q < fuel → (∀ j, j < k → (lg j).1 < L.na) →
    fX3_areThere_2 fuel b g (nI k) (N, SL, S, R, I, J) = some (if ∀ j, j < n → (lg j).1 < L.na then 1 else 0, (N, SL, S, R, I, J))
  | 0, k, fuel, hk, hf, h => by
    obtain ⟨y, rfl⟩ : ∃ y, fuel = y + 1 := ⟨fuel - 1, by omega⟩
    have h8 := hl.2.1
    rw [fX3_areThere_2, lg_g hG, hl.1, if_pos ((nI_leI (by omega) (by omega)).mpr (by omega)), retZ_1, if_pos (fun j hj => h j (by omega))]
  | q + 1, k, fuel, hk, hf, h => by
    obtain ⟨y, rfl⟩ : ∃ y, fuel = y + 1 := ⟨fuel - 1, by omega⟩
    have h8 := hl.2.1
    have h9 := h256 k (by omega)
    rw [fX3_areThere_2, lg_g hG, hl.1, if_neg (nI_lt_of (by omega) (by omega)), lg_f0 hG, lg_r1 hG (by omega), (hl.2.2 k (by omega)).1, le_g hA, hC.1.1]
    by_cases z : (lg k).1 < L.na
    · rw [if_pos (nI_lt z (by omega)), nI_1]
      exact areThere_loop hA hG I J L hC hna n lg hl h256 q (k + 1) y (by omega) (by omega) (fun j hj => by
        by_cases w : j = k
        · rw [w]; exact z
        · exact h j (by omega))
    · rw [if_neg (nI_nlt (by omega) (by omega)), retZ_0, if_neg (fun x => z (x k (by omega)))]
theorem areThere_spec (hA : LedAt N S R b) (hG : LgAt N S R g) (I : Nat → Nat → Int32) (J : Nat → Nat → Int64) (L : Lg) (hC : CRep b I J L) (hna : L.na ≤ 40) (n : Nat) (lg : Nat → Nat × Int64) (hl : LegsOk I J g n lg) (h256 : ∀ k, k < n → (lg k).1 < 256) : fX3_areThere b g (N, SL, S, R, I, J) = some (if ∀ j, j < n → (lg j).1 < L.na then 1 else 0, (N, SL, S, R, I, J)) :=
  areThere_loop hA hG I J L hC hna n lg hl h256 n 0 FU (by omega) (by have := hl.2.1; unfold FU; omega) (fun j hj => absurd hj (by omega))
theorem come_loop (hG : LgAt N S R g) (I : Nat → Nat → Int32) (J : Nat → Nat → Int64) (n : Nat) (lg : Nat → Nat × Int64) (hl : LegsOk I J g n lg) : ∀ (q k fuel : Nat) (h l : Int64), k + q = n → q < fuel →
    fX4_comeToNothing_7 fuel g h l (nI k) (N, SL, S, R, I, J) = some (if ((hlS lg q k h l).2 &&& 4294967295) = 0 ∧ (hlS lg q k h l).1 + yshr (hlS lg q k h l).2 32 = 0 then 1 else 0, (N, SL, S, R, I, J))
  | 0, k, fuel, h, l, hk, hf => by
    obtain ⟨y, rfl⟩ : ∃ y, fuel = y + 1 := ⟨fuel - 1, by omega⟩
    have h8 := hl.2.1
    rw [fX4_comeToNothing_7, lg_g hG, hl.1, if_pos ((nI_leI (by omega) (by omega)).mpr (by omega))]
    unfold fX4_comeToNothing_74 fX4_comeToNothing_75
    show _ = some (if (l &&& 4294967295) = 0 ∧ h + yshr l 32 = 0 then 1 else 0, _)
    by_cases z : (l &&& 4294967295) = 0
    · rw [if_pos z]
      by_cases w : h + yshr l 32 = 0
      · rw [if_pos w, if_pos ⟨z, w⟩, retZ_1]
      · rw [if_neg w, if_neg (fun x => w x.2), retZ_0]
    · rw [if_neg z, if_neg (fun x => z x.1), retZ_0]
  | q + 1, k, fuel, h, l, hk, hf => by
    obtain ⟨y, rfl⟩ : ∃ y, fuel = y + 1 := ⟨fuel - 1, by omega⟩
    have h8 := hl.2.1
    rw [fX4_comeToNothing_7, lg_g hG, hl.1, if_neg (nI_lt_of (by omega) (by omega)), lg_f1 hG, lg_r2 hG (by omega), lg_f1 hG, lg_r2 hG (by omega), (hl.2.2 k (by omega)).2, nI_1]
    exact come_loop hG I J n lg hl q (k + 1) y _ _ (by omega) (by omega)
theorem come_spec (hG : LgAt N S R g) (I : Nat → Nat → Int32) (J : Nat → Nat → Int64) (n : Nat) (lg : Nat → Nat × Int64) (hl : LegsOk I J g n lg) : fX4_comeToNothing g (N, SL, S, R, I, J) = some (if evenL n lg then 1 else 0, (N, SL, S, R, I, J)) :=
  come_loop hG I J n lg hl n 0 FU 0 0 (by omega) (by have := hl.2.1; unfold FU; omega)
set_option maxHeartbeats 4000000 in
theorem weigh_low (hA : LedAt N S R b) (hG : LgAt N S R g) (I : Nat → Nat → Int32) (J : Nat → Nat → Int64) (L : Lg) (hC : CRep b I J L) (hna : L.na ≤ 40) (hne : L.ne ≤ 200) (n : Nat) (lg : Nat → Nat × Int64) (hl : LegsOk I J g n lg) (hac : ∀ k, k < n → (lg k).1 < L.na) (l2 : Int32) (l3 : Int64) (hb : Nat → Nat) (hb1 : ∀ a, a < L.na → nI a = l2 → Int64.ofNat (L.he a) - l3 = Int64.ofNat (hb a)) (hb2 : ∀ a, a < L.na → nI a ≠ l2 → hb a = L.he a) (hb3 : ∀ a, a < L.na → hb a < 18446744073709551616) (bb : Nat → Int64) (hbb : ∀ a, a < L.na → J (b + 4) a = bb a) : ∀ (q k fuel : Nat), k + q = n → q < fuel → (∀ j, j < k → ¬ (bb (lg j).1).toInt < (L.fl (lg j).1).toInt + (hb (lg j).1 : Int)) →
    fX3_weigh_102 fuel b g l2 l3 (nI k) (N, SL, S, R, I, J) = some (if lowB L bb hb n lg then -6 else if L.ne < 200 then 0 else -8, (N, SL, S, R, I, J))
  | 0, k, fuel, hk, hf, h => by
    obtain ⟨y, rfl⟩ : ∃ y, fuel = y + 1 := ⟨fuel - 1, by omega⟩
    have h8 := hl.2.1
    rw [fX3_weigh_102, lg_g hG, hl.1, if_pos ((nI_leI (by omega) (by omega)).mpr (by omega)), le_g hA, hC.1.2.1, if_neg (show ¬ lowB L bb hb n lg from fun ⟨j, hj, x⟩ => h j (by omega) x)]
    unfold fX3_weigh_213
    rw [show (200 : Int32) = nI 200 from rfl]
    by_cases z : L.ne < 200
    · rw [if_pos (nI_lt z (by omega)), if_pos z]
    · rw [if_neg (nI_nlt (by omega) (by omega)), if_neg z]
  | q + 1, k, fuel, hk, hf, h => by
    obtain ⟨y, rfl⟩ : ∃ y, fuel = y + 1 := ⟨fuel - 1, by omega⟩
    have h8 := hl.2.1
    have h9 := hac k (by omega)
    have hB := hC.2.1 _ h9
    have key : ∀ s : Int64, s = Int64.ofNat (hb (lg k).1) → fX3_weigh_145 (fX3_weigh_102 y) b g l2 l3 (nI k) (nI (lg k).1) s (N, SL, S, R, I, J) = some (if lowB L bb hb n lg then -6 else if L.ne < 200 then 0 else -8, (N, SL, S, R, I, J)) := by
      intro s hs
      subst hs
      unfold fX3_weigh_145
      have hfc := floorC (b := bb (lg k).1) (f := L.fl (lg k).1) (hb3 _ h9)
      rw [le_f3 hA, le_r4 hA (by omega), hbb _ h9, le_f0 hA, le_r1 hA (by omega), hB.1]
      by_cases z : bb (lg k).1 < L.fl (lg k).1
      · rw [if_pos z, if_pos ⟨k, by omega, hfc.mp (Or.inl z)⟩]
        rfl
      · rw [if_neg z, le_f3 hA, le_r4 hA (by omega), hbb _ h9, le_f0 hA, le_r1 hA (by omega), hB.1, isBelow_mk, bd_some]
        by_cases w : (bb (lg k).1 - L.fl (lg k).1).toUInt64.toNat < (Int64.ofNat (hb (lg k).1)).toUInt64.toNat
        · rw [if_pos w, if_neg (by decide), if_pos ⟨k, by omega, hfc.mp (Or.inr w)⟩]
          rfl
        · rw [if_neg w, if_pos rfl, nI_1]
          exact weigh_low hA hG I J L hC hna hne n lg hl hac l2 l3 hb hb1 hb2 hb3 bb hbb q (k + 1) y (by omega) (by omega) (fun j hj => by
            by_cases v : j = k
            · rw [v]; exact fun x => (hfc.mpr x).elim z w
            · exact h j (by omega))
    rw [fX3_weigh_102, lg_g hG, hl.1, if_neg (nI_lt_of (by omega) (by omega)), lg_f0 hG, lg_r1 hG (by omega), (hl.2.2 k (by omega)).1]
    by_cases z : nI (lg k).1 = l2
    · rw [if_pos z, le_f2 hA, le_r3 hA (by omega), hB.2.2]
      exact key _ (hb1 _ h9 z)
    · rw [if_neg z, le_f2 hA, le_r3 hA (by omega), hB.2.2]
      exact key _ (by rw [hb2 _ h9 z])
set_option maxHeartbeats 4000000 in
theorem weigh_loop (hA : LedAt N S R b) (hG : LgAt N S R g) (hgb : g + 2 ≠ b + 4) (I : Nat → Nat → Int32) (L : Lg) (hna : L.na ≤ 40) (hne : L.ne ≤ 200) (n : Nat) (lg : Nat → Nat × Int64) (hac : ∀ k, k < n → (lg k).1 < L.na) (l2 : Int32) (l3 : Int64) (hb : Nat → Nat) (hb1 : ∀ a, a < L.na → nI a = l2 → Int64.ofNat (L.he a) - l3 = Int64.ofNat (hb a)) (hb2 : ∀ a, a < L.na → nI a ≠ l2 → hb a = L.he a) (hb3 : ∀ a, a < L.na → hb a < 18446744073709551616) : ∀ (q k fuel : Nat) (J : Nat → Nat → Int64) (cur : Nat → Int64), k + q = n → q < fuel → CRep b I J L → LegsOk I J g n lg → (∀ a, a < L.na → J (b + 4) a = cur a) →
    ∃ J' : Nat → Nat → Int64, fX3_weigh_20 fuel b g l2 l3 (nI k) (N, SL, S, R, I, J) = some (wghO L hb n lg (bhR lg q k cur), (N, SL, S, R, I, J')) ∧ (∀ c, c ≠ b + 4 → J' c = J c) ∧ ∀ bb, bhR lg q k cur = some bb → ∀ a, a < L.na → J' (b + 4) a = bb a
  | 0, k, fuel, J, cur, hk, hf, hC, hl, hcur => by
    obtain ⟨y, rfl⟩ : ∃ y, fuel = y + 1 := ⟨fuel - 1, by omega⟩
    have h8 := hl.2.1
    refine ⟨J, ?_, fun _ _ => rfl, fun bb h a ha => by cases h; exact hcur a ha⟩
    rw [fX3_weigh_20, lg_g hG, hl.1, if_pos ((nI_leI (by omega) (by omega)).mpr (by omega))]
    exact weigh_low hA hG I J L hC hna hne n lg hl hac l2 l3 hb hb1 hb2 hb3 cur hcur n 0 FU (by omega) (by unfold FU; omega) (fun j hj => absurd hj (by omega))
  | q + 1, k, fuel, J, cur, hk, hf, hC, hl, hcur => by
    obtain ⟨y, rfl⟩ : ∃ y, fuel = y + 1 := ⟨fuel - 1, by omega⟩
    have h8 := hl.2.1
    have h9 := hac k (by omega)
    have hlk := hl.2.2 k (by omega)
    rw [fX3_weigh_20, lg_g hG, hl.1, if_neg (nI_lt_of (by omega) (by omega)), le_f3 hA, lg_f0 hG, lg_r1 hG (by omega), hlk.1, le_r4 hA (by omega), hcur _ h9, lg_f1 hG, lg_r2 hG (by omega), lg_f1 hG, lg_r2 hG (by omega), hlk.2, bhR]
    by_cases z : (0 : Int64) ≤ ((cur (lg k).1 ^^^ (cur (lg k).1 + (lg k).2)) &&& ((lg k).2 ^^^ (cur (lg k).1 + (lg k).2)))
    · rw [if_pos z, if_pos z, le_f3 hA, lg_f0 hG, lg_r1 hG (by omega), hlk.1, le_w4 hA (by omega), nI_1]
      obtain ⟨J', g1, g2, g3⟩ := weigh_loop hA hG hgb I L hna hne n lg hac l2 l3 hb hb1 hb2 hb3 q (k + 1) y (u2 J (b + 4) (lg k).1 (cur (lg k).1 + (lg k).2)) (up cur (lg k).1 (cur (lg k).1 + (lg k).2)) (by omega) (by omega)
        (CRep.congr (fun _ _ _ => rfl) (fun c _ _ hc => u2_ne hc) hC) ⟨hl.1, hl.2.1, fun j hj => by rw [u2_ne hgb]; exact hl.2.2 j hj⟩ (fun a ha => by
          rw [u2_at]
          by_cases w : a = (lg k).1
          · rw [w, up_eq, up_eq]
          · rw [up_ne w, up_ne w]; exact hcur a ha)
      exact ⟨J', g1, fun c hc => by rw [g2 c hc, u2_ne hc], g3⟩
    · rw [if_neg z, if_neg z]
      exact ⟨J, rfl, fun _ _ => rfl, fun bb h => by cases h⟩
/-- weigh(legs, freedAccount, freed) -/
theorem weigh_spec (hA : LedAt N S R b) (hG : LgAt N S R g) (hgb : g + 2 ≠ b + 4) (I : Nat → Nat → Int32) (J : Nat → Nat → Int64) (L : Lg) (hC : CRep b I J L) (hna : L.na ≤ 40) (hne : L.ne ≤ 200) (n : Nat) (lg : Nat → Nat × Int64) (hl : LegsOk I J g n lg) (hac : ∀ k, k < n → (lg k).1 < L.na) (l2 : Int32) (l3 : Int64) (hb : Nat → Nat) (hb1 : ∀ a, a < L.na → nI a = l2 → Int64.ofNat (L.he a) - l3 = Int64.ofNat (hb a)) (hb2 : ∀ a, a < L.na → nI a ≠ l2 → hb a = L.he a) (hb3 : ∀ a, a < L.na → hb a < 18446744073709551616) :
    ∃ J' : Nat → Nat → Int64, fX3_weigh b g l2 l3 (N, SL, S, R, I, J) = some (wgh L hb n lg, (N, SL, S, R, I, J')) ∧ (∀ c, c ≠ b + 4 → J' c = J c) ∧ ∀ bb, bhR lg n 0 L.ba = some bb → ∀ a, a < L.na → J' (b + 4) a = bb a := by
  have hb0 := hA.1.1.2.1
  have hbN := hA.1.2.1
  have h8 := hl.2.1
  unfold fX3_weigh
  rw [le_f1 hA, le_f3 hA, le_g hA, hC.1.1, show (0 : Int32) = nI 0 from rfl, cpJ_mk (n := L.na) (by omega) (by omega) (by omega) (by omega) hA.2.2.2.1 hA.2.2.2.2.2.1 (by omega) (by omega) (by decide) (by decide)]
  obtain ⟨J', g1, g2, g3⟩ := weigh_loop (SL := SL) hA hG hgb I L hna hne n lg hac l2 l3 hb hb1 hb2 hb3 n 0 FU (u1 J (b + 4) (va_cpy (J (b + 2)) (J (b + 4)) 0 0 L.na)) L.ba (by omega) (by unfold FU; omega)
    (CRep.congr (fun _ _ _ => rfl) (fun c _ _ hc => u1_ne hc) hC) ⟨hl.1, hl.2.1, fun j hj => by rw [u1_ne hgb]; exact hl.2.2 j hj⟩ (fun a ha => by
      rw [u1_eq]
      unfold va_cpy
      rw [if_pos ⟨by omega, by omega⟩, Nat.sub_zero, Nat.zero_add]
      exact (hC.2.1 a ha).2.1)
  exact ⟨J', g1, fun c hc => by rw [g2 c hc, u1_ne hc], g3⟩
end Weigh
