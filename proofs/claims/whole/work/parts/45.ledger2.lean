-- P3: what a ledger keeps; the class's small methods of it
def thB (e : En) : Bool := decide (e.kd = 3) && decide (e.en = -1)
/-- held of account a by the first n entries -/
def hsN (es : Nat → En) (a : Nat) : Nat → Nat
  | 0 => 0
  | n + 1 => hsN es a n + if thB (es n) = true ∧ (es n).ha = a then (es n).hm else 0
/-- holds that are there among the first n entries -/
def hcN (es : Nat → En) : Nat → Nat
  | 0 => 0
  | n + 1 => hcN es n + if thB (es n) = true then 1 else 0
/-- entry i of a ledger -/
def EOk (L : Lg) (i : Nat) : Prop :=
  (L.yb (L.st i) = (L.es i).kd ∧ 1 ≤ (L.es i).kd ∧ (L.es i).kd ≤ 7 ∧ (L.es i).nl ≤ 8) ∧
  (∀ k, k < (L.es i).nl → ((L.es i).lg k).1 < L.na ∧ ((L.es i).lg k).2 ≠ 0 ∧ ((L.es i).lg k).2 ≠ -9223372036854775808) ∧
  ((L.es i).kd = 3 → (L.yb (L.st i + 9) = (L.es i).ha ∧ ∀ k, k < 8 → L.yb (L.st i + 10 + k) = bN (Int64.ofNat (L.es i).hm) (7 - k)) ∧ L.st i + 18 ≤ L.st (i + 1) ∧ (L.es i).ha < L.na ∧ 0 < (L.es i).hm ∧ (L.es i).hm < 9223372036854775808 ∧ (L.es i).nl = 0)
def LInv (L : Lg) : Prop :=
  (L.na ≤ 40 ∧ L.ne ≤ 200 ∧ L.ev ≤ 50 ∧ L.si ≤ L.ne) ∧
  (L.st 0 = 0 ∧ (∀ i, i < L.ne → L.st i + 3 ≤ L.st (i + 1) ∧ L.st (i + 1) ≤ L.st i + 82) ∧ ∀ k, L.yb k < 256) ∧
  (∀ i, i < L.ne → EOk L i) ∧
  (∀ a, a < L.na → (L.fl a).toInt + L.he a ≤ (L.ba a).toInt ∧ L.he a = hsN L.es a L.ne) ∧
  L.hc = hcN L.es L.ne
theorem LInv.st_le {L : Lg} (h : LInv L) : ∀ i, i ≤ L.ne → L.st i ≤ 82 * i
  | 0, _ => by rw [h.2.1.1]; omega
  | i + 1, hi => by
    have := LInv.st_le h i (by omega)
    have := (h.2.1.2.1 i (by omega)).2
    omega
theorem LInv.st_mono {L : Lg} (h : LInv L) (i : Nat) : ∀ d, i + d ≤ L.ne → L.st i ≤ L.st (i + d)
  | 0, _ => Nat.le_refl _
  | d + 1, hi => by
    have h1 := LInv.st_mono h i d (by omega)
    have h2 := (h.2.1.2.1 (i + d) (by omega)).1
    rw [show i + (d + 1) = i + d + 1 by omega]
    omega
theorem LInv.st_in {L : Lg} (h : LInv L) {i : Nat} (hi : i < L.ne) : L.st (i + 1) ≤ L.st L.ne ∧ L.st L.ne ≤ 16400 := by
  have h1 := LInv.st_mono h (i + 1) (L.ne - (i + 1)) (by omega)
  rw [show i + 1 + (L.ne - (i + 1)) = L.ne by omega] at h1
  have := LInv.st_le h L.ne (Nat.le_refl _)
  have := h.1.2.1
  exact ⟨h1, by omega⟩
/-- entry i has the bytes l -/
abbrev sameB (L : Lg) (i : Nat) (l : List Nat) : Prop := L.st (i + 1) - L.st i = l.length ∧ ∀ k, k < l.length → L.yb (L.st i + k) = l.getD k 0
/-- the first entry with this key, from i on, q to look at -/
def fky (L : Lg) (key : Int64) : Nat → Nat → Option Nat
  | 0, _ => none
  | q + 1, i => if (L.es i).ky = key then some i else fky L key q (i + 1)
def ansO (L : Lg) (l : List Nat) : Option Nat → Int32
  | none => -1
  | some i => if sameB L i l then nI i else -4
/-- what a call by this key is answered at once; -1 if nothing -/
def ansB (L : Lg) (key : Int64) (l : List Nat) : Int32 := ansO L l (fky L key L.ne 0)
section LedgerC
variable {N SL : Nat} {S : Nat → Shp} {R : Nat → Nat → Option Nat} {b : Nat}
theorem retZ_1 {β : Type} {k : Option β} : retZ 1 k = k := if_pos (Or.inr rfl)
theorem retZ_0 {β : Type} {k : Option β} : retZ 0 k = k := if_pos (Or.inl rfl)
theorem kindOf_spec (hA : LedAt N S R b) (I : Nat → Nat → Int32) (J : Nat → Nat → Int64) (L : Lg) (hC : CRep b I J L) (hL : LInv L) (i : Nat) (hi : i < L.ne) : fX3_kindOf b (nI i) (N, SL, S, R, I, J) = some (nI (L.es i).kd, (N, SL, S, R, I, J)) := by
  have h1 := hL.1.2.1
  have h2 := LInv.st_in hL hi
  have h3 := (hL.2.1.2.1 i hi).1
  have e := (hL.2.2.1 i hi).1
  unfold fX3_kindOf
  rw [le_f5 hA, le_f6 hA, le_r6 hA (by omega), hC.2.2.1 i (by omega), le_r5 hA (by omega), hC.2.2.2.2 _ (by omega), e.1, nb_small _ (by omega)]
theorem isHold_spec (hA : LedAt N S R b) (I : Nat → Nat → Int32) (J : Nat → Nat → Int64) (L : Lg) (hC : CRep b I J L) (hL : LInv L) (i : Nat) (hi : i < 200) : fX3_isHoldThere b (nI i) (N, SL, S, R, I, J) = some (if i < L.ne ∧ thB (L.es i) = true then 1 else 0, (N, SL, S, R, I, J)) := by
  have h1 := hL.1.2.1
  unfold fX3_isHoldThere fX3_isHoldThere_31 fX3_isHoldThere_32
  rw [le_g hA, hC.1.2.1]
  by_cases q : i < L.ne
  · have e := (hL.2.2.1 i q).1
    rw [if_neg (nI_lt_of (by omega) q), le_o hA, kindOf_spec hA I J L hC hL i q, bd_some, show (3 : Int32) = nI 3 from rfl]
    by_cases z : (L.es i).kd = 3
    · rw [if_pos (by rw [z]), le_f8 hA, le_r8 hA (by omega), (hC.2.2.2.1 i q).2.1]
      by_cases w : (L.es i).en = -1
      · rw [if_pos w, retZ_1, if_pos ⟨q, by unfold thB; simp [z, w]⟩]
      · rw [if_neg w, retZ_0, if_neg (fun x => by have := x.2; unfold thB at this; simp [w] at this)]
    · rw [if_neg (fun x => z ((nI_eq (by omega) (by omega)).mp x)), retZ_0, if_neg (fun x => by have := x.2; unfold thB at this; simp [z] at this)]
  · rw [if_pos ((nI_leI (by omega) (by omega)).mpr (by omega)), retZ_0, if_neg (fun x => q x.1)]
theorem accHeld_spec (hA : LedAt N S R b) (I : Nat → Nat → Int32) (J : Nat → Nat → Int64) (L : Lg) (hC : CRep b I J L) (hL : LInv L) (i : Nat) (hi : i < L.ne) (hk : (L.es i).kd = 3) : fX3_accountHeld b (nI i) (N, SL, S, R, I, J) = some (nI (L.es i).ha, (N, SL, S, R, I, J)) := by
  have h1 := hL.1
  have h2 := LInv.st_in hL hi
  have e := (hL.2.2.1 i hi).2.2 hk
  unfold fX3_accountHeld
  rw [le_f5 hA, le_f6 hA, le_r6 hA (by omega), hC.2.2.1 i (by omega), show (9 : Int32) = nI 9 from rfl, nI_add, le_r5 hA (by omega), hC.2.2.2.2 _ (by omega), e.1.1, nb_255 (by omega)]
theorem amtHeld_loop (hA : LedAt N S R b) (I : Nat → Nat → Int32) (J : Nat → Nat → Int64) (L : Lg) (hC : CRep b I J L) (hL : LInv L) (i : Nat) (hi : i < L.ne) (hk : (L.es i).kd = 3) : ∀ (q w fuel : Nat), w + q = 8 → q < fuel → fX3_amountHeld_6 fuel b (nI i) (Int64.ofNat (nmN L.yb (L.st i + 10) w)) (nI (10 + w)) (N, SL, S, R, I, J) = some (Int64.ofNat (nmN L.yb (L.st i + 10) 8), (N, SL, S, R, I, J))
  | 0, w, fuel, hw, hf => by
    obtain ⟨y, rfl⟩ : ∃ y, fuel = y + 1 := ⟨fuel - 1, by omega⟩
    have : w = 8 := by omega
    subst this
    rw [fX3_amountHeld_6, if_pos (by decide)]
  | q + 1, w, fuel, hw, hf => by
    obtain ⟨y, rfl⟩ : ∃ y, fuel = y + 1 := ⟨fuel - 1, by omega⟩
    have h1 := hL.1
    have h2 := LInv.st_in hL hi
    have e := (hL.2.2.1 i hi).2.2 hk
    rw [fX3_amountHeld_6, if_neg (show ¬ (18 : Int32) ≤ nI (10 + w) from nI_lt_of (k := 18) (by decide) (by omega)), le_f5 hA, le_f6 hA, le_r6 hA (by omega), hC.2.2.1 i (by omega), nI_add, le_r5 hA (by omega), hC.2.2.2.2 _ (by omega), nb_255 (hL.2.1.2.2 _), shl8 _ _ (hL.2.1.2.2 _), nI_1]
    have := amtHeld_loop hA I J L hC hL i hi hk q (w + 1) y (by omega) (by omega)
    rw [show nmN L.yb (L.st i + 10) (w + 1) = nmN L.yb (L.st i + 10) w * 256 + L.yb (L.st i + 10 + w) from rfl] at this
    rw [show L.st i + (10 + w) = L.st i + 10 + w by omega]
    exact this
theorem amtHeld_spec (hA : LedAt N S R b) (I : Nat → Nat → Int32) (J : Nat → Nat → Int64) (L : Lg) (hC : CRep b I J L) (hL : LInv L) (i : Nat) (hi : i < L.ne) (hk : (L.es i).kd = 3) : fX3_amountHeld b (nI i) (N, SL, S, R, I, J) = some (Int64.ofNat (L.es i).hm, (N, SL, S, R, I, J)) := by
  have h := amtHeld_loop (SL := SL) hA I J L hC hL i hi hk 8 0 FU (by omega) (by decide)
  have e := (hL.2.2.1 i hi).2.2 hk
  rw [nm_8 e.1.2] at h
  exact h
set_option maxHeartbeats 4000000 in
theorem asDr_loop (hA : LedAt N S R b) (I : Nat → Nat → Int32) (J : Nat → Nat → Int64) (L : Lg) (hC : CRep b I J L) (hL : LInv L) (l : List Nat) (hd : DrOk I (b + 12) l) (hlb : ∀ k, l.getD k 0 < 256) (hl : l.length ≤ 82) (i : Nat) (hi : i < L.ne) (hz : L.st (i + 1) - L.st i = l.length) : ∀ (q k fuel : Nat), k + q = l.length → q < fuel → (∀ j, j < k → L.yb (L.st i + j) = l.getD j 0) →
    fX3_isAsDrafted_29 fuel b (nI i) (nI k) (N, SL, S, R, I, J) = some (if sameB L i l then 1 else 0, (N, SL, S, R, I, J))
  | 0, k, fuel, hk, hf, h => by
    obtain ⟨y, rfl⟩ : ∃ y, fuel = y + 1 := ⟨fuel - 1, by omega⟩
    rw [fX3_isAsDrafted_29, le_f13 hA, dr_g hA.dr, hd.1, if_pos ((nI_leI (by omega) (by omega)).mpr (by omega)), retZ_1, if_pos ⟨hz, fun j hj => h j (by omega)⟩]
  | q + 1, k, fuel, hk, hf, h => by
    obtain ⟨y, rfl⟩ : ∃ y, fuel = y + 1 := ⟨fuel - 1, by omega⟩
    have h1 := hL.1
    have h2 := LInv.st_in hL hi
    rw [fX3_isAsDrafted_29, le_f13 hA, dr_g hA.dr, hd.1, if_neg (nI_lt_of (by omega) (by omega)), le_f5 hA, le_f6 hA, le_r6 hA (by omega), hC.2.2.1 i (by omega), nI_add, le_r5 hA (by omega), hC.2.2.2.2 _ (by omega), le_f13 hA, dr_f0 hA.dr, dr_r1 hA.dr (by omega), hd.2 k (by omega)]
    by_cases z : L.yb (L.st i + k) = l.getD k 0
    · rw [if_pos (by rw [z]), nI_1]
      exact asDr_loop hA I J L hC hL l hd hlb hl i hi hz q (k + 1) y (by omega) (by omega) (fun j hj => by
        by_cases w : j = k
        · rw [w]; exact z
        · exact h j (by omega))
    · rw [if_neg (fun x => z ((nb_inj (hL.2.1.2.2 _) (hlb k)).mp x)), retZ_0, if_neg (fun x => z (x.2 k (by omega)))]
theorem asDr_spec (hA : LedAt N S R b) (I : Nat → Nat → Int32) (J : Nat → Nat → Int64) (L : Lg) (hC : CRep b I J L) (hL : LInv L) (l : List Nat) (hd : DrOk I (b + 12) l) (hlb : ∀ k, l.getD k 0 < 256) (hl : l.length ≤ 82) (i : Nat) (hi : i < L.ne) : fX3_isAsDrafted b (nI i) (N, SL, S, R, I, J) = some (if sameB L i l then 1 else 0, (N, SL, S, R, I, J)) := by
  have h1 := hL.1
  have h2 := LInv.st_in hL hi
  have h3 := hL.2.1.2.1 i hi
  unfold fX3_isAsDrafted
  rw [le_f6 hA, nI_1, le_r6 hA (by omega), hC.2.2.1 (i + 1) (by omega), le_f6 hA, le_r6 hA (by omega), hC.2.2.1 i (by omega), le_f13 hA, dr_g hA.dr, hd.1, pk_sub (by omega)]
  by_cases z : L.st (i + 1) - L.st i = l.length
  · rw [if_pos (by rw [z])]
    exact asDr_loop hA I J L hC hL l hd hlb hl i hi z l.length 0 FU (by omega) (by unfold FU; omega) (fun j hj => absurd hj (by omega))
  · rw [if_neg (fun x => z ((nI_eq (by omega) (by omega)).mp x)), retZ_0, if_neg (fun x => z x.1)]
theorem ansB_loop (hA : LedAt N S R b) (I : Nat → Nat → Int32) (J : Nat → Nat → Int64) (L : Lg) (hC : CRep b I J L) (hL : LInv L) (l : List Nat) (hd : DrOk I (b + 12) l) (hlb : ∀ k, l.getD k 0 < 256) (hl : l.length ≤ 82) (key : Int64) : ∀ (q i fuel : Nat), i + q = L.ne → q < fuel →
    fX3_answeredBefore_2 fuel b key (nI i) (N, SL, S, R, I, J) = some (ansO L l (fky L key q i), (N, SL, S, R, I, J))
  | 0, i, fuel, hi, hf => by
    obtain ⟨y, rfl⟩ : ∃ y, fuel = y + 1 := ⟨fuel - 1, by omega⟩
    have h1 := hL.1
    rw [fX3_answeredBefore_2, le_g hA, hC.1.2.1, if_pos ((nI_leI (by omega) (by omega)).mpr (by omega))]
    rfl
  | q + 1, i, fuel, hi, hf => by
    obtain ⟨y, rfl⟩ : ∃ y, fuel = y + 1 := ⟨fuel - 1, by omega⟩
    have h1 := hL.1
    rw [fX3_answeredBefore_2, le_g hA, hC.1.2.1, if_neg (nI_lt_of (by omega) (by omega)), le_f7 hA, le_r7 hA (by omega), (hC.2.2.2.1 i (by omega)).1, fky]
    by_cases z : (L.es i).ky = key
    · rw [if_pos z, if_pos z, le_o hA, asDr_spec hA I J L hC hL l hd hlb hl i (by omega), bd_some]
      unfold fX3_answeredBefore_35
      show _ = some (if sameB L i l then nI i else -4, _)
      by_cases w : sameB L i l
      · rw [if_pos w, if_neg (by decide), if_pos w]
      · rw [if_neg w, if_pos rfl, if_neg w]
    · rw [if_neg z, if_neg z, nI_1]
      exact ansB_loop hA I J L hC hL l hd hlb hl key q (i + 1) y (by omega) (by omega)
theorem ansB_spec (hA : LedAt N S R b) (I : Nat → Nat → Int32) (J : Nat → Nat → Int64) (L : Lg) (hC : CRep b I J L) (hL : LInv L) (l : List Nat) (hd : DrOk I (b + 12) l) (hlb : ∀ k, l.getD k 0 < 256) (hl : l.length ≤ 82) (key : Int64) : fX3_answeredBefore b key (N, SL, S, R, I, J) = some (ansB L key l, (N, SL, S, R, I, J)) :=
  ansB_loop hA I J L hC hL l hd hlb hl key L.ne 0 FU (by omega) (by have := hL.1; unfold FU; omega)
end LedgerC
