-- P3, class: a Draft
section Draft0
theorem i2b_N (x : Int32) : x.toInt8.toBitVec.toNat = x.toBitVec.toNat % 2 ^ 8 := by
  rw [Int32.toBitVec_toInt8, BitVec.signExtend_eq_setWidth_of_le _ (by decide), BitVec.toNat_setWidth]
theorem nb_ext {x y : Int32} (h : x &&& 255 = y &&& 255) : nb x = nb y := by
  unfold nb
  have e : ∀ x : Int32, (x &&& 255).toBitVec.toNat = x.toBitVec.toNat % 256 := fun x => by
    rw [Int32.toBitVec_and, BitVec.toNat_and]
    exact Nat.and_two_pow_sub_one_eq_mod _ 8
  have h8 : x.toInt8 = y.toInt8 := by
    rw [← Int8.toBitVec_inj]
    apply BitVec.eq_of_toNat_eq
    rw [i2b_N, i2b_N]
    exact (e x).symm.trans ((congrArg (fun z => z.toBitVec.toNat) h).trans (e y))
  rw [h8]
theorem nb_inj {a b : Nat} (ha : a < 256) (hb : b < 256) : nb (nI a) = nb (nI b) ↔ a = b := by
  constructor
  · intro h
    have := nb_mask (nI a)
    rw [h, nb_mask, nI_255 ha, nI_255 hb] at this
    exact ((nI_eq (by omega) (by omega)).mp this).symm
  · rintro rfl; rfl
theorem nb_255 {a : Nat} (h : a < 256) : nb (nI a) &&& 255 = nI a := by rw [nb_mask, nI_255 h]
theorem nb_small : ∀ a, a < 128 → nb (nI a) = nI a := by
  intro a ha
  have : ∀ a, a < 128 → (nI a).toInt8.toInt32.toInt8.toInt32 = nI a := by decide +kernel
  unfold nb
  rw [vp_nar_byte]
  exact this a ha
/-- the w low bytes of v, the highest first -/
def lB (v : Int64) : Nat → List Nat
  | 0 => []
  | w + 1 => bN v w :: lB v w
theorem lB_len (v : Int64) : ∀ w, (lB v w).length = w
  | 0 => rfl
  | w + 1 => by rw [lB, List.length_cons, lB_len v w]
theorem lB_get (v : Int64) : ∀ w k, k < w → (lB v w).getD k 0 = bN v (w - 1 - k)
  | w + 1, 0, _ => rfl
  | w + 1, k + 1, h => by
    rw [lB, List.getD_cons_succ, lB_get v w k (by omega), show w + 1 - 1 - (k + 1) = w - 1 - k by omega]
/-- the draft has the bytes l -/
def DrOk (I : Nat → Nat → Int32) (d : Nat) (l : List Nat) : Prop := I d 1 = nI l.length ∧ ∀ k, k < l.length → I (d + 1) k = nb (nI (l.getD k 0))
/-- only the draft's cells have changed -/
def DF (d : Nat) (I I' : Nat → Nat → Int32) : Prop := ∀ c, c ≠ d → c ≠ d + 1 → I' c = I c
theorem DF.trans {d : Nat} {I I' I'' : Nat → Nat → Int32} (h : DF d I I') (h' : DF d I' I'') : DF d I I'' := fun c a b => (h' c a b).trans (h c a b)
theorem gD_l {a b : List Nat} {j : Nat} (h : j < a.length) : (a ++ b).getD j 0 = a.getD j 0 := by
  rw [List.getD_eq_getElem?_getD, List.getD_eq_getElem?_getD, List.getElem?_append_left h]
theorem gD_r {a b : List Nat} {j : Nat} (h : a.length ≤ j) : (a ++ b).getD j 0 = b.getD (j - a.length) 0 := by
  rw [List.getD_eq_getElem?_getD, List.getD_eq_getElem?_getD, List.getElem?_append_right h]
theorem nI_p1 (q : Nat) : nI (q + 1) - (1 : Int32) = nI q := by rw [show (1 : Int32) = nI 1 from rfl, pk_sub (by omega), show q + 1 - 1 = q by omega]
theorem nI_m1 (q : Nat) : nI q + (-1 : Int32) = nI q - (1 : Int32) := by rw [Int32.sub_eq_add_neg]
theorem nI_00 : nI 0 - (1 : Int32) < 0 := by decide
theorem nI_ge0 {q : Nat} (h : q < 2 ^ 31) : ¬ nI q < 0 := nI_nlt (b := 0) (Nat.zero_le _) h
end Draft0
section Draft
variable {N SL : Nat} {S : Nat → Shp} {R : Nat → Nat → Option Nat} {d : Nat}
theorem addD_loop (hA : DrAt N S R d) (J : Nat → Nat → Int64) (v : Int64) : ∀ (q : Nat) (l : List Nat) (I : Nat → Nat → Int32) (fuel : Nat), q < fuel → q ≤ 8 → l.length + q ≤ 82 → DrOk I d l →
    ∃ I' : Nat → Nat → Int32, fX1_add_5 fuel d v (nI q - 1) (N, SL, S, R, I, J) = some ((), (N, SL, S, R, I', J)) ∧ DF d I I' ∧ DrOk I' d (l ++ lB v q)
  | 0, l, I, fuel, hf, _, _, h => by
    obtain ⟨y, rfl⟩ : ∃ y, fuel = y + 1 := ⟨fuel - 1, by omega⟩
    exact ⟨I, by rw [fX1_add_5, if_pos nI_00], fun _ _ _ => rfl, by rw [lB, List.append_nil]; exact h⟩
  | q + 1, l, I, fuel, hf, hq, hl, h => by
    obtain ⟨y, rfl⟩ : ∃ y, fuel = y + 1 := ⟨fuel - 1, by omega⟩
    have hd : d ≠ d + 1 := by omega
    have hr : DrOk (u2 (u2 I (d + 1) l.length (nb (nI (bN v q)))) d 1 (nI (l.length + 1))) d (l ++ [bN v q]) := by
      refine ⟨by rw [u2_row, u1_eq, if_pos rfl, List.length_append]; rfl, fun k hk => ?_⟩
      rw [u2_ne hd.symm, u2_row, u1_eq]
      rw [List.length_append] at hk
      by_cases z : k = l.length
      · subst z
        rw [if_pos rfl, gD_r (Nat.le_refl _), Nat.sub_self]
        rfl
      · have hk2 : k < l.length := by have : ([bN v q] : List Nat).length = 1 := rfl; omega
        rw [if_neg z, gD_l hk2, h.2 k hk2]
    obtain ⟨I', g1, g2, g3⟩ := addD_loop hA J v q _ _ y (by omega) (by omega) (by rw [List.length_append]; show l.length + 1 + q ≤ 82; omega) hr
    refine ⟨I', ?_, DF.trans (fun c a b => by rw [u2_ne a, u2_ne b]) g2, by rw [lB, show bN v q :: lB v q = [bN v q] ++ lB v q from rfl, ← List.append_assoc]; exact g3⟩
    rw [fX1_add_5, nI_p1, if_neg (nI_ge0 (by omega)), dr_g hA, h.1, if_neg (show ¬ (82 : Int32) ≤ nI l.length from nI_lt_of (k := 82) (by decide) (by omega)), dr_f0 hA, dr_g hA, h.1, dr_w1 hA (by omega), dr_g hA, dr_p hA]
    unfold fX1_add_47
    rw [nI_m1, u2_ne hd, h.1, nI_1]
    have e : vp_nar .byte (yushr v ((8 : Int32) * nI q)).toInt32.toInt8.toInt32 = nb (nI (bN v q)) := by
      refine Eq.trans (show _ = nb (yushr v ((8 : Int32) * nI q)).toInt32 from rfl) (nb_ext ?_)
      rw [ush_N v q (by omega), nI_255 (bN_lt v q)]
    rw [e]
    exact g1
/-- add(v, w) -/
theorem addD (hA : DrAt N S R d) (J : Nat → Nat → Int64) (v : Int64) (w : Nat) (hw : w ≤ 8) (l : List Nat) (I : Nat → Nat → Int32) (hl : l.length + w ≤ 82) (h : DrOk I d l) :
    ∃ I' : Nat → Nat → Int32, fX1_add d v (nI w) (N, SL, S, R, I, J) = some ((), (N, SL, S, R, I', J)) ∧ DF d I I' ∧ DrOk I' d (l ++ lB v w) := by
  unfold fX1_add
  exact addD_loop hA J v w l I FU (by unfold FU; omega) hw hl h
theorem addD1 (hA : DrAt N S R d) (J : Nat → Nat → Int64) (v : Int64) (l : List Nat) (I : Nat → Nat → Int32) (hl : l.length + 1 ≤ 82) (h : DrOk I d l) :
    ∃ I' : Nat → Nat → Int32, fX1_add d v (1 : Int32) (N, SL, S, R, I, J) = some ((), (N, SL, S, R, I', J)) ∧ DF d I I' ∧ DrOk I' d (l ++ lB v 1) := addD hA J v 1 (by decide) l I hl h
theorem addD2 (hA : DrAt N S R d) (J : Nat → Nat → Int64) (v : Int64) (l : List Nat) (I : Nat → Nat → Int32) (hl : l.length + 2 ≤ 82) (h : DrOk I d l) :
    ∃ I' : Nat → Nat → Int32, fX1_add d v (2 : Int32) (N, SL, S, R, I, J) = some ((), (N, SL, S, R, I', J)) ∧ DF d I I' ∧ DrOk I' d (l ++ lB v 2) := addD hA J v 2 (by decide) l I hl h
theorem addD8 (hA : DrAt N S R d) (J : Nat → Nat → Int64) (v : Int64) (l : List Nat) (I : Nat → Nat → Int32) (hl : l.length + 8 ≤ 82) (h : DrOk I d l) :
    ∃ I' : Nat → Nat → Int32, fX1_add d v (8 : Int32) (N, SL, S, R, I, J) = some ((), (N, SL, S, R, I', J)) ∧ DF d I I' ∧ DrOk I' d (l ++ lB v 8) := addD hA J v 8 (by decide) l I hl h
/-- begin(kind) -/
theorem beginD (hA : DrAt N S R d) (J : Nat → Nat → Int64) (x : Int32) (I : Nat → Nat → Int32) :
    ∃ I' : Nat → Nat → Int32, fX1_begin d x (N, SL, S, R, I, J) = some ((), (N, SL, S, R, I', J)) ∧ DF d I I' ∧ DrOk I' d (lB x.toInt64 1) := by
  obtain ⟨I', g1, g2, g3⟩ := addD (SL := SL) hA J x.toInt64 1 (by omega) [] (u2 I d 1 (nI 0)) (by decide) ⟨by rw [u2_row, u1_eq]; exact if_pos rfl, fun k hk => absurd hk (by simp)⟩
  refine ⟨I', ?_, DF.trans (fun c a b => u2_ne a) g2, g3⟩
  unfold fX1_begin
  rw [dr_p hA, dr_o hA, show (0 : Int32) = nI 0 from rfl, show (1 : Int32) = nI 1 from rfl, g1, bd_some]
/-- beginKeyed(kind, key) -/
theorem beginKD (hA : DrAt N S R d) (J : Nat → Nat → Int64) (x : Int32) (key : Int64) (I : Nat → Nat → Int32) :
    ∃ I' : Nat → Nat → Int32, fX1_beginKeyed d x key (N, SL, S, R, I, J) = some ((), (N, SL, S, R, I', J)) ∧ DF d I I' ∧ DrOk I' d (lB x.toInt64 1 ++ lB key 8) := by
  obtain ⟨I1, g1, g2, g3⟩ := beginD (SL := SL) hA J x I
  obtain ⟨I2, k1, k2, k3⟩ := addD (SL := SL) hA J key 8 (by omega) _ I1 (by rw [lB_len]; decide) g3
  refine ⟨I2, ?_, g2.trans k2, k3⟩
  unfold fX1_beginKeyed
  rw [dr_o hA, g1, bd_some, dr_o hA, show (8 : Int32) = nI 8 from rfl, k1, bd_some]
theorem lB1 : ∀ a, a < 256 → lB (nI a).toInt64 1 = [a] := by
  have h : ∀ a, a < 256 → bN (nI a).toInt64 0 = a := by decide +kernel
  intro a ha
  rw [lB, lB, h a ha]
theorem lB2 : ∀ a, a < 256 → lB (nI a).toInt64 2 = [0, a] := by
  have h : ∀ a, a < 256 → bN (nI a).toInt64 0 = a ∧ bN (nI a).toInt64 1 = 0 := by decide +kernel
  intro a ha
  rw [lB, lB, lB, (h a ha).1, (h a ha).2]
end Draft
