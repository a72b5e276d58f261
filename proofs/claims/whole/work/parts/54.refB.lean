-- P3, reference: what refuses a call
def keyI : Option Nat → Int32
  | none => -1
  | some i => nI i
/-- the bytes of ledger 0, as they were made -/
def MBy (m : Nat) (I : Nat → Nat → Int32) (L : Lg) : Prop := I m 20 = nI (L.st L.ne) ∧ (∀ i, i < L.ne → I (m + 21) i = nI (L.st i) ∧ I (m + 22) i = nI (L.st (i + 1) - L.st i)) ∧ ∀ k, k < L.st L.ne → I (m + 20) k = nI (L.yb k)
section RefB
variable {N SL : Nat} {S : Nat → Shp} {R : Nat → Nat → Option Nat} {m : Nat}
theorem leg_M (hA : MdAt N S R m) (I : Nat → Nat → Int32) (J : Nat → Nat → Int64) (kd : Nat) (key : Int64) (n : Nat) (lg lg' : Nat → Nat × Int64) (e a : Int32) (v : Int64) (hc : CallOk I J m kd key n lg e a v) (hn : n < 8) (b : Nat) (w : Int64) (e1 : ∀ k, k < n → lg' k = lg k) (e2 : lg' n = (b, w)) :
    ∃ (I' : Nat → Nat → Int32) (J' : Nat → Nat → Int64), fX9_leg m (nI b) w (nI n) (N, SL, S, R, I, J) = some ((), (N, SL, S, R, I', J')) ∧ CallOk I' J' m kd key (n + 1) lg' e a v ∧ KF m I I' J J' ∧ I' (m + 27) = I (m + 27) ∧ I' m 35 = I m 35 := by
  obtain ⟨h1, h2, h3, h4, h5, h6⟩ := hc
  refine ⟨u2 (u2 I (m + 25) n (nI b)) m 27 (nI (n + 1)), u2 J (m + 26) n w, ?_, ⟨?_, ?_, ⟨?_, hn, fun k hk => ?_⟩, ?_, ?_, ?_⟩, ⟨fun c a1 a2 => by rw [u2_ne a1, u2_ne (by omega)], fun j hj => by rw [u2_at, up_ne (by omega), u2_ne (by omega)], fun c _ a2 _ => u2_ne a2, fun j hj => by rw [u2_ne (by omega)]⟩, by rw [u2_ne (by omega), u2_ne (by omega)], by rw [u2_at, up_ne (by decide), u2_ne (by omega)]⟩
  · unfold fX9_leg
    rw [md_f32 hA, md_w25 hA hn, md_f33 hA, md_w26 hA hn, md_p hA, nI_1]
  · rw [u2_at, up_ne (by decide), u2_ne (by omega)]; exact h1
  · rw [u2_ne (by omega)]; exact h2
  · rw [u2_at, up_eq]
  · rw [u2_ne (by omega), u2_at, u2_at]
    by_cases z : k = n
    · rw [z, up_eq, up_eq, e2]; exact ⟨rfl, rfl⟩
    · rw [up_ne z, up_ne z, e1 k (by omega)]; exact h3.2.2 k (by omega)
  · rw [u2_at, up_ne (by decide), u2_ne (by omega)]; exact h4
  · rw [u2_at, up_ne (by decide), u2_ne (by omega)]; exact h5
  · rw [u2_ne (by omega)]; exact h6
theorem nI_mul (a c : Nat) : nI a * nI c = nI (a * c) := by rw [pk_mul]
theorem byKey_loop (hA : MdAt N S R m) (I : Nat → Nat → Int32) (J : Nat → Nat → Int64) (z : Nat) (hz : z ≤ 1) (L : Lg) (hM : MRep m z I J L) (hne : L.ne ≤ 200) (key : Int64) : ∀ (q i fuel : Nat), i + q = L.ne → q < fuel →
    fX9_byKey_11 fuel m (nI z) key (nI i) (N, SL, S, R, I, J) = some (keyI (fky L key q i), (N, SL, S, R, I, J))
  | 0, i, fuel, hi, hf => by
    obtain ⟨y, rfl⟩ : ∃ y, fuel = y + 1 := ⟨fuel - 1, by omega⟩
    rw [fX9_byKey_11, md_f1 hA, md_r2 hA (by omega), hM.1.2.1, if_pos ((nI_leI (by omega) (by omega)).mpr (by omega))]
    rfl
  | q + 1, i, fuel, hi, hf => by
    obtain ⟨y, rfl⟩ : ∃ y, fuel = y + 1 := ⟨fuel - 1, by omega⟩
    rw [fX9_byKey_11, md_f1 hA, md_r2 hA (by omega), hM.1.2.1, if_neg (nI_lt_of (by omega) (by omega)), md_f10 hA, show (200 : Int32) = nI 200 from rfl, nI_mul, nI_add, md_r11 hA (by omega), (hM.2.2 i (by omega)).1.2.1, fky]
    by_cases w : (L.es i).ky = key
    · rw [if_pos w, if_pos w]; rfl
    · rw [if_neg w, if_neg w, nI_1]
      exact byKey_loop hA I J z hz L hM hne key q (i + 1) y (by omega) (by omega)
theorem byKey_M (hA : MdAt N S R m) (I : Nat → Nat → Int32) (J : Nat → Nat → Int64) (z : Nat) (hz : z ≤ 1) (L : Lg) (hM : MRep m z I J L) (hne : L.ne ≤ 200) (key : Int64) : fX9_byKey m (nI z) key (N, SL, S, R, I, J) = some (if key = 0 then -1 else keyI (fky L key L.ne 0), (N, SL, S, R, I, J)) := by
  unfold fX9_byKey
  by_cases w : key = 0
  · rw [if_pos w, if_pos w]
  · rw [if_neg w, if_neg w]
    exact byKey_loop hA I J z hz L hM hne key L.ne 0 FU (by omega) (by unfold FU; omega)
theorem isSame_no (hA : MdAt N S R m) (I : Nat → Nat → Int32) (J : Nat → Nat → Int64) (l : List Nat) (hd : RowOk I m l) (hl : l.length ≤ 82) (i : Int32) (k fuel : Nat) (hk : k ≤ 82) (hf : 0 < fuel) : fX9_isSame_21 fuel m i 0 (nI k) (N, SL, S, R, I, J) = some (0, (N, SL, S, R, I, J)) := by
  obtain ⟨y, rfl⟩ : ∃ y, fuel = y + 1 := ⟨fuel - 1, by omega⟩
  rw [fX9_isSame_21, md_g hA, hd.1]
  unfold fX9_isSame_67
  by_cases w : l.length ≤ k
  · rw [if_pos ((nI_leI (by omega) (by omega)).mpr w), retZ_0]
  · rw [if_neg (nI_lt_of (by omega) (by omega)), if_pos rfl, retZ_0]
set_option maxHeartbeats 4000000 in
theorem isSame_loop (hA : MdAt N S R m) (I : Nat → Nat → Int32) (J : Nat → Nat → Int64) (L : Lg) (hB : MBy m I L) (hL : LInv L) (l : List Nat) (hd : RowOk I m l) (hlb : ∀ k, l.getD k 0 < 256) (hl : l.length ≤ 82) (i : Nat) (hi : i < L.ne) (hz : L.st (i + 1) - L.st i = l.length) : ∀ (q k fuel : Nat), k + q = l.length → q + 1 < fuel → (∀ j, j < k → L.yb (L.st i + j) = l.getD j 0) →
    fX9_isSame_21 fuel m (nI i) 1 (nI k) (N, SL, S, R, I, J) = some (if sameB L i l then 1 else 0, (N, SL, S, R, I, J))
  | 0, k, fuel, hk, hf, h => by
    obtain ⟨y, rfl⟩ : ∃ y, fuel = y + 1 := ⟨fuel - 1, by omega⟩
    rw [fX9_isSame_21, md_g hA, hd.1, if_pos ((nI_leI (by omega) (by omega)).mpr (by omega)), if_pos ⟨hz, fun j hj => h j (by omega)⟩]
    unfold fX9_isSame_67
    rw [retZ_1]
  | q + 1, k, fuel, hk, hf, h => by
    obtain ⟨y, rfl⟩ : ∃ y, fuel = y + 1 := ⟨fuel - 1, by omega⟩
    have h1 := hL.1
    have h2 := LInv.st_in hL hi
    rw [fX9_isSame_21, md_g hA, hd.1, if_neg (nI_lt_of (by omega) (by omega)), if_neg (show ¬ (1 : Int32) = 0 by decide), md_f19 hA, md_f21 hA, md_r21 hA (by omega), (hB.2.1 i hi).1, nI_add, md_r20 hA (by omega), hB.2.2 _ (by omega), md_f34 hA, md_r27 hA (by omega), hd.2 k (by omega)]
    unfold fX9_isSame_60
    rw [nI_1]
    have hy := hL.2.1.2.2 (L.st i + k)
    have hg := hlb k
    by_cases w : L.yb (L.st i + k) = l.getD k 0
    · rw [if_pos (by rw [w])]
      exact isSame_loop hA I J L hB hL l hd hlb hl i hi hz q (k + 1) y (by omega) (by omega) (fun j hj => by
        by_cases v : j = k
        · rw [v]; exact w
        · exact h j (by omega))
    · rw [if_neg (fun x => w ((nI_eq (by omega) (by omega)).mp x)), if_neg (fun x => w (x.2 k (by omega)))]
      exact isSame_no hA I J l hd hl (nI i) (k + 1) y (by omega) (by omega)
theorem isSame_M (hA : MdAt N S R m) (I : Nat → Nat → Int32) (J : Nat → Nat → Int64) (L : Lg) (hB : MBy m I L) (hL : LInv L) (l : List Nat) (hd : RowOk I m l) (hlb : ∀ k, l.getD k 0 < 256) (hl : l.length ≤ 82) (i : Nat) (hi : i < L.ne) : fX9_isSame m (nI i) (N, SL, S, R, I, J) = some (if sameB L i l then 1 else 0, (N, SL, S, R, I, J)) := by
  have h1 := hL.1
  have h2 := LInv.st_in hL hi
  unfold fX9_isSame fX9_isSame_18
  rw [md_f22 hA, md_r22 hA (by omega), (hB.2.1 i hi).2, md_g hA, hd.1]
  by_cases w : L.st (i + 1) - L.st i = l.length
  · rw [if_pos (by rw [w])]
    exact isSame_loop hA I J L hB hL l hd hlb hl i hi w l.length 0 FU (by omega) (by unfold FU; omega) (fun j hj => absurd hj (by omega))
  · rw [if_neg (fun x => w ((nI_eq (by omega) (by omega)).mp x)), if_neg (fun x => w x.1)]
    exact isSame_no hA I J l hd hl (nI i) 0 FU (by omega) (by decide)
theorem isHold_M (hA : MdAt N S R m) (I : Nat → Nat → Int32) (J : Nat → Nat → Int64) (z : Nat) (hz : z ≤ 1) (L : Lg) (hM : MRep m z I J L) (hL : LInv L) (i : Nat) (hi : i < 200) : fX9_isHold m (nI z) (nI i) (N, SL, S, R, I, J) = some (if i < L.ne ∧ thB (L.es i) = true then 1 else 0, (N, SL, S, R, I, J)) := by
  have h1 := hL.1
  unfold fX9_isHold fX9_isHold_49 fX9_isHold_50
  rw [if_neg (nI_ge0 (by omega)), md_f1 hA, md_r2 hA (by omega), hM.1.2.1]
  by_cases q : i < L.ne
  · have o := hM.2.2 i q
    have e := (hL.2.2.1 i q).1
    rw [if_neg (nI_lt_of (by omega) q), md_f9 hA, show (200 : Int32) = nI 200 from rfl, nI_mul, nI_add, md_r10 hA (by omega), o.1.1, show (3 : Int32) = nI 3 from rfl]
    by_cases w : (L.es i).kd = 3
    · rw [if_pos (by rw [w]), md_f16 hA, md_r17 hA (by omega), o.2.2.2.1]
      by_cases t : thB (L.es i) = true
      · rw [if_pos t, if_neg (by decide), retZ_1, if_pos ⟨q, t⟩]
      · rw [if_neg t, if_pos rfl, retZ_0, if_neg (fun x => t x.2)]
    · rw [if_neg (fun x => w ((nI_eq (by omega) (by omega)).mp x)), retZ_0, if_neg (fun x => w (thB_kd x.2).1)]
  · rw [if_pos ((nI_leI (by omega) (by omega)).mpr (by omega)), retZ_0, if_neg (fun x => q x.1)]
theorem isAcc_M (hA : MdAt N S R m) (I : Nat → Nat → Int32) (J : Nat → Nat → Int64) (z : Nat) (hz : z ≤ 1) (L : Lg) (hM : MRep m z I J L) (hna : L.na ≤ 40) (a : Nat) (ha : a < 256) : fX9_isAccount m (nI z) (nI a) (N, SL, S, R, I, J) = some (if a < L.na then 1 else 0, (N, SL, S, R, I, J)) := by
  unfold fX9_isAccount fX9_isAccount_18 fX9_isAccount_19
  rw [if_neg (nI_ge0 (by omega)), md_f0 hA, md_r1 hA (by omega), hM.1.1]
  by_cases w : a < L.na
  · rw [if_neg (nI_lt_of (by omega) w), retZ_1, if_pos w]
  · rw [if_pos ((nI_leI (by omega) (by omega)).mpr (by omega)), retZ_0, if_neg w]
theorem uneven_loop (hA : MdAt N S R m) (I : Nat → Nat → Int32) (J : Nat → Nat → Int64) (kd : Nat) (key : Int64) (n : Nat) (lg : Nat → Nat × Int64) (e a : Int32) (v : Int64) (hc : CallOk I J m kd key n lg e a v) : ∀ (q k fuel : Nat) (h l : Int64), k + q = n → q < fuel →
    fX9_isUneven_17 fuel m h l (nI k) (N, SL, S, R, I, J) = some (if ((hlS lg q k h l).2 &&& 4294967295) = 0 ∧ (hlS lg q k h l).1 + yshr (hlS lg q k h l).2 32 = 0 then 0 else 1, (N, SL, S, R, I, J))
  | 0, k, fuel, h, l, hk, hf => by
    obtain ⟨y, rfl⟩ : ∃ y, fuel = y + 1 := ⟨fuel - 1, by omega⟩
    have h8 := hc.2.2.1.2.1
    rw [fX9_isUneven_17, md_g hA, hc.2.2.1.1, if_pos ((nI_leI (by omega) (by omega)).mpr (by omega))]
    unfold fX9_isUneven_80 fX9_isUneven_85
    show _ = some (if (l &&& 4294967295) = 0 ∧ h + yshr l 32 = 0 then 0 else 1, _)
    by_cases w : h + yshr l 32 = 0
    · rw [if_pos w]
      by_cases t : (l &&& 4294967295) = 0
      · rw [if_pos t, if_pos ⟨t, w⟩, retZ_0]
      · rw [if_neg t, if_neg (fun x => t x.1), retZ_1]
    · rw [if_neg w, if_neg (fun x => w x.2), retZ_1]
  | q + 1, k, fuel, h, l, hk, hf => by
    obtain ⟨y, rfl⟩ : ∃ y, fuel = y + 1 := ⟨fuel - 1, by omega⟩
    have h8 := hc.2.2.1.2.1
    rw [fX9_isUneven_17, md_g hA, hc.2.2.1.1, if_neg (nI_lt_of (by omega) (by omega)), md_f33 hA, md_r26 hA (by omega), md_f33 hA, md_r26 hA (by omega), (hc.2.2.1.2.2 k (by omega)).2, nI_1]
    exact uneven_loop hA I J kd key n lg e a v hc q (k + 1) y _ _ (by omega) (by omega)
theorem uneven_M (hA : MdAt N S R m) (I : Nat → Nat → Int32) (J : Nat → Nat → Int64) (kd : Nat) (hk : kd < 10) (key : Int64) (n : Nat) (lg : Nat → Nat × Int64) (e a : Int32) (v : Int64) (hc : CallOk I J m kd key n lg e a v) : fX9_isUneven m (N, SL, S, R, I, J) = some (if kd = 2 ∧ ¬ evenL n lg then 1 else 0, (N, SL, S, R, I, J)) := by
  have h8 := hc.2.2.1.2.1
  unfold fX9_isUneven
  rw [md_g hA, hc.1]
  by_cases w : kd = 2
  · rw [if_pos (show nI kd = 2 by rw [w]; rfl)]
    refine (uneven_loop hA I J kd key n lg e a v hc n 0 FU 0 0 (by omega) (by unfold FU; omega)).trans ?_
    by_cases t : evenL n lg
    · rw [if_pos t, if_neg (fun x => x.2 t)]
    · rw [if_neg t, if_pos ⟨w, t⟩]
  · rw [if_neg (show ¬ nI kd = (2 : Int32) from fun x => w ((nI_eq (a := kd) (b := 2) (by omega) (by decide)).mp x)), retZ_0, if_neg (fun x => w x.1)]
theorem over_legs (hA : MdAt N S R m) (I : Nat → Nat → Int32) (na : Nat) (hna : na ≤ 40) (kd : Nat) (key : Int64) (n : Nat) (lg : Nat → Nat × Int64) (e a : Int32) (v : Int64) (hac : ∀ k, k < n → (lg k).1 < na) : ∀ (q k fuel : Nat) (J : Nat → Nat → Int64) (cur : Nat → Int64), k + q = n → q < fuel → CallOk I J m kd key n lg e a v → (∀ a, a < na → J (m + 28) a = cur a) →
    ∃ J' : Nat → Nat → Int64, fX9_isOver_37 fuel m (nI k) (N, SL, S, R, I, J) = some (if bhR lg q k cur = none then 1 else 0, (N, SL, S, R, I, J')) ∧ (∀ c, c ≠ m + 28 → J' c = J c) ∧ ∀ bb, bhR lg q k cur = some bb → ∀ a, a < na → J' (m + 28) a = bb a
  | 0, k, fuel, J, cur, hk, hf, hc, hcur => by
    obtain ⟨y, rfl⟩ : ∃ y, fuel = y + 1 := ⟨fuel - 1, by omega⟩
    have h8 := hc.2.2.1.2.1
    refine ⟨J, ?_, fun _ _ => rfl, fun bb h a ha => by cases h; exact hcur a ha⟩
    rw [fX9_isOver_37, md_g hA, hc.2.2.1.1, if_pos ((nI_leI (by omega) (by omega)).mpr (by omega)), retZ_0, if_neg (fun q => by cases q)]
  | q + 1, k, fuel, J, cur, hk, hf, hc, hcur => by
    obtain ⟨y, rfl⟩ : ∃ y, fuel = y + 1 := ⟨fuel - 1, by omega⟩
    have h8 := hc.2.2.1.2.1
    have h9 := hac k (by omega)
    have hlk := hc.2.2.1.2.2 k (by omega)
    rw [fX9_isOver_37, md_g hA, hc.2.2.1.1, if_neg (nI_lt_of (by omega) (by omega)), md_f32 hA, md_r25 hA (by omega), hlk.1, md_f36 hA, md_r28 hA (by omega), hcur _ h9, md_f33 hA, md_r26 hA (by omega), md_f33 hA, md_r26 hA (by omega), hlk.2, bhR]
    by_cases w : (0 : Int64) ≤ ((cur (lg k).1 ^^^ (cur (lg k).1 + (lg k).2)) &&& ((lg k).2 ^^^ (cur (lg k).1 + (lg k).2)))
    · rw [if_pos w, if_pos w, md_f36 hA, md_w28 hA (by omega), nI_1]
      obtain ⟨h1, h2, h3, h4, h5, h6⟩ := hc
      obtain ⟨J', g1, g2, g3⟩ := over_legs hA I na hna kd key n lg e a v hac q (k + 1) y (u2 J (m + 28) (lg k).1 (cur (lg k).1 + (lg k).2)) (up cur (lg k).1 (cur (lg k).1 + (lg k).2)) (by omega) (by omega)
        ⟨h1, by rw [u2_ne (by omega)]; exact h2, ⟨h3.1, h3.2.1, fun j hj => by rw [u2_ne (by omega)]; exact h3.2.2 j hj⟩, h4, h5, by rw [u2_ne (by omega)]; exact h6⟩ (fun a ha => by
          rw [u2_at]
          by_cases t : a = (lg k).1
          · rw [t, up_eq, up_eq]
          · rw [up_ne t, up_ne t]; exact hcur a ha)
      exact ⟨J', g1, fun c hc => by rw [g2 c hc, u2_ne hc], g3⟩
    · rw [if_neg w, if_neg w, retZ_1, if_pos rfl]
      exact ⟨J, rfl, fun _ _ => rfl, fun bb h => by cases h⟩
theorem over_copy (hA : MdAt N S R m) (I : Nat → Nat → Int32) (z : Nat) (hz : z ≤ 1) (na : Nat) (hna : na ≤ 40) (ba : Nat → Int64) (h1 : I (m + 1) z = nI na) : ∀ (q a fuel : Nat) (J : Nat → Nat → Int64), a + q = na → q < fuel → (∀ c, c < na → J (m + 7) (40 * z + c) = ba c) → (∀ c, c < a → J (m + 28) c = ba c) →
    ∃ J' : Nat → Nat → Int64, fX9_isOver_2 fuel m (nI z) (nI a) (N, SL, S, R, I, J) = fX9_isOver_37 FU m 0 (N, SL, S, R, I, J') ∧ (∀ c, c ≠ m + 28 → J' c = J c) ∧ ∀ c, c < na → J' (m + 28) c = ba c
  | 0, a, fuel, J, ha, hf, hb, hd => by
    obtain ⟨y, rfl⟩ : ∃ y, fuel = y + 1 := ⟨fuel - 1, by omega⟩
    exact ⟨J, by rw [fX9_isOver_2, md_f0 hA, md_r1 hA (by omega), h1, if_pos ((nI_leI (by omega) (by omega)).mpr (by omega))], fun _ _ => rfl, fun c hc => hd c (by omega)⟩
  | q + 1, a, fuel, J, ha, hf, hb, hd => by
    obtain ⟨y, rfl⟩ : ∃ y, fuel = y + 1 := ⟨fuel - 1, by omega⟩
    obtain ⟨J', g1, g2, g3⟩ := over_copy hA I z hz na hna ba h1 q (a + 1) y (u2 J (m + 28) a (ba a)) (by omega) (by omega) (fun c hc => by rw [u2_ne (by omega)]; exact hb c hc) (fun c hc => by
      rw [u2_at]
      by_cases w : c = a
      · rw [w, up_eq]
      · rw [up_ne w]; exact hd c (by omega))
    refine ⟨J', ?_, fun c hc => by rw [g2 c hc, u2_ne hc], g3⟩
    rw [fX9_isOver_2, md_f0 hA, md_r1 hA (by omega), h1, if_neg (nI_lt_of (by omega) (by omega)), md_f36 hA, md_f6 hA, show (40 : Int32) = nI 40 from rfl, nI_mul, nI_add, md_r7 hA (by omega), hb a (by omega), md_w28 hA (by omega), nI_1]
    exact g1
theorem CallOk.j28 {I : Nat → Nat → Int32} {J J' : Nat → Nat → Int64} {kd : Nat} {key : Int64} {n : Nat} {lg : Nat → Nat × Int64} {e a : Int32} {v : Int64} (h : ∀ c, c ≠ m + 28 → J' c = J c) (hc : CallOk I J m kd key n lg e a v) : CallOk I J' m kd key n lg e a v := by
  obtain ⟨h1, h2, h3, h4, h5, h6⟩ := hc
  exact ⟨h1, by rw [h _ (by omega)]; exact h2, ⟨h3.1, h3.2.1, fun k hk => by rw [h _ (by omega)]; exact h3.2.2 k hk⟩, h4, h5, by rw [h _ (by omega)]; exact h6⟩
theorem MRep.j28 {z : Nat} {I : Nat → Nat → Int32} {J J' : Nat → Nat → Int64} {L : Lg} (h : ∀ c, c ≠ m + 28 → J' c = J c) (hr : MRep m z I J L) : MRep m z I J' L := by
  unfold MRep MAcc MEnt
  rw [h (m + 6) (by omega), h (m + 7) (by omega), h (m + 8) (by omega), h (m + 9) (by omega), h (m + 11) (by omega), h (m + 14) (by omega), h (m + 16) (by omega)]
  exact hr
theorem KF.j28 {I : Nat → Nat → Int32} {J J' : Nat → Nat → Int64} (h : ∀ c, c ≠ m + 28 → J' c = J c) : KF m I I J J' := ⟨fun _ _ _ => rfl, fun _ _ => rfl, fun c _ _ a => h c a, fun j _ => by rw [h m (by omega)]⟩
theorem over_M (hA : MdAt N S R m) (I : Nat → Nat → Int32) (J : Nat → Nat → Int64) (z : Nat) (hz : z ≤ 1) (L : Lg) (hM : MRep m z I J L) (hna : L.na ≤ 40) (kd : Nat) (key : Int64) (n : Nat) (lg : Nat → Nat × Int64) (e a : Int32) (v : Int64) (hc : CallOk I J m kd key n lg e a v) (hac : ∀ k, k < n → (lg k).1 < L.na) :
    ∃ J' : Nat → Nat → Int64, fX9_isOver m (nI z) (N, SL, S, R, I, J) = some (if bhR lg n 0 L.ba = none then 1 else 0, (N, SL, S, R, I, J')) ∧ (∀ c, c ≠ m + 28 → J' c = J c) ∧ ∀ bb, bhR lg n 0 L.ba = some bb → ∀ a, a < L.na → J' (m + 28) a = bb a := by
  have h8 := hc.2.2.1.2.1
  obtain ⟨J1, a1, a2, a3⟩ := over_copy (SL := SL) hA I z hz L.na hna L.ba hM.1.1 L.na 0 FU J (by omega) (by unfold FU; omega) (fun c hc => (hM.2.1 c hc).2.1) (fun c hc => absurd hc (by omega))
  obtain ⟨J2, c1, c2, c3⟩ := over_legs (SL := SL) hA I L.na hna kd key n lg e a v hac n 0 FU J1 L.ba (by omega) (by unfold FU; omega) (hc.j28 a2) a3
  refine ⟨J2, ?_, fun c hc => by rw [c2 c hc, a2 c hc], c3⟩
  unfold fX9_isOver
  exact a1.trans c1
end RefB
