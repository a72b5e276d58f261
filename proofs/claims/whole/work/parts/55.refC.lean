-- P3, reference: isBelow and refused
section RefC
variable {N SL : Nat} {S : Nat → Shp} {R : Nat → Nat → Option Nat} {m : Nat}
theorem below_136 (hA : MdAt N S R m) (I : Nat → Nat → Int32) (J : Nat → Nat → Int64) (z : Nat) (hz : z ≤ 1) (a : Nat) (ha : a < 40) (f bb l3 l5 : Int64) (X : Nat) (hf : J (m + 6) (40 * z + a) = f) (h28 : J (m + 28) a = bb) (b1 : -4611686018427387904 ≤ l3.toInt) (b2 : l3.toInt ≤ 4611686018427387904) (b3 : -1099511627776 ≤ l5.toInt) (b4 : l5.toInt ≤ 1099511627776) (hX : l3.toInt * 4294967296 + l5.toInt = X) :
    fX9_isBelow_136 m (nI z) (nI a) l3 l5 (N, SL, S, R, I, J) = some (if bb.toInt < f.toInt + (X : Int) then 1 else 0, (N, SL, S, R, I, J)) := by
  have h := floorM (b := bb) (f := f) b1 b2 b3 b4
  rw [hX] at h
  unfold fX9_isBelow_136 fX9_isBelow_208
  rw [md_f5 hA, show (40 : Int32) = nI 40 from rfl, nI_mul, nI_add, md_r6 hA (by omega), hf, md_f36 hA, md_r28 hA (by omega), h28, md_f36 hA, md_r28 hA (by omega), h28]
  by_cases w : bb.toInt < f.toInt + (X : Int)
  · rw [if_neg (Int64.not_le.mpr (h.mpr w)), if_pos w, retZ_1]
  · rw [if_pos (Int64.not_lt.mp (fun q => w (h.mp q))), if_neg w, retZ_0]
theorem kd_is {kd c : Nat} (hk : kd < 10) (hc : c < 10) : nI kd = nI c ↔ kd = c := nI_eq (by omega) (by omega)
/-- isBelow, of a call that is no HOLD and no CAPTURE -/
theorem below_M (hA : MdAt N S R m) (I : Nat → Nat → Int32) (J : Nat → Nat → Int64) (z : Nat) (hz : z ≤ 1) (L : Lg) (hM : MRep m z I J L) (hna : L.na ≤ 40) (kd : Nat) (hk : kd < 10) (h3 : kd ≠ 3) (h5 : kd ≠ 5) (h26 : I m 26 = nI kd) (bb : Nat → Int64) (h28 : ∀ a, a < L.na → J (m + 28) a = bb a) (a : Nat) (ha : a < L.na) :
    fX9_isBelow m (nI z) (nI a) (N, SL, S, R, I, J) = some (if (bb a).toInt < (L.fl a).toInt + (L.he a : Int) then 1 else 0, (N, SL, S, R, I, J)) := by
  obtain ⟨g1, g2, g3, g4, g5, g6, g7⟩ := hM.2.1 a ha
  unfold fX9_isBelow fX9_isBelow_64
  rw [md_f7 hA, show (40 : Int32) = nI 40 from rfl, nI_mul, nI_add, md_r8 hA (by omega), md_f8 hA, md_r9 hA (by omega), md_g hA, h26, if_neg (show ¬ nI kd = (3 : Int32) from fun q => h3 ((kd_is hk (by decide)).mp q)), md_g hA, h26, if_neg (show ¬ nI kd = (5 : Int32) from fun q => h5 ((kd_is hk (by decide)).mp q))]
  exact below_136 hA I J z hz a (by omega) _ _ _ _ _ g1 (h28 a ha) (by omega) (by omega) (by omega) (by omega) g7
theorem ofN_I {V : Nat} (h : V < 9223372036854775808) : (Int64.ofNat V).toInt = V := Int64.toInt_ofNat_of_lt (by exact h)
/-- isBelow of the account of a HOLD -/
theorem below_hold_M (hA : MdAt N S R m) (I : Nat → Nat → Int32) (J : Nat → Nat → Int64) (z : Nat) (hz : z ≤ 1) (L : Lg) (hM : MRep m z I J L) (hna : L.na ≤ 40) (a V : Nat) (hV : V < 9223372036854775808) (h26 : I m 26 = nI 3) (h29 : I m 29 = nI a) (h31 : J m 31 = Int64.ofNat V) (bb : Nat → Int64) (h28 : ∀ a, a < L.na → J (m + 28) a = bb a) (ha : a < L.na) :
    fX9_isBelow m (nI z) (nI a) (N, SL, S, R, I, J) = some (if (bb a).toInt < (L.fl a).toInt + ((L.he a + V : Nat) : Int) then 1 else 0, (N, SL, S, R, I, J)) := by
  obtain ⟨g1, g2, g3, g4, g5, g6, g7⟩ := hM.2.1 a ha
  have e1 := y32 (Int64.ofNat V)
  have e2 := yF (Int64.ofNat V)
  rw [ofN_I hV] at e1 e2
  unfold fX9_isBelow fX9_isBelow_64
  rw [md_f7 hA, show (40 : Int32) = nI 40 from rfl, nI_mul, nI_add, md_r8 hA (by omega), md_f8 hA, md_r9 hA (by omega), md_g hA, h26, if_pos (show nI 3 = (3 : Int32) from rfl), md_g hA, h29, if_pos (show nI a = nI a from rfl), md_gJ hA, md_gJ hA, h31, md_g hA, h26, if_neg (show ¬ nI 3 = (5 : Int32) by decide)]
  have s1 : (J (m + 8) (40 * z + a) + yshr (Int64.ofNat V) 32).toInt = (J (m + 8) (40 * z + a)).toInt + (V : Int) / 4294967296 := by rw [tI_add (by omega) (by omega), e1]
  have s2 : (J (m + 9) (40 * z + a) + (Int64.ofNat V &&& 4294967295)).toInt = (J (m + 9) (40 * z + a)).toInt + (V : Int) % 4294967296 := by rw [tI_add (by omega) (by omega), e2]
  exact below_136 hA I J z hz a (by omega) _ _ _ _ _ g1 (h28 a ha) (by omega) (by omega) (by omega) (by omega) (by rw [s1, s2]; omega)
/-- isBelow of an account of a CAPTURE's legs -/
theorem below_cap_M (hA : MdAt N S R m) (I : Nat → Nat → Int32) (J : Nat → Nat → Int64) (z : Nat) (hz : z ≤ 1) (L : Lg) (hM : MRep m z I J L) (hL : LInv L) (e : Nat) (he : e < L.ne) (hth : thB (L.es e) = true) (h26 : I m 26 = nI 5) (h28' : I m 28 = nI e) (bb : Nat → Int64) (h28 : ∀ a, a < L.na → J (m + 28) a = bb a) (a : Nat) (ha : a < L.na) :
    fX9_isBelow m (nI z) (nI a) (N, SL, S, R, I, J) = some (if (bb a).toInt < (L.fl a).toInt + ((up L.he (L.es e).ha (L.he (L.es e).ha - (L.es e).hm) a : Nat) : Int) then 1 else 0, (N, SL, S, R, I, J)) := by
  have h1 := hL.1
  have hk := thB_kd hth
  have hE := (hL.2.2.1 e he).2.2 hk.1
  have hge := hs_ge hth L.ne he
  rw [← (hL.2.2.2.1 _ hE.2.2.1).2] at hge
  obtain ⟨g1, g2, g3, g4, g5, g6, g7⟩ := hM.2.1 a ha
  have hm := (hM.2.2 e he).2.2.1 hk.1
  have hV := hE.2.2.2.2.1
  have e1 := y32 (Int64.ofNat (L.es e).hm)
  have e2 := yF (Int64.ofNat (L.es e).hm)
  rw [ofN_I hV] at e1 e2
  unfold fX9_isBelow fX9_isBelow_64
  rw [md_f7 hA, show (40 : Int32) = nI 40 from rfl, nI_mul, nI_add, md_r8 hA (by omega), md_f8 hA, md_r9 hA (by omega), md_g hA, h26, if_neg (show ¬ nI 5 = (3 : Int32) by decide), md_g hA, h26, if_pos (show nI 5 = (5 : Int32) from rfl), md_f14 hA, md_g hA, h28', show (200 : Int32) = nI 200 from rfl, nI_mul, nI_add, md_r15 hA (by omega), hm.1]
  by_cases w : a = (L.es e).ha
  · rw [if_pos (by rw [w]), md_f15 hA, md_g hA, h28', nI_add, md_r16 hA (by omega), hm.2, md_f15 hA, md_g hA, h28', nI_add, md_r16 hA (by omega), hm.2]
    have s1 : (J (m + 8) (40 * z + a) - yshr (Int64.ofNat (L.es e).hm) 32).toInt = (J (m + 8) (40 * z + a)).toInt - ((L.es e).hm : Int) / 4294967296 := by rw [tI_sub (by omega) (by omega), e1]
    have s2 : (J (m + 9) (40 * z + a) - (Int64.ofNat (L.es e).hm &&& 4294967295)).toInt = (J (m + 9) (40 * z + a)).toInt - ((L.es e).hm : Int) % 4294967296 := by rw [tI_sub (by omega) (by omega), e2]
    rw [← w] at hge
    have eu : up L.he (L.es e).ha (L.he (L.es e).ha - (L.es e).hm) a = L.he a - (L.es e).hm := by rw [← w, up_eq]
    rw [eu]
    exact below_136 hA I J z hz a (by omega) _ _ _ _ _ g1 (h28 a ha) (by omega) (by omega) (by omega) (by omega) (by rw [s1, s2]; omega)
  · rw [if_neg (fun q => w ((nI_eq (by omega) (by omega)).mp q)), up_ne w]
    exact below_136 hA I J z hz a (by omega) _ _ _ _ _ g1 (h28 a ha) (by omega) (by omega) (by omega) (by omega) g7
theorem ref91_yes (hA : MdAt N S R m) (I : Nat → Nat → Int32) (J : Nat → Nat → Int64) (z : Nat) (n : Nat) (h8 : n ≤ 8) (h27 : I m 27 = nI n) : ∀ (q k fuel : Nat), k + q = n → q < fuel → fX9_refused_91 fuel m (nI z) 1 (nI k) (N, SL, S, R, I, J) = some (-6, (N, SL, S, R, I, J))
  | 0, k, fuel, hk, hf => by
    obtain ⟨y, rfl⟩ : ∃ y, fuel = y + 1 := ⟨fuel - 1, by omega⟩
    rw [fX9_refused_91, md_g hA, h27, if_pos ((nI_leI (by omega) (by omega)).mpr (by omega)), if_neg (by decide)]
  | q + 1, k, fuel, hk, hf => by
    obtain ⟨y, rfl⟩ : ∃ y, fuel = y + 1 := ⟨fuel - 1, by omega⟩
    rw [fX9_refused_91, md_g hA, h27, if_neg (nI_lt_of (by omega) (by omega)), if_neg (by decide)]
    unfold fX9_refused_117 fX9_refused_122
    rw [nI_1]
    exact ref91_yes hA I J z n h8 h27 q (k + 1) y (by omega) (by omega)
theorem ref91_M (hA : MdAt N S R m) (I : Nat → Nat → Int32) (J : Nat → Nat → Int64) (z : Nat) (hz : z ≤ 1) (L : Lg) (hM : MRep m z I J L) (hne : L.ne ≤ 200) (n : Nat) (lg : Nat → Nat × Int64) (h3 : I m 27 = nI n ∧ n ≤ 8 ∧ ∀ k, k < n → I (m + 25) k = nI (lg k).1 ∧ J (m + 26) k = (lg k).2) (bb : Nat → Int64) (hb : Nat → Nat) (hbl : ∀ k, k < n → fX9_isBelow m (nI z) (nI (lg k).1) (N, SL, S, R, I, J) = some (if (bb (lg k).1).toInt < (L.fl (lg k).1).toInt + (hb (lg k).1 : Int) then 1 else 0, (N, SL, S, R, I, J))) : ∀ (q k fuel : Nat), k + q = n → q < fuel → (∀ j, j < k → ¬ (bb (lg j).1).toInt < (L.fl (lg j).1).toInt + (hb (lg j).1 : Int)) →
    fX9_refused_91 fuel m (nI z) 0 (nI k) (N, SL, S, R, I, J) = some (if lowB L bb hb n lg then -6 else if L.ne < 200 then 0 else -8, (N, SL, S, R, I, J))
  | 0, k, fuel, hk, hf, h => by
    obtain ⟨y, rfl⟩ : ∃ y, fuel = y + 1 := ⟨fuel - 1, by omega⟩
    rw [fX9_refused_91, md_g hA, h3.1, if_pos ((nI_leI (by omega) (by omega)).mpr (by omega)), if_pos rfl, if_neg (show ¬ lowB L bb hb n lg from fun ⟨j, hj, x⟩ => h j (by omega) x), md_f1 hA, md_r2 hA (by omega), hM.1.2.1]
    unfold fX9_refused_154
    by_cases w : L.ne < 200
    · rw [if_neg (show ¬ nI L.ne = (200 : Int32) from fun q => absurd ((nI_eq (b := 200) (by omega) (by decide)).mp q) (by omega)), if_pos w]
    · rw [if_pos (show nI L.ne = (200 : Int32) by rw [show L.ne = 200 by omega]; rfl), if_neg w]
  | q + 1, k, fuel, hk, hf, h => by
    obtain ⟨y, rfl⟩ : ∃ y, fuel = y + 1 := ⟨fuel - 1, by omega⟩
    rw [fX9_refused_91, md_g hA, h3.1, if_neg (nI_lt_of (by omega) (by omega)), if_pos rfl, md_f32 hA, md_r25 hA (by omega), (h3.2.2 k (by omega)).1, md_o hA, hbl k (by omega), bd_some]
    unfold fX9_refused_117 fX9_refused_122
    rw [nI_1]
    by_cases w : (bb (lg k).1).toInt < (L.fl (lg k).1).toInt + (hb (lg k).1 : Int)
    · rw [if_pos w, if_neg (by decide), if_pos (show lowB L bb hb n lg from ⟨k, by omega, w⟩)]
      exact ref91_yes hA I J z n h3.2.1 h3.1 q (k + 1) y (by omega) (by omega)
    · rw [if_neg w, if_pos rfl]
      exact ref91_M hA I J z hz L hM hne n lg h3 bb hb hbl q (k + 1) y (by omega) (by omega) (fun j hj => by
        by_cases v : j = k
        · rw [v]; exact w
        · exact h j (by omega))
/-- the rest of refused, of a call that is no HOLD -/
theorem ref52_M (hA : MdAt N S R m) (I : Nat → Nat → Int32) (J : Nat → Nat → Int64) (z : Nat) (hz : z ≤ 1) (L : Lg) (hM : MRep m z I J L) (hL : LInv L) (kd : Nat) (hk : kd < 10) (hk3 : kd ≠ 3) (key : Int64) (n : Nat) (lg : Nat → Nat × Int64) (e a : Int32) (v : Int64) (hc : CallOk I J m kd key n lg e a v) (hac : ∀ k, k < n → (lg k).1 < L.na) (hb : Nat → Nat)
    (hbl : ∀ (J' : Nat → Nat → Int64) (bb : Nat → Int64), (∀ c, c ≠ m + 28 → J' c = J c) → (∀ a, a < L.na → J' (m + 28) a = bb a) → ∀ a, a < L.na → fX9_isBelow m (nI z) (nI a) (N, SL, S, R, I, J') = some (if (bb a).toInt < (L.fl a).toInt + (hb a : Int) then 1 else 0, (N, SL, S, R, I, J'))) :
    ∃ J' : Nat → Nat → Int64, fX9_refused_52 m (nI z) (N, SL, S, R, I, J) = some (wgh L hb n lg, (N, SL, S, R, I, J')) ∧ ∀ c, c ≠ m + 28 → J' c = J c := by
  have h1 := hL.1
  have h8 := hc.2.2.1.2.1
  obtain ⟨J1, a1, a2, a3⟩ := over_M (SL := SL) hA I J z hz L hM h1.1 kd key n lg e a v hc hac
  refine ⟨J1, ?_, a2⟩
  have hc1 := hc.j28 a2
  unfold fX9_refused_52 fX9_refused_87 fX9_refused_88
  rw [md_o hA, a1, bd_some]
  unfold wgh
  cases q : bhR lg n 0 L.ba with
  | none =>
    rw [if_pos rfl, if_neg (by decide)]
    rfl
  | some bb =>
    rw [if_neg (show ¬ (some bb = none) from fun q => by cases q), if_pos rfl, md_g hA, hc.1, if_neg (show ¬ nI kd = (3 : Int32) from fun q => hk3 ((kd_is hk (by decide)).mp q))]
    exact ref91_M hA I J1 z hz L (hM.j28 a2) h1.2.1 n lg hc1.2.2.1 bb hb (fun k hk => hbl J1 bb a2 (a3 bb q) _ (hac k hk)) n 0 FU (by omega) (by unfold FU; omega) (fun j hj => absurd hj (by omega))
end RefC
