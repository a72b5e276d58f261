-- P3, reference: refused, a kind of call each
section RefD
variable {N SL : Nat} {S : Nat → Shp} {R : Nat → Nat → Option Nat} {m : Nat}
theorem unk_yes (hA : MdAt N S R m) (I : Nat → Nat → Int32) (J : Nat → Nat → Int64) (z : Nat) (n : Nat) (h8 : n ≤ 8) (h27 : I m 27 = nI n) : ∀ (q k fuel : Nat), k + q = n → q < fuel → fX9_isUnknown_55 fuel m (nI z) 1 (nI k) (N, SL, S, R, I, J) = some (1, (N, SL, S, R, I, J))
  | 0, k, fuel, hk, hf => by
    obtain ⟨y, rfl⟩ : ∃ y, fuel = y + 1 := ⟨fuel - 1, by omega⟩
    rw [fX9_isUnknown_55, md_g hA, h27, if_pos ((nI_leI (by omega) (by omega)).mpr (by omega)), retZ_1]
  | q + 1, k, fuel, hk, hf => by
    obtain ⟨y, rfl⟩ : ∃ y, fuel = y + 1 := ⟨fuel - 1, by omega⟩
    rw [fX9_isUnknown_55, md_g hA, h27, if_neg (nI_lt_of (by omega) (by omega)), if_neg (by decide)]
    unfold fX9_isUnknown_83 fX9_isUnknown_88
    rw [nI_1]
    exact unk_yes hA I J z n h8 h27 q (k + 1) y (by omega) (by omega)
theorem unk_loop (hA : MdAt N S R m) (I : Nat → Nat → Int32) (J : Nat → Nat → Int64) (z : Nat) (hz : z ≤ 1) (L : Lg) (hM : MRep m z I J L) (hna : L.na ≤ 40) (n : Nat) (lg : Nat → Nat × Int64) (h3 : I m 27 = nI n ∧ n ≤ 8 ∧ ∀ k, k < n → I (m + 25) k = nI (lg k).1 ∧ J (m + 26) k = (lg k).2) (h256 : ∀ k, k < n → (lg k).1 < 256) : ∀ (q k fuel : Nat), k + q = n → q < fuel → (∀ j, j < k → (lg j).1 < L.na) →
    fX9_isUnknown_55 fuel m (nI z) 0 (nI k) (N, SL, S, R, I, J) = some (if ∀ j, j < n → (lg j).1 < L.na then 0 else 1, (N, SL, S, R, I, J))
  | 0, k, fuel, hk, hf, h => by
    obtain ⟨y, rfl⟩ : ∃ y, fuel = y + 1 := ⟨fuel - 1, by omega⟩
    rw [fX9_isUnknown_55, md_g hA, h3.1, if_pos ((nI_leI (by omega) (by omega)).mpr (by omega)), retZ_0, if_pos (fun j hj => h j (by omega))]
  | q + 1, k, fuel, hk, hf, h => by
    obtain ⟨y, rfl⟩ : ∃ y, fuel = y + 1 := ⟨fuel - 1, by omega⟩
    rw [fX9_isUnknown_55, md_g hA, h3.1, if_neg (nI_lt_of (by omega) (by omega)), if_pos rfl, md_f32 hA, md_r25 hA (by omega), (h3.2.2 k (by omega)).1, md_o hA, isAcc_M hA I J z hz L hM hna _ (h256 k (by omega)), bd_some]
    unfold fX9_isUnknown_83 fX9_isUnknown_88
    rw [nI_1]
    by_cases w : (lg k).1 < L.na
    · rw [if_pos w, if_neg (show ¬ (1 : Int32) = 0 by decide)]
      exact unk_loop hA I J z hz L hM hna n lg h3 h256 q (k + 1) y (by omega) (by omega) (fun j hj => by
        by_cases v : j = k
        · rw [v]; exact w
        · exact h j (by omega))
    · rw [if_neg w, if_pos rfl, if_neg (fun x => w (x k (by omega)))]
      exact unk_yes hA I J z n h3.2.1 h3.1 q (k + 1) y (by omega) (by omega)
/-- refused of a POST -/
def rPost (L : Lg) (n : Nat) (lg : Nat → Nat × Int64) : Int32 := if ¬ (∀ j, j < n → (lg j).1 < L.na) then -2 else if ¬ evenL n lg then -3 else wgh L L.he n lg
theorem refused_post (hA : MdAt N S R m) (I : Nat → Nat → Int32) (J : Nat → Nat → Int64) (z : Nat) (hz : z ≤ 1) (L : Lg) (hM : MRep m z I J L) (hL : LInv L) (key : Int64) (n : Nat) (lg : Nat → Nat × Int64) (e a : Int32) (v : Int64) (hc : CallOk I J m 2 key n lg e a v) (h256 : ∀ k, k < n → (lg k).1 < 256) :
    ∃ J' : Nat → Nat → Int64, fX9_refused m (nI z) (N, SL, S, R, I, J) = some (rPost L n lg, (N, SL, S, R, I, J')) ∧ ∀ c, c ≠ m + 28 → J' c = J c := by
  have h1 := hL.1
  have h8 := hc.2.2.1.2.1
  have hu : fX9_isUnknown m (nI z) (N, SL, S, R, I, J) = some (if ∀ j, j < n → (lg j).1 < L.na then 0 else 1, (N, SL, S, R, I, J)) := by
    unfold fX9_isUnknown
    rw [md_g hA, md_g hA, hc.1, if_pos (show nI 2 = 2 from rfl)]
    exact unk_loop hA I J z hz L hM h1.1 n lg hc.2.2.1 h256 n 0 FU (by omega) (by unfold FU; omega) (fun j hj => absurd hj (by omega))
  unfold fX9_refused rPost
  rw [md_o hA, hu, bd_some]
  by_cases w : ∀ j, j < n → (lg j).1 < L.na
  · rw [if_pos w, if_pos rfl, if_neg (fun q => q w), md_o hA, uneven_M hA I J 2 (by decide) key n lg e a v hc, bd_some]
    by_cases t : evenL n lg
    · rw [if_neg (show ¬ (2 = 2 ∧ ¬ evenL n lg) from fun q => q.2 t), if_pos rfl, if_neg (fun q => q t), md_g hA, hc.1, if_neg (show ¬ nI 2 = (6 : Int32) by decide)]
      exact ref52_M hA I J z hz L hM hL 2 (by decide) (by decide) key n lg e a v hc w L.he (fun J' bb f1 f2 a ha => below_M hA I J' z hz L (hM.j28 f1) h1.1 2 (by decide) (by decide) (by decide) hc.1 bb f2 a ha)
    · rw [if_pos (show 2 = 2 ∧ ¬ evenL n lg from ⟨rfl, t⟩), if_neg (by decide), if_pos t]
      exact ⟨J, rfl, fun _ _ => rfl⟩
  · rw [if_neg w, if_neg (by decide), if_pos w]
    exact ⟨J, rfl, fun _ _ => rfl⟩
def rHold (L : Lg) (a V : Nat) : Int32 := if L.na ≤ a then -2 else if (L.ba a).toInt < (L.fl a).toInt + ((L.he a + V : Nat) : Int) then -6 else if 200 ≤ L.ne then -8 else 0
theorem refused_hold (hA : MdAt N S R m) (I : Nat → Nat → Int32) (J : Nat → Nat → Int64) (z : Nat) (hz : z ≤ 1) (L : Lg) (hM : MRep m z I J L) (hL : LInv L) (key : Int64) (lg : Nat → Nat × Int64) (e : Int32) (a V : Nat) (ha : a < 256) (hV : V < 9223372036854775808) (hc : CallOk I J m 3 key 0 lg e (nI a) (Int64.ofNat V)) :
    ∃ J' : Nat → Nat → Int64, fX9_refused m (nI z) (N, SL, S, R, I, J) = some (rHold L a V, (N, SL, S, R, I, J')) ∧ ∀ c, c ≠ m + 28 → J' c = J c := by
  have h1 := hL.1
  have hu : fX9_isUnknown m (nI z) (N, SL, S, R, I, J) = some (if a < L.na then 0 else 1, (N, SL, S, R, I, J)) := by
    unfold fX9_isUnknown fX9_isUnknown_114
    rw [md_g hA, md_g hA, hc.1, if_neg (show ¬ nI 3 = 2 by decide), if_pos (show nI 3 = 3 from rfl), md_g hA, hc.2.2.2.2.1, md_o hA, isAcc_M hA I J z hz L hM h1.1 a ha, bd_some]
    by_cases w : a < L.na
    · rw [if_pos w, if_neg (show ¬ (1 : Int32) = 0 by decide), retZ_0, if_pos w]
    · rw [if_neg w, if_pos rfl, retZ_1, if_neg w]
  unfold fX9_refused rHold
  rw [md_o hA, hu, bd_some]
  by_cases w : a < L.na
  · rw [if_pos w, if_pos rfl, if_neg (show ¬ L.na ≤ a by omega), md_o hA, uneven_M hA I J 3 (by decide) key 0 lg e _ _ hc, bd_some, if_neg (show ¬ (3 = 2 ∧ ¬ evenL 0 lg) from fun q => absurd q.1 (by decide)), if_pos rfl, md_g hA, hc.1, if_neg (show ¬ nI 3 = (6 : Int32) by decide)]
    obtain ⟨J1, a1, a2, a3⟩ := over_M (SL := SL) hA I J z hz L hM h1.1 3 key 0 lg e _ _ hc (fun k hk => absurd hk (by omega))
    have hc1 := hc.j28 a2
    refine ⟨J1, ?_, a2⟩
    unfold fX9_refused_52
    rw [md_o hA, a1, bd_some, show bhR lg 0 0 L.ba = some L.ba from rfl, if_neg (show ¬ (some L.ba = none) from fun q => by cases q), if_pos rfl, md_g hA, hc.1, if_pos (show nI 3 = (3 : Int32) from rfl), md_g hA, hc.2.2.2.2.1, md_o hA, below_hold_M hA I J1 z hz L (hM.j28 a2) h1.1 a V hV hc1.1 hc1.2.2.2.2.1 hc1.2.2.2.2.2 L.ba (a3 L.ba rfl) w, bd_some]
    by_cases t : (L.ba a).toInt < (L.fl a).toInt + ((L.he a + V : Nat) : Int)
    · rw [if_pos t, if_neg (by decide), if_pos t]
      exact ref91_yes hA I J1 z 0 (by decide) hc.2.2.1.1 0 0 FU rfl (by decide)
    · rw [if_neg t, if_pos rfl, if_neg t]
      refine (ref91_M (SL := SL) hA I J1 z hz L (hM.j28 a2) h1.2.1 0 lg hc1.2.2.1 L.ba L.he (fun k hk => absurd hk (by omega)) 0 0 FU rfl (by decide) (fun j hj => absurd hj (by omega))).trans ?_
      rw [if_neg (show ¬ lowB L L.ba L.he 0 lg from fun ⟨j, hj, _⟩ => absurd hj (by omega))]
      by_cases s : 200 ≤ L.ne
      · rw [if_neg (by omega), if_pos s]
      · rw [if_pos (by omega), if_neg s]
  · rw [if_neg w, if_neg (by decide), if_pos (show L.na ≤ a by omega)]
    exact ⟨J, rfl, fun _ _ => rfl⟩
def rRel (L : Lg) (e : Nat) : Int32 := if ¬ (e < L.ne ∧ thB (L.es e) = true) then -2 else if 200 ≤ L.ne then -8 else 0
theorem wgh_none (L : Lg) (hb : Nat → Nat) (lg : Nat → Nat × Int64) : wgh L hb 0 lg = if 200 ≤ L.ne then -8 else 0 := by
  unfold wgh
  show (if lowB L L.ba hb 0 lg then (-6 : Int32) else if L.ne < 200 then 0 else -8) = _
  rw [if_neg (show ¬ lowB L L.ba hb 0 lg from fun ⟨j, hj, _⟩ => absurd hj (by omega))]
  by_cases s : 200 ≤ L.ne
  · rw [if_neg (by omega), if_pos s]
  · rw [if_pos (by omega), if_neg s]
theorem refused_rel (hA : MdAt N S R m) (I : Nat → Nat → Int32) (J : Nat → Nat → Int64) (z : Nat) (hz : z ≤ 1) (L : Lg) (hM : MRep m z I J L) (hL : LInv L) (key : Int64) (lg : Nat → Nat × Int64) (e : Nat) (he : e < 200) (a : Int32) (v : Int64) (hc : CallOk I J m 4 key 0 lg (nI e) a v) :
    ∃ J' : Nat → Nat → Int64, fX9_refused m (nI z) (N, SL, S, R, I, J) = some (rRel L e, (N, SL, S, R, I, J')) ∧ ∀ c, c ≠ m + 28 → J' c = J c := by
  have h1 := hL.1
  have hu : fX9_isUnknown m (nI z) (N, SL, S, R, I, J) = some (if e < L.ne ∧ thB (L.es e) = true then 0 else 1, (N, SL, S, R, I, J)) := by
    unfold fX9_isUnknown fX9_isUnknown_132
    rw [md_g hA, md_g hA, hc.1, if_neg (show ¬ nI 4 = 2 by decide), if_neg (show ¬ nI 4 = 3 by decide), if_pos (show nI 4 = 4 from rfl), md_g hA, hc.2.2.2.1, md_o hA, isHold_M hA I J z hz L hM hL e he, bd_some]
    by_cases w : e < L.ne ∧ thB (L.es e) = true
    · rw [if_pos w, if_neg (show ¬ (1 : Int32) = 0 by decide), retZ_0, if_pos w]
    · rw [if_neg w, if_pos rfl, retZ_1, if_neg w]
  unfold fX9_refused rRel
  rw [md_o hA, hu, bd_some]
  by_cases w : e < L.ne ∧ thB (L.es e) = true
  · rw [if_pos w, if_pos rfl, if_neg (fun q => q w), md_o hA, uneven_M hA I J 4 (by decide) key 0 lg _ a v hc, bd_some, if_neg (show ¬ (4 = 2 ∧ ¬ evenL 0 lg) from fun q => absurd q.1 (by decide)), if_pos rfl, md_g hA, hc.1, if_neg (show ¬ nI 4 = (6 : Int32) by decide), ← wgh_none L L.he lg]
    exact ref52_M hA I J z hz L hM hL 4 (by decide) (by decide) key 0 lg _ a v hc (fun k hk => absurd hk (by omega)) L.he (fun J' bb f1 f2 a ha => below_M hA I J' z hz L (hM.j28 f1) h1.1 4 (by decide) (by decide) (by decide) hc.1 bb f2 a ha)
  · rw [if_neg w, if_neg (by decide), if_pos w]
    exact ⟨J, rfl, fun _ _ => rfl⟩
def rCap (L : Lg) (e a V : Nat) : Int32 := if ¬ (e < L.ne ∧ thB (L.es e) = true ∧ a < L.na ∧ V ≤ (L.es e).hm) then -2 else wgh L (up L.he (L.es e).ha (L.he (L.es e).ha - (L.es e).hm)) 2 (cLg (L.es e).ha a (Int64.ofNat V))
set_option maxHeartbeats 4000000 in
theorem refused_cap (hA : MdAt N S R m) (I : Nat → Nat → Int32) (J : Nat → Nat → Int64) (z : Nat) (hz : z ≤ 1) (L : Lg) (hM : MRep m z I J L) (hL : LInv L) (key : Int64) (lg : Nat → Nat × Int64) (e : Nat) (he : e < 200) (a V : Nat) (ha : a < 256) (hV : V < 9223372036854775808) (hc : CallOk I J m 5 key 0 lg (nI e) (nI a) (Int64.ofNat V)) :
    ∃ (I' : Nat → Nat → Int32) (J' : Nat → Nat → Int64), fX9_refused m (nI z) (N, SL, S, R, I, J) = some (rCap L e a V, (N, SL, S, R, I', J')) ∧ KF m I I' J J' ∧ (e < L.ne ∧ thB (L.es e) = true ∧ a < L.na ∧ V ≤ (L.es e).hm → CallOk I' J' m 5 key 2 (cLg (L.es e).ha a (Int64.ofNat V)) (nI e) (nI a) (Int64.ofNat V)) ∧ I' (m + 27) = I (m + 27) ∧ I' m 35 = I m 35 := by
  have h1 := hL.1
  unfold rCap
  by_cases w : e < L.ne ∧ thB (L.es e) = true ∧ a < L.na ∧ V ≤ (L.es e).hm
  · have hk := thB_kd w.2.1
    have hE := (hL.2.2.1 e w.1).2.2 hk.1
    have hm := (hM.2.2 e w.1).2.2.1 hk.1
    obtain ⟨I1, J1, a1, a2, a3, a4, a5⟩ := leg_M (SL := SL) hA I J 5 key 0 lg (cLg (L.es e).ha a (Int64.ofNat V)) (nI e) (nI a) (Int64.ofNat V) hc (by decide) (L.es e).ha (0 - Int64.ofNat V) (fun k hk => absurd hk (by omega)) rfl
    obtain ⟨I2, J2, c1, c2, c3, c4, c5⟩ := leg_M (SL := SL) hA I1 J1 5 key 1 (cLg (L.es e).ha a (Int64.ofNat V)) (cLg (L.es e).ha a (Int64.ofNat V)) (nI e) (nI a) (Int64.ofNat V) a2 (by decide) a (Int64.ofNat V) (fun k hk => rfl) rfl
    have hf := a3.trans c3
    have hM2 := hf.rep hM
    have hu : fX9_isUnknown m (nI z) (N, SL, S, R, I, J) = some (0, (N, SL, S, R, I2, J2)) := by
      unfold fX9_isUnknown
      rw [md_g hA, hc.2.2.2.1, md_g hA, hc.1, if_neg (show ¬ nI 5 = 2 by decide), if_neg (show ¬ nI 5 = 3 by decide), if_neg (show ¬ nI 5 = 4 by decide), if_pos (show nI 5 = 5 from rfl), md_g hA, hc.2.2.2.1, md_o hA, isHold_M hA I J z hz L hM hL e he, bd_some, if_pos (show e < L.ne ∧ thB (L.es e) = true from ⟨w.1, w.2.1⟩), if_neg (show ¬ (1 : Int32) = 0 by decide), md_g hA, hc.2.2.2.2.1, md_o hA, isAcc_M hA I J z hz L hM h1.1 a ha, bd_some, if_pos w.2.2.1, if_neg (show ¬ (1 : Int32) = 0 by decide), md_gJ hA, hc.2.2.2.2.2, md_f15 hA, show (200 : Int32) = nI 200 from rfl, nI_mul, nI_add, md_r16 hA (by omega), hm.2, if_pos ((of_le hV hE.2.2.2.2.1).mpr w.2.2.2), md_f14 hA, md_r15 hA (by omega), hm.1, md_gJ hA, hc.2.2.2.2.2]
      have a1' : fX9_leg m (nI (L.es e).ha) (0 - Int64.ofNat V) (0 : Int32) (N, SL, S, R, I, J) = some ((), (N, SL, S, R, I1, J1)) := a1
      have c1' : fX9_leg m (nI a) (Int64.ofNat V) (1 : Int32) (N, SL, S, R, I1, J1) = some ((), (N, SL, S, R, I2, J2)) := c1
      rw [md_o hA, a1', bd_some, md_g hA, a2.2.2.2.2.1, md_gJ hA, a2.2.2.2.2.2, md_o hA, c1', bd_some, retZ_0]
    unfold fX9_refused
    rw [md_o hA, hu, bd_some, if_pos rfl, md_o hA, uneven_M hA I2 J2 5 (by decide) key 2 _ _ _ _ c2, bd_some, if_neg (show ¬ (5 = 2 ∧ ¬ evenL 2 _) from fun q => absurd q.1 (by decide)), if_pos rfl, md_g hA, c2.1, if_neg (show ¬ nI 5 = (6 : Int32) by decide), if_neg (fun q => q w)]
    obtain ⟨J3, d1, d2⟩ := ref52_M (SL := SL) hA I2 J2 z hz L hM2 hL 5 (by decide) (by decide) key 2 (cLg (L.es e).ha a (Int64.ofNat V)) (nI e) (nI a) (Int64.ofNat V) c2 (fun k hk => by
      show (if k = 0 then ((L.es e).ha, 0 - Int64.ofNat V) else (a, Int64.ofNat V)).1 < L.na
      by_cases t : k = 0
      · rw [if_pos t]; exact hE.2.2.1
      · rw [if_neg t]; exact w.2.2.1) (up L.he (L.es e).ha (L.he (L.es e).ha - (L.es e).hm)) (fun J' bb f1 f2 a ha => below_cap_M hA I2 J' z hz L (hM2.j28 f1) hL e w.1 w.2.1 c2.1 c2.2.2.2.1 bb f2 a ha)
    exact ⟨I2, J3, d1, hf.trans (KF.j28 d2), fun _ => c2.j28 d2, by rw [c4, a4], by rw [c5, a5]⟩
  · rw [if_pos w]
    refine ⟨I, J, ?_, KF.refl, fun q => absurd q w, rfl, rfl⟩
    have hu : fX9_isUnknown m (nI z) (N, SL, S, R, I, J) = some (1, (N, SL, S, R, I, J)) := by
      unfold fX9_isUnknown fX9_isUnknown_171
      rw [md_g hA, hc.2.2.2.1, md_g hA, hc.1, if_neg (show ¬ nI 5 = 2 by decide), if_neg (show ¬ nI 5 = 3 by decide), if_neg (show ¬ nI 5 = 4 by decide), if_pos (show nI 5 = 5 from rfl), md_g hA, hc.2.2.2.1, md_o hA, isHold_M hA I J z hz L hM hL e he, bd_some]
      by_cases t : e < L.ne ∧ thB (L.es e) = true
      · have hk := thB_kd t.2
        have hE := (hL.2.2.1 e t.1).2.2 hk.1
        have hm := (hM.2.2 e t.1).2.2.1 hk.1
        rw [if_pos t, if_neg (show ¬ (1 : Int32) = 0 by decide), md_g hA, hc.2.2.2.2.1, md_o hA, isAcc_M hA I J z hz L hM h1.1 a ha, bd_some]
        by_cases s : a < L.na
        · rw [if_pos s, if_neg (show ¬ (1 : Int32) = 0 by decide), md_gJ hA, hc.2.2.2.2.2, md_f15 hA, show (200 : Int32) = nI 200 from rfl, nI_mul, nI_add, md_r16 hA (by omega), hm.2, if_neg (fun q => w ⟨t.1, t.2, s, (of_le hV hE.2.2.2.2.1).mp q⟩), retZ_1]
        · rw [if_neg s, if_pos rfl, retZ_1]
      · rw [if_neg t, if_pos rfl, retZ_1]
    unfold fX9_refused
    rw [md_o hA, hu, bd_some, if_neg (by decide)]
theorem revM_loop (hA : MdAt N S R m) (z : Nat) (hz : z ≤ 1) (L : Lg) (hL : LInv L) (key : Int64) (e : Nat) (he : e < L.ne) (a : Int32) (v : Int64) : ∀ (q k fuel : Nat) (I : Nat → Nat → Int32) (J : Nat → Nat → Int64), k + q = (L.es e).nl → q < fuel → MRep m z I J L → CallOk I J m 6 key k (rLg (L.es e).lg) (nI e) a v →
    ∃ (I' : Nat → Nat → Int32) (J' : Nat → Nat → Int64), fX9_isUnknown_231 fuel m (nI (200 * z + e)) (nI k) (N, SL, S, R, I, J) = some (0, (N, SL, S, R, I', J')) ∧ CallOk I' J' m 6 key (L.es e).nl (rLg (L.es e).lg) (nI e) a v ∧ KF m I I' J J' ∧ I' (m + 27) = I (m + 27) ∧ I' m 35 = I m 35
  | 0, k, fuel, I, J, hk, hf, hM, hc => by
    obtain ⟨y, rfl⟩ : ∃ y, fuel = y + 1 := ⟨fuel - 1, by omega⟩
    have h1 := hL.1
    have h8 := (hL.2.2.1 e he).1.2.2.2
    have : k = (L.es e).nl := by omega
    subst this
    exact ⟨I, J, by rw [fX9_isUnknown_231, md_f11 hA, md_r12 hA (by omega), (hM.2.2 e he).1.2.2, if_pos ((nI_leI (by omega) (by omega)).mpr (Nat.le_refl _)), retZ_0], hc, KF.refl, rfl, rfl⟩
  | q + 1, k, fuel, I, J, hk, hf, hM, hc => by
    obtain ⟨y, rfl⟩ : ∃ y, fuel = y + 1 := ⟨fuel - 1, by omega⟩
    have h1 := hL.1
    have h8 := (hL.2.2.1 e he).1.2.2.2
    have o := hM.2.2 e he
    have ok := o.2.1 k (by omega)
    obtain ⟨I1, J1, a1, a2, a3, a4, a5⟩ := leg_M (SL := SL) hA I J 6 key k (rLg (L.es e).lg) (rLg (L.es e).lg) (nI e) a v hc (by omega) ((L.es e).lg k).1 (0 - ((L.es e).lg k).2) (fun _ _ => rfl) rfl
    obtain ⟨I2, J2, c1, c2, c3, c4, c5⟩ := revM_loop hA z hz L hL key e he a v q (k + 1) y I1 J1 (by omega) (by omega) (a3.rep hM) a2
    refine ⟨I2, J2, ?_, c2, a3.trans c3, by rw [c4, a4], by rw [c5, a5]⟩
    rw [fX9_isUnknown_231, md_f11 hA, md_r12 hA (by omega), o.1.2.2, if_neg (nI_lt_of (by omega) (by omega)), md_f12 hA, show (8 : Int32) = nI 8 from rfl, nI_mul, nI_add, md_r13 hA (by omega), ok.1, md_f13 hA, md_r14 hA (by omega), ok.2, md_o hA, a1, bd_some, nI_1]
    exact c1
def rRev (L : Lg) (e : Nat) : Int32 := if ¬ (e < L.ne ∧ (L.es e).nl ≠ 0) then -2 else if (L.es e).en ≠ -1 then -7 else wgh L L.he (L.es e).nl (rLg (L.es e).lg)
set_option maxHeartbeats 4000000 in
theorem refused_rev (hA : MdAt N S R m) (I : Nat → Nat → Int32) (J : Nat → Nat → Int64) (z : Nat) (hz : z ≤ 1) (L : Lg) (hM : MRep m z I J L) (hL : LInv L) (key : Int64) (e : Nat) (he : e < 200) (a : Int32) (v : Int64) (hc : ∀ lg, CallOk I J m 6 key 0 lg (nI e) a v) :
    ∃ (I' : Nat → Nat → Int32) (J' : Nat → Nat → Int64), fX9_refused m (nI z) (N, SL, S, R, I, J) = some (rRev L e, (N, SL, S, R, I', J')) ∧ KF m I I' J J' ∧ (e < L.ne ∧ (L.es e).nl ≠ 0 → CallOk I' J' m 6 key (L.es e).nl (rLg (L.es e).lg) (nI e) a v) ∧ I' (m + 27) = I (m + 27) ∧ I' m 35 = I m 35 := by
  have h1 := hL.1
  have hc0 := hc (rLg (L.es e).lg)
  unfold rRev
  by_cases w : e < L.ne ∧ (L.es e).nl ≠ 0
  · have hE := hL.2.2.1 e w.1
    have h8 := hE.1.2.2.2
    have o := hM.2.2 e w.1
    obtain ⟨I2, J2, c1, c2, c3, c4, c5⟩ := revM_loop (SL := SL) hA z hz L hL key e w.1 a v (L.es e).nl 0 FU I J (by omega) (by unfold FU; omega) hM hc0
    have hM2 := c3.rep hM
    have hu : fX9_isUnknown m (nI z) (N, SL, S, R, I, J) = some (0, (N, SL, S, R, I2, J2)) := by
      unfold fX9_isUnknown
      rw [md_g hA, hc0.2.2.2.1, md_g hA, hc0.1, if_neg (show ¬ nI 6 = 2 by decide), if_neg (show ¬ nI 6 = 3 by decide), if_neg (show ¬ nI 6 = 4 by decide), if_neg (show ¬ nI 6 = 5 by decide), if_pos (show nI 6 = 6 from rfl), md_g hA, hc0.2.2.2.1, md_f1 hA, md_r2 hA (by omega), hM.1.2.1, if_neg (nI_lt_of (by omega) w.1), md_f11 hA, show (200 : Int32) = nI 200 from rfl, nI_mul, nI_add, md_r12 hA (by omega), o.1.2.2, if_neg (nI_ne0 (by omega) (by omega))]
      exact c1
    unfold fX9_refused
    rw [md_o hA, hu, bd_some, if_pos rfl, md_o hA, uneven_M hA I2 J2 6 (by decide) key _ _ _ _ _ c2, bd_some, if_neg (show ¬ (6 = 2 ∧ ¬ evenL _ _) from fun q => absurd q.1 (by decide)), if_pos rfl, md_g hA, c2.1, if_pos (show nI 6 = (6 : Int32) from rfl), if_neg (fun q => q w), md_f17 hA, md_g hA, c2.2.2.2.1, show (200 : Int32) = nI 200 from rfl, nI_mul, nI_add, md_r18 hA (by omega), (hM2.2.2 e w.1).2.2.2.2]
    by_cases t : (L.es e).en = -1
    · rw [if_pos t, if_neg (fun q => q t)]
      obtain ⟨J3, d1, d2⟩ := ref52_M (SL := SL) hA I2 J2 z hz L hM2 hL 6 (by decide) (by decide) key (L.es e).nl (rLg (L.es e).lg) (nI e) a v c2 (fun k hk => (hE.2.1 k hk).1) L.he (fun J' bb f1 f2 a ha => below_M hA I2 J' z hz L (hM2.j28 f1) h1.1 6 (by decide) (by decide) (by decide) c2.1 bb f2 a ha)
      exact ⟨I2, J3, d1, c3.trans (KF.j28 d2), fun _ => c2.j28 d2, c4, c5⟩
    · rw [if_neg t, if_pos t]
      exact ⟨I2, J2, rfl, c3, fun _ => c2, c4, c5⟩
  · rw [if_pos w]
    refine ⟨I, J, ?_, KF.refl, fun q => absurd q w, rfl, rfl⟩
    have hu : fX9_isUnknown m (nI z) (N, SL, S, R, I, J) = some (1, (N, SL, S, R, I, J)) := by
      unfold fX9_isUnknown fX9_isUnknown_226
      rw [md_g hA, hc0.2.2.2.1, md_g hA, hc0.1, if_neg (show ¬ nI 6 = 2 by decide), if_neg (show ¬ nI 6 = 3 by decide), if_neg (show ¬ nI 6 = 4 by decide), if_neg (show ¬ nI 6 = 5 by decide), if_pos (show nI 6 = 6 from rfl), md_g hA, hc0.2.2.2.1, md_f1 hA, md_r2 hA (by omega), hM.1.2.1]
      by_cases t : e < L.ne
      · have o := hM.2.2 e t
        have h0 : (L.es e).nl = 0 := Decidable.not_not.mp (fun q => w ⟨t, q⟩)
        rw [if_neg (nI_lt_of (by omega) t), md_f11 hA, show (200 : Int32) = nI 200 from rfl, nI_mul, nI_add, md_r12 hA (by omega), o.1.2.2, h0, if_pos (show nI 0 = 0 from rfl), retZ_1]
      · rw [if_pos ((nI_leI (by omega) (by omega)).mpr (by omega)), retZ_1]
    unfold fX9_refused
    rw [md_o hA, hu, bd_some, if_neg (by decide)]
end RefD
