-- P3, class: release, post, capture, reverse
theorem hs_ge {es : Nat → En} {i : Nat} (h : thB (es i) = true) : ∀ n, i < n → (es i).hm ≤ hsN es (es i).ha n
  | 0, hn => absurd hn (by omega)
  | n + 1, hn => by
    rw [hsN]
    by_cases z : i = n
    · subst z
      rw [if_pos ⟨h, rfl⟩]
      omega
    · have := hs_ge h n (by omega)
      omega
theorem hc_ge {es : Nat → En} {i : Nat} (h : thB (es i) = true) : ∀ n, i < n → 1 ≤ hcN es n
  | 0, hn => absurd hn (by omega)
  | n + 1, hn => by
    rw [hcN]
    by_cases z : i = n
    · subst z
      rw [if_pos h]
      omega
    · have := hc_ge h n (by omega)
      omega
theorem thB_kd {e : En} (h : thB e = true) : e.kd = 3 ∧ e.en = -1 := by
  unfold thB at h
  simpa using h
theorem hc_le {es : Nat → En} : ∀ n, hcN es n ≤ n
  | 0 => Nat.le_refl _
  | n + 1 => by
    rw [hcN]
    have := hc_le (es := es) n
    split <;> omega
/-- nothing refuses the legs -/
theorem wgh_0 {L : Lg} {hb : Nat → Nat} {n : Nat} {lg : Nat → Nat × Int64} (h : wgh L hb n lg = 0) : ∃ bb, bhR lg n 0 L.ba = some bb ∧ bhO L n lg = bb ∧ ¬ lowB L bb hb n lg ∧ L.ne < 200 := by
  unfold wgh at h
  unfold bhO
  cases q : bhR lg n 0 L.ba with
  | none => rw [q] at h; exact absurd h (show ¬ (-5 : Int32) = 0 by decide)
  | some bb =>
    rw [q] at h
    refine ⟨bb, rfl, rfl, ?_, ?_⟩
    · intro w
      have : wghO L hb n lg (some bb) = -6 := if_pos w
      rw [this] at h
      exact absurd h (by decide)
    · by_cases w : lowB L bb hb n lg
      · have : wghO L hb n lg (some bb) = -6 := if_pos w
        rw [this] at h
        exact absurd h (by decide)
      · have e : wghO L hb n lg (some bb) = if L.ne < 200 then 0 else -8 := if_neg w
        rw [e] at h
        by_cases z : L.ne < 200
        · exact z
        · rw [if_neg z] at h
          exact absurd h (by decide)
theorem he_lt {L : Lg} (hL : LInv L) {a : Nat} (ha : a < L.na) : L.he a < 18446744073709551616 := by
  have h := (hL.2.2.2.1 a ha).1
  have h1 := tI_lo (L.fl a)
  have h2 := tI_hi (L.ba a)
  omega
section Ops2C
variable {N SL : Nat} {S : Nat → Shp} {R : Nat → Nat → Option Nat} {b g : Nat}
set_option maxHeartbeats 4000000 in
theorem ends_spec (hA : LedAt N S R b) (I : Nat → Nat → Int32) (J : Nat → Nat → Int64) (L : Lg) (hC : CRep b I J L) (hL : LInv L) (i : Nat) (hi : i < L.ne) (hth : thB (L.es i) = true) (x : Int32) :
    ∃ (I' : Nat → Nat → Int32) (J' : Nat → Nat → Int64), fX3_endHold b (nI i) x (N, SL, S, R, I, J) = some ((), (N, SL, S, R, I', J')) ∧ CRep b I' J' (L.ends i x) ∧ (∀ c, c ≠ b → c ≠ b + 8 → I' c = I c) ∧ ∀ c, c ≠ b + 3 → J' c = J c := by
  have h1 := hL.1
  have hk := thB_kd hth
  have hE := (hL.2.2.1 i hi).2.2 hk.1
  have hha := hE.2.2.1
  have hge := hs_ge hth L.ne hi
  have hge2 := hc_ge hth L.ne hi
  rw [← (hL.2.2.2.1 _ hha).2] at hge
  rw [← hL.2.2.2.2] at hge2
  have hcl : L.hc ≤ L.ne := by rw [hL.2.2.2.2]; exact hc_le _
  refine ⟨u2 (u2 I b 15 (nI (L.hc - 1))) (b + 8) i x, u2 J (b + 3) (L.es i).ha (Int64.ofNat (L.he (L.es i).ha - (L.es i).hm)), ?_, ?_, fun c a1 a2 => by rw [u2_ne a2, u2_ne a1], fun c a => u2_ne a⟩
  · unfold fX3_endHold
    rw [le_f2 hA, le_o hA, accHeld_spec hA I J L hC hL i hi hk.1, bd_some, le_r3 hA (by omega), le_o hA, amtHeld_spec hA I J L hC hL i hi hk.1, bd_some, (hC.2.1 _ hha).2.2, le_w3 hA (by omega), le_g hA, hC.1.2.2.2.2, le_p hA, le_f8 hA, le_w8 hA (by omega)]
    rw [show nI L.hc - (1 : Int32) = nI (L.hc - 1) from pk_sub (b := 1) hge2, Int64.ofNat_sub _ _ hge]
  · obtain ⟨⟨h4, h12, h16, h17, h15⟩, hB', hS, hE', hY⟩ := hC
    refine ⟨⟨?_, ?_, ?_, ?_, ?_⟩, ?_, ?_, ?_, ?_⟩
    · rw [u2_ne (by omega), u2_at, up_ne (by decide)]; exact h4
    · rw [u2_ne (by omega), u2_at, up_ne (by decide)]; exact h12
    · rw [u2_ne (by omega), u2_at, up_ne (by decide)]; exact h16
    · rw [u2_ne (by omega), u2_at, up_ne (by decide)]; exact h17
    · rw [u2_ne (by omega), u2_at, up_eq]; rfl
    · intro c hc
      rw [u2_ne (by omega), u2_ne (by omega), u2_at]
      show J (b + 1) c = L.fl c ∧ J (b + 2) c = L.ba c ∧ up _ _ _ c = Int64.ofNat (up L.he (L.es i).ha (L.he (L.es i).ha - (L.es i).hm) c)
      by_cases w : c = (L.es i).ha
      · rw [w, up_eq, up_eq]; exact ⟨(hB' _ hha).1, (hB' _ hha).2.1, rfl⟩
      · rw [up_ne w, up_ne w]; exact hB' c hc
    · rw [u2_ne (by omega), u2_ne (by omega)]; exact hS
    · intro j hj
      rw [u2_at, u2_ne (show b + 9 ≠ b + 8 by omega), u2_ne (show b + 9 ≠ b by omega), u2_ne (show b + 10 ≠ b + 8 by omega), u2_ne (show b + 10 ≠ b by omega), u2_ne (show b + 7 ≠ b + 3 by omega), u2_ne (show b + 11 ≠ b + 3 by omega), u2_ne (show b + 8 ≠ b by omega)]
      have hj' := hE' j hj
      show J (b + 7) j = (up L.es i _ j).ky ∧ up _ _ _ j = (up L.es i _ j).en ∧ I (b + 9) j = nI (up L.es i _ j).nl ∧ ∀ k, k < (up L.es i _ j).nl → I (b + 10) (8 * j + k) = nI ((up L.es i _ j).lg k).1 ∧ J (b + 11) (8 * j + k) = ((up L.es i _ j).lg k).2
      by_cases w : j = i
      · subst w
        simp only [up_eq]
        exact ⟨hj'.1, rfl, hj'.2.2⟩
      · simp only [up_ne w]
        exact hj'
    · rw [u2_ne (by omega), u2_ne (by omega)]; exact hY
set_option maxHeartbeats 4000000 in
theorem rel_C (hA : LedAt N S R b) (I : Nat → Nat → Int32) (J : Nat → Nat → Int64) (L : Lg) (hC : CRep b I J L) (hL : LInv L) (x : Int32) : CTo N SL S R b I J (fX3_addRelease b x (N, SL, S, R, I, J)) (if x < 0 ∨ 200 ≤ x then (-1, L) else aRel L x.toNatClampNeg) := by
  have hb0 := hA.1.1.2.1
  have h1 := hL.1
  unfold fX3_addRelease
  have same : ∀ (z : Int32), CTo N SL S R b I J (some (z, (N, SL, S, R, I, J))) (z, L) := fun z => ⟨I, J, rfl, hC, fun _ _ => rfl, fun _ _ => rfl⟩
  rw [canBe_mk, bd_some]
  by_cases z2 : x < 0 ∨ 200 ≤ x
  · rw [if_pos z2, if_pos rfl, if_pos z2]
    exact same _
  rw [if_neg z2, if_neg (by decide), if_neg z2]
  obtain ⟨e, rfl, he⟩ := ent_of z2
  rw [nI_clamp (by omega), le_o hA, isHold_spec hA I J L hC hL e he, bd_some]
  unfold aRel
  by_cases z3 : ¬ (e < L.ne ∧ thB (L.es e) = true)
  · rw [if_neg z3, if_pos rfl, if_pos z3]
    exact same _
  have z4 : e < L.ne ∧ thB (L.es e) = true := Decidable.not_not.mp z3
  rw [if_pos z4, if_neg (by decide), if_neg z3, le_g hA, hC.1.2.1]
  by_cases z7 : 200 ≤ L.ne
  · rw [if_neg (show ¬ nI L.ne < (200 : Int32) from nI_nlt (b := 200) z7 (by omega)), if_pos z7]
    exact same _
  rw [if_pos (show nI L.ne < (200 : Int32) from nI_lt (b := 200) (by omega) (by decide)), if_neg z7]
  obtain ⟨I1, a1, a2, a3⟩ := beginD (SL := SL) hA.dr J (4 : Int32) I
  rw [show lB (Int32.toInt64 4) 1 = [4] from lB1 4 (by decide)] at a3
  obtain ⟨I2, c1, c2, c3⟩ := addD2 (SL := SL) hA.dr J (nI e).toInt64 _ I1 (by decide) a3
  rw [lB2 e (by omega)] at c3
  have hfr : DF (b + 12) I I2 := a2.trans c2
  have hC2 := CRep.congr (fun c h1 h2 => hfr c (by omega) (by omega)) (fun _ _ _ _ => rfl) hC
  obtain ⟨I3, J3, d1, d2, d3, d4⟩ := ends_spec (SL := SL) hA I2 J L hC2 hL e z4.1 z4.2 (nI L.ne)
  have c4 : DrOk I3 (b + 12) (lRel e) := ⟨by rw [d3 _ (by omega) (by omega)]; exact c3.1, by rw [d3 _ (by omega) (by omega)]; exact c3.2⟩
  obtain ⟨I5, J5, k1, k2, k3, k4⟩ := append_spec (SL := SL) hA I3 J3 _ d2 (show L.ne < 200 by omega) (LInv.st_le hL _ (Nat.le_refl _)) _ c4 (by show 3 ≤ 82; decide) 0 4 0 0 noL
  refine ⟨I5, J5, ?_, k2, fun c hc => by rw [k3 c (by omega) (by omega) (by omega) (by omega) (by omega), d3 c (by omega) (by omega), hfr c (by omega) (by omega)], fun c hc => by rw [k4 c (by omega), d4 c (by omega)]⟩
  rw [le_f13 hA, dr_o hA.dr, a1, bd_some, le_f13 hA, dr_o hA.dr, c1, bd_some, le_g hA, hC2.1.2.1, le_o hA, d1, bd_some, le_o hA, k1, bd_some]
  rfl
theorem postD_loop (hA : LedAt N S R b) (hG : LgAt N S R g) (hgb : g + 16 < b ∨ b + 16 < g) (J : Nat → Nat → Int64) (key : Int64) (n : Nat) (lg : Nat → Nat × Int64) (h256 : ∀ k, k < n → (lg k).1 < 256) : ∀ (q k fuel : Nat) (I : Nat → Nat → Int32) (l : List Nat), k + q = n → q < fuel → LegsOk I J g n lg → DrOk I (b + 12) l → l.length + 9 * q ≤ 82 →
    ∃ (y : Nat) (I' : Nat → Nat → Int32), fX3_addPost_40 fuel b key g (nI k) (N, SL, S, R, I, J) = fX3_addPost_40 (y + 1) b key g (nI n) (N, SL, S, R, I', J) ∧ DF (b + 12) I I' ∧ DrOk I' (b + 12) (l ++ lgB lg q k)
  | 0, k, fuel, I, l, hk, hf, hl, hd, hll => by
    obtain ⟨y, rfl⟩ : ∃ y, fuel = y + 1 := ⟨fuel - 1, by omega⟩
    have : k = n := by omega
    subst this
    exact ⟨y, I, rfl, fun _ _ _ => rfl, by rw [lgB, List.append_nil]; exact hd⟩
  | q + 1, k, fuel, I, l, hk, hf, hl, hd, hll => by
    obtain ⟨y, rfl⟩ : ∃ y, fuel = y + 1 := ⟨fuel - 1, by omega⟩
    have h8 := hl.2.1
    have hlk := hl.2.2 k (by omega)
    obtain ⟨I1, a1, a2, a3⟩ := addD1 (SL := SL) hA.dr J (nI (lg k).1).toInt64 l I (by omega) hd
    rw [lB1 _ (h256 k (by omega))] at a3
    obtain ⟨I2, c1, c2, c3⟩ := addD8 (SL := SL) hA.dr J (lg k).2 _ I1 (by rw [List.length_append]; show l.length + 1 + 8 ≤ 82; omega) a3
    have hfr : DF (b + 12) I I2 := a2.trans c2
    obtain ⟨y', I', g1, g2, g3⟩ := postD_loop hA hG hgb J key n lg h256 q (k + 1) y I2 _ (by omega) (by omega) ⟨by rw [hfr g (by omega) (by omega)]; exact hl.1, h8, fun j hj => by rw [hfr (g + 1) (by omega) (by omega)]; exact hl.2.2 j hj⟩ c3 (by rw [List.length_append, List.length_append, lB_len]; show l.length + 1 + 8 + 9 * q ≤ 82; omega)
    refine ⟨y', I', ?_, hfr.trans g2, by rw [lgB, ← List.append_assoc, ← List.append_assoc]; exact g3⟩
    have e1 : I1 (g + 1) k = I (g + 1) k := by rw [a2 (g + 1) (by omega) (by omega)]
    rw [fX3_addPost_40, lg_g hG, hl.1, if_neg (nI_lt_of (by omega) (by omega)), le_f13 hA, lg_f0 hG, lg_r1 hG (by omega), hlk.1, dr_o hA.dr, a1, bd_some, le_f13 hA, lg_f1 hG, lg_r2 hG (by omega), hlk.2, dr_o hA.dr, c1, bd_some, nI_1]
    exact g1
set_option maxHeartbeats 4000000 in
theorem post_C (hA : LedAt N S R b) (hG : LgAt N S R g) (hgb : g + 16 < b ∨ b + 16 < g) (I : Nat → Nat → Int32) (J : Nat → Nat → Int64) (L : Lg) (hC : CRep b I J L) (hL : LInv L) (key : Int64) (n : Nat) (lg : Nat → Nat × Int64) (hl : LegsOk I J g n lg) (h256 : ∀ k, k < n → (lg k).1 < 256) : CTo N SL S R b I J (fX3_addPost b key g (N, SL, S, R, I, J)) (if n = 0 ∨ key = 0 then (-1, L) else aPost L key n lg) := by
  have hb0 := hA.1.1.2.1
  have h1 := hL.1
  have h8 := hl.2.1
  unfold fX3_addPost fX3_addPost_13
  have same : ∀ (I' : Nat → Nat → Int32) (J' : Nat → Nat → Int64) (z : Int32), DF (b + 12) I I' → (∀ c, c ≠ b + 4 → J' c = J c) → CTo N SL S R b I J (some (z, (N, SL, S, R, I', J'))) (z, L) := fun I' J' z h h' => ⟨I', J', rfl, CRep.congr (fun c h1 h2 => h c (by omega) (by omega)) (fun c _ _ hc => h' c hc) hC, fun c hc => h c (by omega) (by omega), fun c hc => h' c (by omega)⟩
  rw [lg_g hG, hl.1]
  by_cases z0 : n = 0
  · rw [if_pos (show nI n = 0 by rw [z0]; rfl), if_pos (Or.inl z0)]
    exact same I J _ (fun _ _ _ => rfl) (fun _ _ => rfl)
  rw [if_neg (nI_ne0 (by omega) (by omega))]
  by_cases z1 : key = 0
  · rw [if_pos z1, if_pos (Or.inr z1)]
    exact same I J _ (fun _ _ _ => rfl) (fun _ _ => rfl)
  rw [if_neg z1, if_neg (fun q => q.elim z0 z1)]
  obtain ⟨I1, a1, a2, a3⟩ := beginKD (SL := SL) hA.dr J (2 : Int32) key I
  rw [show lB (Int32.toInt64 2) 1 = [2] from lB1 2 (by decide)] at a3
  obtain ⟨I2, c1, c2, c3⟩ := addD1 (SL := SL) hA.dr J (nI n).toInt64 _ I1 (by simp [lB_len]) a3
  rw [lB1 n (by omega)] at c3
  have hfr2 : DF (b + 12) I I2 := a2.trans c2
  have legs : ∀ I', DF (b + 12) I I' → LegsOk I' J g n lg := fun I' h => ⟨by rw [h g (by omega) (by omega)]; exact hl.1, h8, fun j hj => by rw [h (g + 1) (by omega) (by omega)]; exact hl.2.2 j hj⟩
  obtain ⟨y, I3, d1, d2, d3⟩ := postD_loop (SL := SL) hA hG hgb J key n lg h256 n 0 FU I2 _ (by omega) (by unfold FU; omega) (legs I2 hfr2) c3 (by simp [lB_len]; omega)
  have hfr : DF (b + 12) I I3 := hfr2.trans d2
  have hC3 := CRep.congr (fun c h1 h2 => hfr c (by omega) (by omega)) (fun _ _ _ _ => rfl) hC
  have d3 : DrOk I3 (b + 12) (lPost key n lg) := d3
  have hby : ByL (lPost key n lg) := (((ByL.one (by decide)).app (lB_by _ _)).app (ByL.one (by omega))).app (lgB_by lg n 0 (fun j _ hj => h256 j (by omega)))
  have hlen : (lPost key n lg).length = 10 + 9 * n := by unfold lPost; simp [lB_len, lgB_len]; omega
  have hl3 := legs I3 hfr
  have f1 : I1 g 2 = nI n := by rw [a2 g (by omega) (by omega)]; exact hl.1
  rw [le_f13 hA, dr_o hA.dr, a1, bd_some, le_f13 hA, lg_g hG, f1, dr_o hA.dr, c1, bd_some]
  rw [show (0 : Int32) = nI 0 from rfl, d1, fX3_addPost_40, lg_g hG, hl3.1, if_pos ((nI_leI (by omega) (by omega)).mpr (by omega)), le_o hA, ansB_spec hA I3 J L hC3 hL _ d3 hby.get (by omega) key, bd_some]
  unfold aPost
  by_cases z4 : ¬ ansB L key (lPost key n lg) = -1
  · rw [if_neg z4, if_pos z4]
    exact same I3 J _ hfr (fun _ _ => rfl)
  have z4 : ansB L key (lPost key n lg) = -1 := Decidable.not_not.mp z4
  rw [if_pos z4, if_neg (fun q => q z4), le_o hA, areThere_spec hA hG I3 J L hC3 h1.1 n lg hl3 h256, bd_some]
  by_cases z5 : ¬ (∀ j, j < n → (lg j).1 < L.na)
  · rw [if_neg z5, if_pos rfl, if_pos z5]
    exact same I3 J _ hfr (fun _ _ => rfl)
  have hac : ∀ j, j < n → (lg j).1 < L.na := Decidable.not_not.mp z5
  rw [if_pos hac, if_neg (show ¬ (1 : Int32) = 0 by decide), if_neg z5, lg_o hG, come_spec hG I3 J n lg hl3, bd_some]
  by_cases z6 : ¬ evenL n lg
  · rw [if_neg z6, if_pos rfl, if_pos z6]
    exact same I3 J _ hfr (fun _ _ => rfl)
  have hev : evenL n lg := Decidable.not_not.mp z6
  rw [if_pos hev, if_neg (show ¬ (1 : Int32) = 0 by decide), if_neg z6]
  obtain ⟨J4, w1, w2, w3⟩ := weigh_spec (SL := SL) hA hG (by omega) I3 J L hC3 h1.1 h1.2.1 n lg hl3 hac (-1) 0 L.he (fun a ha q => absurd q (by
    have := nI_ge0 (q := a) (by omega)
    intro w
    rw [w] at this
    exact this (by decide))) (fun a ha _ => rfl) (fun a ha => he_lt hL ha)
  rw [le_o hA, w1, bd_some]
  by_cases z7 : ¬ wgh L L.he n lg = 0
  · rw [if_neg z7, if_pos z7]
    exact same I3 J4 _ hfr w2
  have z7 : wgh L L.he n lg = 0 := Decidable.not_not.mp z7
  rw [if_pos z7, if_neg (fun q => q z7)]
  obtain ⟨bb, v1, v2, v3, v4⟩ := wgh_0 z7
  have hC4 := CRep.congr (J' := J4) (fun _ _ _ => rfl) (fun c _ _ hc => w2 c hc) hC3
  obtain ⟨I5, J5, k1, k2, k3, k4⟩ := move_spec (SL := SL) hA hG (by omega) I3 J4 L hC4 h1.1 v4 (LInv.st_le hL _ (Nat.le_refl _)) h1.2.2.1 h1.2.2.2 (fun i hi => (hL.2.2.1 i hi).1.2.2.2) n lg ⟨hl3.1, h8, fun j hj => by rw [w2 (g + 2) (by omega)]; exact hl3.2.2 j hj⟩ bb (w3 bb v1) _ d3 (by omega) key 2 0 0
  rw [v2]
  refine ⟨I5, J5, ?_, k2, fun c hc => by rw [k3 c (by omega), hfr c (by omega) (by omega)], fun c hc => by rw [k4 c (by omega), w2 c (by omega)]⟩
  rw [le_o hA, k1, bd_some]
  rfl
end Ops2C
