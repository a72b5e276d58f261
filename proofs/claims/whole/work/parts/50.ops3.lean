-- P3, class: capture, reverse
section Ops3C
variable {N SL : Nat} {S : Nat → Shp} {R : Nat → Nat → Option Nat} {b g : Nat}
/-- Legs.add where it adds -/
theorem legAdd (hG : LgAt N S R g) (I : Nat → Nat → Int32) (J : Nat → Nat → Int64) (n : Nat) (lg lg' : Nat → Nat × Int64) (hl : LegsOk I J g n lg) (hn : n < 8) (a : Nat) (ha : a < 256) (v : Int64) (hv : v ≠ 0) (hv' : v ≠ -9223372036854775808) (e1 : ∀ k, k < n → lg' k = lg k) (e2 : lg' n = (a, v)) :
    ∃ (I' : Nat → Nat → Int32) (J' : Nat → Nat → Int64), fX4_add g (nI a) v (N, SL, S, R, I, J) = some (1, (N, SL, S, R, I', J')) ∧ LegsOk I' J' g (n + 1) lg' ∧ (∀ c, c ≠ g → c ≠ g + 1 → I' c = I c) ∧ ∀ c, c ≠ g + 2 → J' c = J c := by
  refine ⟨u2 (u2 I (g + 1) n (nI a)) g 2 (nI (n + 1)), u2 J (g + 2) n v, ?_, ⟨by rw [u2_at, up_eq], hn, fun k hk => ?_⟩, fun c a1 a2 => by rw [u2_ne a1, u2_ne a2], fun c a1 => u2_ne a1⟩
  · unfold fX4_add
    rw [lg_g hG, hl.1, if_neg (show ¬ (8 : Int32) ≤ nI n from nI_lt_of (k := 8) (by decide) hn), isByte_mk, bd_some, if_neg (show ¬ (nI a < 0 ∨ (255 : Int32) < nI a) from fun q => q.elim (nI_ge0 (by omega)) (nI_nlt (a := 255) (by omega) (by decide))), if_neg (by decide), if_neg hv, if_neg hv', lg_f0 hG, lg_g hG, hl.1, lg_w1 hG hn, lg_f1 hG, lg_g hG, u2_ne (by omega), hl.1, lg_w2 hG hn, lg_g hG, lg_p hG, u2_ne (by omega), hl.1, nI_1, retZ_1]
  · rw [u2_ne (by omega), u2_at, u2_at]
    by_cases z : k = n
    · rw [z, up_eq, up_eq, e2]; exact ⟨rfl, rfl⟩
    · rw [up_ne z, up_ne z, e1 k (by omega)]; exact hl.2.2 k (by omega)
theorem of_le {a c : Nat} (ha : a < 9223372036854775808) (hc : c < 9223372036854775808) : Int64.ofNat a ≤ Int64.ofNat c ↔ a ≤ c := by
  rw [Int64.le_iff_toInt_le, Int64.toInt_ofNat_of_lt (by exact ha), Int64.toInt_ofNat_of_lt (by exact hc)]
  omega
theorem of_ne {v : Nat} (h0 : 0 < v) (h1 : v < 9223372036854775808) : Int64.ofNat v ≠ 0 ∧ Int64.ofNat v ≠ -9223372036854775808 ∧ 0 - Int64.ofNat v ≠ 0 ∧ 0 - Int64.ofNat v ≠ -9223372036854775808 := by
  have e : (Int64.ofNat v).toInt = v := Int64.toInt_ofNat_of_lt (by exact h1)
  have e' : (0 - Int64.ofNat v).toInt = -(v : Int) := by
    rw [tI_sub (by rw [e]; show -9223372036854775808 ≤ 0 - (v : Int); omega) (by rw [e]; show 0 - (v : Int) < _; omega), e]
    show 0 - (v : Int) = _
    omega
  refine ⟨fun q => ?_, fun q => ?_, fun q => ?_, fun q => ?_⟩
  · rw [q] at e; have : (0 : Int) = v := e; omega
  · rw [q] at e; have : (-9223372036854775808 : Int) = v := e; omega
  · rw [q] at e'; have : (0 : Int) = -(v : Int) := e'; omega
  · rw [q] at e'; have : (-9223372036854775808 : Int) = -(v : Int) := e'; omega
theorem neg_ne {v : Int64} (h0 : v ≠ 0) (h1 : v ≠ -9223372036854775808) : 0 - v ≠ 0 ∧ 0 - v ≠ -9223372036854775808 := by
  have a1 := tI_lo v
  have a2 := tI_hi v
  have a3 : v.toInt ≠ 0 := fun q => h0 (Int64.toInt_inj.mp q)
  have a4 : v.toInt ≠ -9223372036854775808 := fun q => h1 (Int64.toInt_inj.mp q)
  have e' : (0 - v).toInt = -v.toInt := by
    rw [tI_sub (by show -9223372036854775808 ≤ 0 - v.toInt; omega) (by show 0 - v.toInt < _; omega)]
    show 0 - v.toInt = _
    omega
  refine ⟨fun q => ?_, fun q => ?_⟩
  · rw [q] at e'; have : (0 : Int) = -v.toInt := e'; omega
  · rw [q] at e'; have : (-9223372036854775808 : Int) = -v.toInt := e'; omega
set_option maxHeartbeats 8000000 in
theorem cap_C (hA : LedAt N S R b) (I : Nat → Nat → Int32) (J : Nat → Nat → Int64) (L : Lg) (hC : CRep b I J L) (hL : LInv L) (key : Int64) (x y : Int32) (v : Int64) : CTo N SL S R b I J (fX3_addCapture b key x y v (N, SL, S, R, I, J)) (if key = 0 ∨ (x < 0 ∨ 200 ≤ x) ∨ (y < 0 ∨ 255 < y) ∨ ¬ 0 < v then (-1, L) else aCap L key x.toNatClampNeg y.toNatClampNeg v.toInt.toNat) := by
  have hb0 := hA.1.1.2.1
  have h1 := hL.1
  unfold fX3_addCapture fX3_addCapture_28 fX3_addCapture_115
  have same : ∀ (I' : Nat → Nat → Int32) (J' : Nat → Nat → Int64) (z : Int32), (∀ c, (c < b ∨ b + 16 < c) ∨ b ≤ c ∧ c ≤ b + 11 → I' c = I c) → (∀ c, (c < b ∨ b + 16 < c) ∨ b ≤ c ∧ c ≤ b + 11 ∧ c ≠ b + 4 → J' c = J c) → CTo N SL S R b I J (some (z, (N, SL, S, R, I', J'))) (z, L) := fun I' J' z h h' => ⟨I', J', rfl, CRep.congr (fun c h1 h2 => h c (Or.inr ⟨h1, h2⟩)) (fun c h1 h2 hc => h' c (Or.inr ⟨h1, h2, hc⟩)) hC, fun c hc => h c (Or.inl hc), fun c hc => h' c (Or.inl hc)⟩
  by_cases z1 : key = 0
  · rw [if_pos z1, if_pos (Or.inl z1)]
    exact same I J _ (fun _ _ => rfl) (fun _ _ => rfl)
  rw [if_neg z1, canBe_mk, bd_some]
  by_cases z2 : x < 0 ∨ 200 ≤ x
  · rw [if_pos z2, if_pos rfl, if_pos (Or.inr (Or.inl z2))]
    exact same I J _ (fun _ _ => rfl) (fun _ _ => rfl)
  rw [if_neg z2, if_neg (by decide), isByte_mk, bd_some]
  by_cases z3 : y < 0 ∨ 255 < y
  · rw [if_pos z3, if_pos rfl, if_pos (Or.inr (Or.inr (Or.inl z3)))]
    exact same I J _ (fun _ _ => rfl) (fun _ _ => rfl)
  rw [if_neg z3, if_neg (by decide)]
  by_cases z4 : ¬ 0 < v
  · rw [if_neg z4, if_pos (Or.inr (Or.inr (Or.inr z4)))]
    exact same I J _ (fun _ _ => rfl) (fun _ _ => rfl)
  have z4 : 0 < v := Decidable.not_not.mp z4
  rw [if_pos z4, if_neg (fun q => q.elim z1 (fun q => q.elim z2 (fun q => q.elim z3 (fun q => q z4))))]
  obtain ⟨e, rfl, he⟩ := ent_of z2
  obtain ⟨a, rfl, ha⟩ := byte_of z3
  obtain ⟨V, hV⟩ : ∃ V, V = v.toInt.toNat := ⟨_, rfl⟩
  have hvI := tI_hi v
  have hv0 : 0 < v.toInt := Int64.lt_iff_toInt_lt.mp z4
  have ev : v = Int64.ofNat V := by rw [hV]; exact of_pos z4
  have hV2 : V < 9223372036854775808 := by omega
  have hV0 : 0 < V := by omega
  rw [nI_clamp (by omega), nI_clamp (by omega), ← hV]
  rw [ev]
  unfold aCap
  obtain ⟨I1, a1, a2, a3⟩ := beginKD (SL := SL) hA.dr J (5 : Int32) key I
  rw [show lB (Int32.toInt64 5) 1 = [5] from lB1 5 (by decide)] at a3
  obtain ⟨I2, c1, c2, c3⟩ := addD2 (SL := SL) hA.dr J (nI e).toInt64 _ I1 (by simp [lB_len]) a3
  rw [lB2 e (by omega)] at c3
  obtain ⟨I3, d1, d2, d3⟩ := addD1 (SL := SL) hA.dr J (nI a).toInt64 _ I2 (by simp [lB_len]) c3
  rw [lB1 a ha] at d3
  obtain ⟨I4, e1, e2, e3⟩ := addD8 (SL := SL) hA.dr J (Int64.ofNat V) _ I3 (by simp [lB_len]) d3
  have hfr : DF (b + 12) I I4 := ((a2.trans c2).trans d2).trans e2
  have hC4 := CRep.congr (fun c h1 h2 => hfr c (by omega) (by omega)) (fun _ _ _ _ => rfl) hC
  have e3 : DrOk I4 (b + 12) (lCap key e a (Int64.ofNat V)) := e3
  have hby : ByL (lCap key e a (Int64.ofNat V)) := ((((ByL.one (by decide)).app (lB_by _ _)).app (ByL.two (by decide) (by omega))).app (ByL.one ha)).app (lB_by _ _)
  have hlen : (lCap key e a (Int64.ofNat V)).length = 20 := by unfold lCap; simp [lB_len]
  rw [le_f13 hA, dr_o hA.dr, a1, bd_some, le_f13 hA, dr_o hA.dr, c1, bd_some, le_f13 hA, dr_o hA.dr, d1, bd_some, le_f13 hA, dr_o hA.dr, e1, bd_some, le_o hA, ansB_spec hA I4 J L hC4 hL _ e3 hby.get (by omega) key, bd_some]
  have fr4 : ∀ c, (c < b ∨ b + 16 < c) ∨ b ≤ c ∧ c ≤ b + 11 → I4 c = I c := fun c hc => hfr c (by omega) (by omega)
  by_cases z5 : ¬ ansB L key (lCap key e a (Int64.ofNat V)) = -1
  · rw [if_neg z5, if_pos z5]
    exact same I4 J _ fr4 (fun _ _ => rfl)
  have z5 : ansB L key (lCap key e a (Int64.ofNat V)) = -1 := Decidable.not_not.mp z5
  rw [if_pos z5, if_neg (fun q => q z5), le_o hA, isHold_spec hA I4 J L hC4 hL e he, bd_some]
  by_cases z6 : ¬ (e < L.ne ∧ thB (L.es e) = true)
  · rw [if_neg z6, if_pos rfl, if_pos (fun q => z6 ⟨q.1, q.2.1⟩)]
    exact same I4 J _ fr4 (fun _ _ => rfl)
  have z6 : e < L.ne ∧ thB (L.es e) = true := Decidable.not_not.mp z6
  have hk := thB_kd z6.2
  have hE := (hL.2.2.1 e z6.1).2.2 hk.1
  have hha := hE.2.2.1
  rw [if_pos z6, if_neg (show ¬ (1 : Int32) = 0 by decide), le_g hA, hC4.1.1]
  by_cases z7 : L.na ≤ a
  · rw [if_pos ((nI_leI (by omega) (by omega)).mpr z7), if_pos (fun q => absurd q.2.2.1 (by omega))]
    exact same I4 J _ fr4 (fun _ _ => rfl)
  rw [if_neg (nI_lt_of (by omega) (by omega)), le_o hA, amtHeld_spec hA I4 J L hC4 hL e z6.1 hk.1, bd_some]
  by_cases z8 : ¬ V ≤ (L.es e).hm
  · rw [if_neg (fun q => z8 ((of_le hV2 hE.2.2.2.2.1).mp q)), if_pos (fun q => z8 q.2.2.2)]
    exact same I4 J _ fr4 (fun _ _ => rfl)
  have z8 : V ≤ (L.es e).hm := Decidable.not_not.mp z8
  rw [if_pos ((of_le hV2 hE.2.2.2.2.1).mpr z8), if_neg (fun q => q ⟨z6.1, z6.2, by omega, z8⟩)]
  have vn := of_ne hV0 hV2
  have hG := hA.lg
  obtain ⟨I5, J5, p1, p2, p3, p4⟩ := legAdd (SL := SL) hG (u2 I4 (b + 14) 2 (nI 0)) J 0 noL (cLg (L.es e).ha a (Int64.ofNat V)) ⟨by rw [u2_at, up_eq], by omega, fun k hk => absurd hk (by omega)⟩ (by omega) (L.es e).ha (by omega) (0 - Int64.ofNat V) vn.2.2.1 vn.2.2.2 (fun k hk => absurd hk (by omega)) rfl
  obtain ⟨I6, J6, q1, q2, q3, q4⟩ := legAdd (SL := SL) hG I5 J5 1 _ (cLg (L.es e).ha a (Int64.ofNat V)) p2 (by omega) a ha (Int64.ofNat V) vn.1 vn.2.1 (fun k hk => rfl) rfl
  have fr6 : ∀ c, c ≠ b + 12 → c ≠ b + 13 → c ≠ b + 14 → c ≠ b + 15 → I6 c = I c := fun c x1 x2 x3 x4 => by rw [q3 c (by omega) (by omega), p3 c (by omega) (by omega), u2_ne (by omega), hfr c (by omega) (by omega)]
  have fj6 : ∀ c, c ≠ b + 16 → J6 c = J c := fun c x1 => by rw [q4 c (by omega), p4 c (by omega)]
  have hC6 := CRep.congr (I' := I6) (J' := J6) (fun c h1 h2 => fr6 c (by omega) (by omega) (by omega) (by omega)) (fun c _ _ _ => fj6 c (by omega)) hC
  have hC40 : CRep b (u2 I4 (b + 14) 2 (nI 0)) J L := CRep.congr (fun c h1 h2 => u2_ne (by omega)) (fun _ _ _ _ => rfl) hC4
  rw [le_f14 hA, lg_p hG, le_f14 hA, le_o hA, show (0 : Int32) = nI 0 from rfl, accHeld_spec hA _ J L hC40 hL e z6.1 hk.1, bd_some, lg_o hG, p1, bd_some, le_f14 hA, lg_o hG, q1, bd_some, le_f14 hA, le_o hA, accHeld_spec hA I6 J6 L hC6 hL e z6.1 hk.1, bd_some, le_o hA, amtHeld_spec hA I6 J6 L hC6 hL e z6.1 hk.1, bd_some]
  have hge := hs_ge z6.2 L.ne z6.1
  rw [← (hL.2.2.2.1 _ hha).2] at hge
  obtain ⟨J7, w1, w2, w3⟩ := weigh_spec (SL := SL) hA hG (by omega) I6 J6 L hC6 h1.1 h1.2.1 2 (cLg (L.es e).ha a (Int64.ofNat V)) q2 (fun k hk => by
    show (if k = 0 then ((L.es e).ha, 0 - Int64.ofNat V) else (a, Int64.ofNat V)).1 < L.na
    by_cases w : k = 0
    · rw [if_pos w]; exact hha
    · rw [if_neg w]; show a < L.na; omega) (nI (L.es e).ha) (Int64.ofNat (L.es e).hm) (up L.he (L.es e).ha (L.he (L.es e).ha - (L.es e).hm)) (fun c hc q => by
      have := (nI_eq (by omega) (by omega)).mp q
      rw [this, up_eq, Int64.ofNat_sub _ _ hge]) (fun c hc q => up_ne (fun w => q (by rw [w]))) (fun c hc => by
      by_cases w : c = (L.es e).ha
      · rw [w, up_eq]; have := he_lt hL hha; omega
      · rw [up_ne w]; exact he_lt hL hc)
  rw [le_o hA, w1, bd_some]
  have fj7 : ∀ c, c ≠ b + 4 → c ≠ b + 16 → J7 c = J c := fun c x1 x2 => by rw [w2 c x1, fj6 c x2]
  by_cases z9 : ¬ wgh L (up L.he (L.es e).ha (L.he (L.es e).ha - (L.es e).hm)) 2 (cLg (L.es e).ha a (Int64.ofNat V)) = 0
  · rw [if_neg (show ¬ _ = nI 0 from z9), if_pos (show _ ≠ nI 0 from z9)]
    exact same I6 J7 _ (fun c hc => fr6 c (by omega) (by omega) (by omega) (by omega)) (fun c hc => fj7 c (by omega) (by omega))
  have z9 := Decidable.not_not.mp z9
  rw [if_pos (show _ = nI 0 from z9), if_neg (fun q => q z9)]
  obtain ⟨bb, v1, v2, v3, v4⟩ := wgh_0 z9
  rw [v2]
  have hC7 := CRep.congr (J' := J7) (fun _ _ _ => rfl) (fun c _ _ hc => w2 c hc) hC6
  obtain ⟨I8, J8, t1, t2, t3, t4⟩ := ends_spec (SL := SL) hA I6 J7 L hC7 hL e z6.1 z6.2 (nI L.ne)
  have e8 : DrOk I8 (b + 12) (lCap key e a (Int64.ofNat V)) := by
    have x1 : I8 (b + 12) = I4 (b + 12) := by rw [t3 _ (by omega) (by omega), q3 _ (by omega) (by omega), p3 _ (by omega) (by omega), u2_ne (by omega)]
    have x2 : I8 (b + 12 + 1) = I4 (b + 12 + 1) := by rw [t3 _ (by omega) (by omega), q3 _ (by omega) (by omega), p3 _ (by omega) (by omega), u2_ne (by omega)]
    exact ⟨by rw [x1]; exact e3.1, by rw [x2]; exact e3.2⟩
  have l8 : LegsOk I8 J8 (b + 14) 2 (cLg (L.es e).ha a (Int64.ofNat V)) := ⟨by rw [t3 _ (by omega) (by omega)]; exact q2.1, by omega, fun k hk => by rw [t3 _ (by omega) (by omega), t4 _ (by omega), w2 _ (by omega)]; exact q2.2.2 k hk⟩
  obtain ⟨I9, J9, k1, k2, k3, k4⟩ := move_spec (SL := SL) hA hG (by omega) I8 J8 (L.ends e (nI L.ne)) t2 h1.1 v4 (LInv.st_le hL _ (Nat.le_refl _)) h1.2.2.1 h1.2.2.2 (fun i hi => by
    show (up L.es e _ i).nl ≤ 8
    by_cases w : i = e
    · rw [w, up_eq]; exact (hL.2.2.1 e z6.1).1.2.2.2
    · rw [up_ne w]; exact (hL.2.2.1 i hi).1.2.2.2) 2 _ l8 bb (fun c hc => by rw [t4 _ (by omega)]; exact w3 bb v1 c hc) _ e8 (by omega) key 5 0 0
  refine ⟨I9, J9, ?_, k2, fun c hc => by rw [k3 c (by omega), t3 c (by omega) (by omega), fr6 c (by omega) (by omega) (by omega) (by omega)], fun c hc => by rw [k4 c (by omega), t4 c (by omega), fj7 c (by omega) (by omega)]⟩
  rw [le_g hA, hC7.1.2.1, le_o hA, t1, bd_some, le_f14 hA, le_o hA, k1, bd_some]
  rfl
end Ops3C
