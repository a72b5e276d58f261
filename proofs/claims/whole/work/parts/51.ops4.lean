-- P3, class: reverse
section Ops4C
variable {N SL : Nat} {S : Nat → Shp} {R : Nat → Nat → Option Nat} {b g : Nat}
theorem CRep.rev {I : Nat → Nat → Int32} {J : Nat → Nat → Int64} {L : Lg} (h : CRep b I J L) (i : Nat) (x : Int32) : CRep b (u2 I (b + 8) i x) J (L.revd i x) := by
  obtain ⟨hN, hB, hS, hE, hY⟩ := h
  refine ⟨?_, hB, ?_, fun j hj => ?_, ?_⟩
  · rw [u2_ne (by omega)]; exact hN
  · rw [u2_ne (by omega)]; exact hS
  · have hj' := hE j hj
    rw [u2_at, u2_ne (show b + 9 ≠ b + 8 by omega), u2_ne (show b + 10 ≠ b + 8 by omega)]
    show J (b + 7) j = (up L.es i _ j).ky ∧ up _ _ _ j = (up L.es i _ j).en ∧ I (b + 9) j = nI (up L.es i _ j).nl ∧ ∀ k, k < (up L.es i _ j).nl → I (b + 10) (8 * j + k) = nI ((up L.es i _ j).lg k).1 ∧ J (b + 11) (8 * j + k) = ((up L.es i _ j).lg k).2
    by_cases w : j = i
    · subst w
      simp only [up_eq]
      exact ⟨hj'.1, rfl, hj'.2.2⟩
    · simp only [up_ne w]
      exact hj'
  · rw [u2_ne (by omega)]; exact hY
theorem revL_loop (hA : LedAt N S R b) (L : Lg) (hL : LInv L) (key : Int64) (e : Nat) (he : e < L.ne) : ∀ (q k fuel : Nat) (I : Nat → Nat → Int32) (J : Nat → Nat → Int64), k + q = (L.es e).nl → q < fuel → CRep b I J L → LegsOk I J (b + 14) k (rLg (L.es e).lg) →
    ∃ (y : Nat) (I' : Nat → Nat → Int32) (J' : Nat → Nat → Int64), fX3_addReversal_95 fuel b key (nI e) (nI k) (N, SL, S, R, I, J) = fX3_addReversal_95 (y + 1) b key (nI e) (nI (L.es e).nl) (N, SL, S, R, I', J') ∧ LegsOk I' J' (b + 14) (L.es e).nl (rLg (L.es e).lg) ∧ (∀ c, c ≠ b + 14 → c ≠ b + 15 → I' c = I c) ∧ ∀ c, c ≠ b + 16 → J' c = J c
  | 0, k, fuel, I, J, hk, hf, hC, hl => by
    obtain ⟨y, rfl⟩ : ∃ y, fuel = y + 1 := ⟨fuel - 1, by omega⟩
    have : k = (L.es e).nl := by omega
    subst this
    exact ⟨y, I, J, rfl, hl, fun _ _ _ => rfl, fun _ _ => rfl⟩
  | q + 1, k, fuel, I, J, hk, hf, hC, hl => by
    obtain ⟨y, rfl⟩ : ∃ y, fuel = y + 1 := ⟨fuel - 1, by omega⟩
    have h1 := hL.1
    have hE := hL.2.2.1 e he
    have h8 := hE.1.2.2.2
    have hEk := hE.2.1 k (by omega)
    have hM := (hC.2.2.2.1 e he).2.2
    have hMk := hM.2 k (by omega)
    have nn := neg_ne hEk.2.1 hEk.2.2
    obtain ⟨I1, J1, p1, p2, p3, p4⟩ := legAdd (SL := SL) hA.lg I J k (rLg (L.es e).lg) (rLg (L.es e).lg) hl (by omega) ((L.es e).lg k).1 (by omega) (0 - ((L.es e).lg k).2) nn.1 nn.2 (fun _ _ => rfl) rfl
    obtain ⟨y', I', J', g1, g2, g3, g4⟩ := revL_loop hA L hL key e he q (k + 1) y I1 J1 (by omega) (by omega) (CRep.congr (fun c h1 h2 => p3 c (by omega) (by omega)) (fun c _ _ _ => p4 c (by omega)) hC) p2
    refine ⟨y', I', J', ?_, g2, fun c x1 x2 => by rw [g3 c x1 x2, p3 c x1 x2], fun c x1 => by rw [g4 c x1, p4 c x1]⟩
    rw [fX3_addReversal_95, le_f9 hA, le_r9 hA (by omega), hM.1, if_neg (nI_lt_of (by omega) (by omega)), le_f14 hA, le_f10 hA, show (8 : Int32) = nI 8 from rfl, pk_mul, nI_add, Nat.mul_comm e 8, le_r10 hA (by omega), hMk.1, le_f11 hA, le_r11 hA (by omega), hMk.2, lg_o hA.lg, p1, bd_some, nI_1]
    exact g1
set_option maxHeartbeats 8000000 in
theorem rev_C (hA : LedAt N S R b) (I : Nat → Nat → Int32) (J : Nat → Nat → Int64) (L : Lg) (hC : CRep b I J L) (hL : LInv L) (key : Int64) (x : Int32) : CTo N SL S R b I J (fX3_addReversal b key x (N, SL, S, R, I, J)) (if key = 0 ∨ (x < 0 ∨ 200 ≤ x) then (-1, L) else aRev L key x.toNatClampNeg) := by
  have hb0 := hA.1.1.2.1
  have h1 := hL.1
  unfold fX3_addReversal fX3_addReversal_13 fX3_addReversal_68
  have same : ∀ (I' : Nat → Nat → Int32) (J' : Nat → Nat → Int64) (z : Int32), (∀ c, (c < b ∨ b + 16 < c) ∨ b ≤ c ∧ c ≤ b + 11 → I' c = I c) → (∀ c, (c < b ∨ b + 16 < c) ∨ b ≤ c ∧ c ≤ b + 11 ∧ c ≠ b + 4 → J' c = J c) → CTo N SL S R b I J (some (z, (N, SL, S, R, I', J'))) (z, L) := fun I' J' z h h' => ⟨I', J', rfl, CRep.congr (fun c h1 h2 => h c (Or.inr ⟨h1, h2⟩)) (fun c h1 h2 hc => h' c (Or.inr ⟨h1, h2, hc⟩)) hC, fun c hc => h c (Or.inl hc), fun c hc => h' c (Or.inl hc)⟩
  by_cases z1 : key = 0
  · rw [if_pos z1, if_pos (Or.inl z1)]
    exact same I J _ (fun _ _ => rfl) (fun _ _ => rfl)
  rw [if_neg z1, canBe_mk, bd_some]
  by_cases z2 : x < 0 ∨ 200 ≤ x
  · rw [if_pos z2, if_pos rfl, if_pos (Or.inr z2)]
    exact same I J _ (fun _ _ => rfl) (fun _ _ => rfl)
  rw [if_neg z2, if_neg (by decide), if_neg (fun q => q.elim z1 z2)]
  obtain ⟨e, rfl, he⟩ := ent_of z2
  rw [nI_clamp (by omega)]
  unfold aRev
  obtain ⟨I1, a1, a2, a3⟩ := beginKD (SL := SL) hA.dr J (6 : Int32) key I
  rw [show lB (Int32.toInt64 6) 1 = [6] from lB1 6 (by decide)] at a3
  obtain ⟨I4, c1, c2, c3⟩ := addD2 (SL := SL) hA.dr J (nI e).toInt64 _ I1 (by simp [lB_len]) a3
  rw [lB2 e (by omega)] at c3
  have hfr : DF (b + 12) I I4 := a2.trans c2
  have hC4 := CRep.congr (fun c h1 h2 => hfr c (by omega) (by omega)) (fun _ _ _ _ => rfl) hC
  have c3 : DrOk I4 (b + 12) (lRev key e) := c3
  have hby : ByL (lRev key e) := ((ByL.one (by decide)).app (lB_by _ _)).app (ByL.two (by decide) (by omega))
  have hlen : (lRev key e).length = 11 := by unfold lRev; simp [lB_len]
  rw [le_f13 hA, dr_o hA.dr, a1, bd_some, le_f13 hA, dr_o hA.dr, c1, bd_some, le_o hA, ansB_spec hA I4 J L hC4 hL _ c3 hby.get (by omega) key, bd_some]
  have fr4 : ∀ c, (c < b ∨ b + 16 < c) ∨ b ≤ c ∧ c ≤ b + 11 → I4 c = I c := fun c hc => hfr c (by omega) (by omega)
  by_cases z5 : ¬ ansB L key (lRev key e) = -1
  · rw [if_neg z5, if_pos z5]
    exact same I4 J _ fr4 (fun _ _ => rfl)
  have z5 : ansB L key (lRev key e) = -1 := Decidable.not_not.mp z5
  rw [if_pos z5, if_neg (fun q => q z5), le_g hA, hC4.1.2.1]
  by_cases z6 : L.ne ≤ e
  · rw [if_pos ((nI_leI (by omega) (by omega)).mpr z6), if_pos (fun q => absurd q.1 (by omega))]
    exact same I4 J _ fr4 (fun _ _ => rfl)
  have hM := hC4.2.2.2.1 e (by omega)
  have h8 := (hL.2.2.1 e (by omega)).1.2.2.2
  rw [if_neg (nI_lt_of (by omega) (by omega)), le_f9 hA, le_r9 hA (by omega), hM.2.2.1]
  by_cases z7 : (L.es e).nl = 0
  · rw [if_pos (show nI (L.es e).nl = 0 by rw [z7]; rfl), if_pos (fun q => q.2 z7)]
    exact same I4 J _ fr4 (fun _ _ => rfl)
  rw [if_neg (nI_ne0 (by omega) (by omega)), if_neg (fun q => q ⟨by omega, z7⟩), le_f8 hA, le_r8 hA (by omega), hM.2.1]
  by_cases z8 : ¬ (L.es e).en = -1
  · rw [if_neg z8, if_pos z8]
    exact same I4 J _ fr4 (fun _ _ => rfl)
  have z8 : (L.es e).en = -1 := Decidable.not_not.mp z8
  rw [if_pos z8, if_neg (fun q => q z8), le_f14 hA, lg_p hA.lg]
  obtain ⟨y, I6, J6, p1, p2, p3, p4⟩ := revL_loop (SL := SL) hA L hL key e (by omega) (L.es e).nl 0 FU (u2 I4 (b + 14) 2 (nI 0)) J (by omega) (by unfold FU; omega) (CRep.congr (fun c h1 h2 => u2_ne (by omega)) (fun _ _ _ _ => rfl) hC4) ⟨by rw [u2_at, up_eq], by omega, fun k hk => absurd hk (by omega)⟩
  have fr6 : ∀ c, c ≠ b + 12 → c ≠ b + 13 → c ≠ b + 14 → c ≠ b + 15 → I6 c = I c := fun c x1 x2 x3 x4 => by rw [p3 c (by omega) (by omega), u2_ne (by omega), hfr c (by omega) (by omega)]
  have hC6 := CRep.congr (I' := I6) (J' := J6) (fun c h1 h2 => fr6 c (by omega) (by omega) (by omega) (by omega)) (fun c _ _ _ => p4 c (by omega)) hC
  have hM6 := hC6.2.2.2.1 e (by omega)
  rw [show (0 : Int32) = nI 0 from rfl, p1, fX3_addReversal_95, le_f9 hA, le_r9 hA (by omega), hM6.2.2.1, if_pos ((nI_leI (by omega) (by omega)).mpr (Nat.le_refl _)), le_f14 hA]
  obtain ⟨J7, w1, w2, w3⟩ := weigh_spec (SL := SL) hA hA.lg (by omega) I6 J6 L hC6 h1.1 h1.2.1 (L.es e).nl (rLg (L.es e).lg) p2 (fun k hk => ((hL.2.2.1 e (by omega)).2.1 k hk).1) (-1) 0 L.he (fun a ha q => absurd q (by
    have := nI_ge0 (q := a) (by omega)
    intro w
    rw [w] at this
    exact this (by decide))) (fun a ha _ => rfl) (fun a ha => he_lt hL ha)
  rw [le_o hA, w1, bd_some]
  have fj7 : ∀ c, c ≠ b + 4 → c ≠ b + 16 → J7 c = J c := fun c x1 x2 => by rw [w2 c x1, p4 c x2]
  by_cases z9 : ¬ wgh L L.he (L.es e).nl (rLg (L.es e).lg) = 0
  · rw [if_neg z9, if_pos (show _ ≠ nI 0 from z9)]
    exact same I6 J7 _ (fun c hc => fr6 c (by omega) (by omega) (by omega) (by omega)) (fun c hc => fj7 c (by omega) (by omega))
  have z9 := Decidable.not_not.mp z9
  rw [if_pos z9, if_neg (fun q => q z9)]
  obtain ⟨bb, v1, v2, v3, v4⟩ := wgh_0 z9
  rw [v2]
  have hC7 := CRep.congr (J' := J7) (fun _ _ _ => rfl) (fun c _ _ hc => w2 c hc) hC6
  have hC8 := CRep.rev hC7 e (nI L.ne)
  have e8 : DrOk (u2 I6 (b + 8) e (nI L.ne)) (b + 12) (lRev key e) := by
    have x1 : I6 (b + 12) = I4 (b + 12) := by rw [p3 _ (by omega) (by omega), u2_ne (by omega)]
    have x2 : I6 (b + 12 + 1) = I4 (b + 12 + 1) := by rw [p3 _ (by omega) (by omega), u2_ne (by omega)]
    exact ⟨by rw [u2_ne (by omega), x1]; exact c3.1, by rw [u2_ne (by omega), x2]; exact c3.2⟩
  have l8 : LegsOk (u2 I6 (b + 8) e (nI L.ne)) J7 (b + 14) (L.es e).nl (rLg (L.es e).lg) := ⟨by rw [u2_ne (by omega)]; exact p2.1, h8, fun k hk => by rw [u2_ne (by omega), w2 _ (by omega)]; exact p2.2.2 k hk⟩
  obtain ⟨I9, J9, k1, k2, k3, k4⟩ := move_spec (SL := SL) hA hA.lg (by omega) _ J7 (L.revd e (nI L.ne)) hC8 h1.1 v4 (LInv.st_le hL _ (Nat.le_refl _)) h1.2.2.1 h1.2.2.2 (fun i hi => by
    show (up L.es e _ i).nl ≤ 8
    by_cases w : i = e
    · rw [w, up_eq]; exact h8
    · rw [up_ne w]; exact (hL.2.2.1 i hi).1.2.2.2) (L.es e).nl _ l8 bb (fun c hc => w3 bb v1 c hc) _ e8 (by omega) key 6 0 0
  refine ⟨I9, J9, ?_, k2, fun c hc => by rw [k3 c (by omega), u2_ne (by omega), fr6 c (by omega) (by omega) (by omega) (by omega)], fun c hc => by rw [k4 c (by omega), fj7 c (by omega) (by omega)]⟩
  rw [le_f8 hA, le_g hA, hC7.1.2.1, le_w8 hA (by omega), le_f14 hA, le_o hA, k1, bd_some]
  rfl
/-- startAnew() -/
def emptyL : Lg := ((0, 0, 0, 0, 0), (fun _ => 0), (fun _ => 0), (fun _ => 0), (fun _ => (0, 0, 0, noL, 0, 0, 0)), (fun _ => 0), (fun _ => 0))
theorem startEvery_C (hA : LedAt N S R b) (I : Nat → Nat → Int32) (J : Nat → Nat → Int64) (L : Lg) (hC : CRep b I J L) (n : Nat) : fX3_startEvery b (nI n) (N, SL, S, R, I, J) = some ((), (N, SL, S, R, u2 (u2 I b 16 (nI n)) b 17 (nI 0), J)) ∧ CRep b (u2 (u2 I b 16 (nI n)) b 17 (nI 0)) J (L.wev n) := by
  refine ⟨?_, CRep.every hC n⟩
  unfold fX3_startEvery
  rw [le_p hA, le_p hA]
  rfl
theorem startAnew_C (hA : LedAt N S R b) (I : Nat → Nat → Int32) (J : Nat → Nat → Int64) (L : Lg) (hC : CRep b I J L) (h0 : L.st 0 = 0) : ∃ I' : Nat → Nat → Int32, fX3_startAnew b (N, SL, S, R, I, J) = some ((), (N, SL, S, R, I', J)) ∧ CRep b I' J emptyL ∧ ∀ c, c ≠ b → I' c = I c := by
  have h6 := hC.2.2.1 0 (Nat.zero_le _)
  rw [h0] at h6
  refine ⟨u2 (u2 (u2 (u2 (u2 I b 4 0) b 12 0) b 15 0) b 16 0) b 17 0, ?_, ⟨⟨?_, ?_, ?_, ?_, ?_⟩, fun a ha => absurd ha (Nat.not_lt_zero _), fun i hi => ?_, fun i hi => absurd hi (Nat.not_lt_zero _), fun k hk => absurd hk (Nat.not_lt_zero _)⟩, fun c hc => by rw [u2_ne hc, u2_ne hc, u2_ne hc, u2_ne hc, u2_ne hc]⟩
  · unfold fX3_startAnew fX3_startEvery
    rw [le_p hA, le_p hA, le_p hA, le_o hA, le_p hA, le_p hA, bd_some]
  · rw [u2_at, up_ne (by decide), u2_at, up_ne (by decide), u2_at, up_ne (by decide), u2_at, up_ne (by decide), u2_at, up_eq]; rfl
  · rw [u2_at, up_ne (by decide), u2_at, up_ne (by decide), u2_at, up_ne (by decide), u2_at, up_eq]; rfl
  · rw [u2_at, up_ne (by decide), u2_at, up_eq]; rfl
  · rw [u2_at, up_eq]; rfl
  · rw [u2_at, up_ne (by decide), u2_at, up_ne (by decide), u2_at, up_eq]; rfl
  · have : i = 0 := Nat.le_zero.mp hi
    rw [this, u2_ne (by omega), u2_ne (by omega), u2_ne (by omega), u2_ne (by omega), u2_ne (by omega)]
    exact h6
end Ops4C
