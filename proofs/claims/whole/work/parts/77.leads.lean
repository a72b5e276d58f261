-- P6: step (both), leads (class)
/-- older and newer, gone up by q turns from step s on -/
def upP (fl : Nat → Bool) (hs : Nat → Nat → Int32) : Nat → Nat → (Nat → Int32) → (Nat → Int32) → (Nat → Int32) × (Nat → Int32)
  | 0, _, o, w => (o, w)
  | q + 1, s, o, w => if fl q = true then upP fl hs q (s + 1) (ndH (hs s) o) (ndH (hs s) w) else upP fl hs q (s + 1) o (ndH w (hs s))
theorem nd_ext {a a' c c' : Nat → Int32} (h : same8 a a') (h' : same8 c c') : ndH a c = ndH a' c' := by
  unfold ndH
  rw [hbs_ext h, hbs_ext h']
def trU (pf : Bool) (fr ti : Nat) (hs : Nat → Nat → Int32) (b : Nat → Int32) : (Nat → Int32) × (Nat → Int32) := upP (fun q => (tN pf fr ti q).1) hs (tT pf fr ti).length (oN pf fr ti) b b
def hdN (hd : Hd) (x : Int32) : Option (Nat × (Nat → Int32)) := if x < 0 ∨ ¬ x < 8 then none else (hd x.toNatClampNeg).map (fun v => (v.1, v.2.2))
def aStep (tr : Tr) (x y : Int32) : Int32 := match tr with
  | none => -1
  | some (pf, fr, ti, hs) => if (x < 0 ∨ ¬ x < nI (stN pf fr ti)) ∨ (y < 0 ∨ ¬ y < 32) then -1 else hb (hs x.toNatClampNeg) y.toNatClampNeg
def aLeads2 (pf : Bool) (fr ti : Nat) (hs : Nat → Nat → Int32) (t : Nat → Int32) : Option (Nat × (Nat → Int32)) → Int32
  | none => -1
  | some (n', t') => if n' = fr then (if same8 (trU pf fr ti hs (if oN pf fr ti = 0 then t' else hs 0)).1 t' ∧ same8 (trU pf fr ti hs (if oN pf fr ti = 0 then t' else hs 0)).2 t then 1 else 0) else -1
def aLeads1 (L : Lg) (nw : Nat → Nat) (pf : Bool) (fr ti : Nat) (hs : Nat → Nat → Int32) (hj : Option (Nat × (Nat → Int32))) : Option (Nat × (Nat → Int32)) → Int32
  | none => -1
  | some (n, t) => if n = ti then (if pf = true then aLeads2 pf fr ti hs t hj else (if same8 (trU pf fr ti hs (lfA nw L.st fr)).2 t then 1 else 0)) else -1
def aLeads (L : Lg) (nw : Nat → Nat) (hd : Hd) (tr : Tr) (x y : Int32) : Int32 := match tr with
  | none => -1
  | some (pf, fr, ti, hs) => aLeads1 L nw pf fr ti hs (hdN hd x) (hdN hd y)
section Leads
variable {N SL : Nat} {S : Nat → Shp} {R : Nat → Nat → Option Nat}
theorem c_step (hT : TopAt N S R) (I : Nat → Nat → Int32) (J : Nat → Nat → Int64) (ne : Nat) (hne : ne ≤ 200) (tr : Tr) (hR : TrC I tr) (hG : TrG ne tr) (x y : Int32) : fX8_step 3 x y (N, SL, S, R, I, J) = some (aStep tr x y, (N, SL, S, R, I, J)) := by
  obtain ⟨⟨ho, hsha, r0, r6, r7, r8, r12, r13, r14⟩, ⟨s718, s728, s729, s730, s735, s736⟩, hrow⟩ := hT.2.2.2.2.1
  have hN := hT.1.2.1
  unfold fX8_step fX8_step_25
  cases tr with
  | none =>
    by_cases q : x < 0
    · rw [if_pos q]; rfl
    · rw [if_neg q, tp_f5 hT, gI_mk ho, hR.1, if_pos (show nI 0 ≤ x from Int32.not_lt.mp q)]; rfl
  | some v =>
    obtain ⟨pf, fr, ti, hs⟩ := v
    have h9 := st9 hne hG pf fr ti hs rfl
    show _ = some (if (x < 0 ∨ ¬ x < nI (stN pf fr ti)) ∨ (y < 0 ∨ ¬ y < 32) then -1 else hb (hs x.toNatClampNeg) y.toNatClampNeg, _)
    by_cases q : (x < 0 ∨ ¬ x < nI (stN pf fr ti)) ∨ (y < 0 ∨ ¬ y < 32)
    · rw [if_pos q]
      by_cases q1 : x < 0
      · rw [if_pos q1]
      rw [if_neg q1, tp_f5 hT, gI_mk ho, hR.1]
      by_cases q2 : ¬ x < nI (stN pf fr ti)
      · rw [if_pos (Int32.not_lt.mp q2)]
      rw [if_neg (Int32.not_le.mpr (Decidable.not_not.mp q2))]
      by_cases q3 : y < 0
      · rw [if_pos q3]
      rw [if_neg q3, if_neg (fun t => q.elim (fun z => z.elim q1 q2) (fun z => z.elim q3 (fun z => z t)))]
    · obtain ⟨i, rfl, hi⟩ := in_nI (n := stN pf fr ti) (by omega) (fun t => q (Or.inl t))
      obtain ⟨b, rfl, hb'⟩ := in_nI (n := 32) (by decide) (fun t => q (Or.inr t))
      rw [if_neg q, if_neg (nI_ge0 (by omega)), tp_f5 hT, gI_mk ho, hR.1, if_neg (nI_lt_of (by omega) hi), if_neg (nI_ge0 (by omega)), if_pos (show nI b < (32 : Int32) from nI_lt (b := 32) hb' (by decide)), tp_f5 hT, gR_mk ho r0, rR_mk (by omega) s718 (by omega) (by decide) (hrow i (by omega)).1, byteOf_mk (by omega) (hrow i (by omega)).2 I J b hb', bd_some, byC_hb, nI_clamp (by omega), nI_clamp (by omega), hb_ext (hR.2.2.2.2.2.2.2.2 i hi) hb']
theorem m_step (hT : TopAt N S R) (I : Nat → Nat → Int32) (J : Nat → Nat → Int64) (ne : Nat) (hne : ne ≤ 200) (tr : Tr) (hR : TrM I tr) (hG : TrG ne tr) (x y : Int32) : fX9_step_ 759 x y (N, SL, S, R, I, J) = some (aStep tr x y, (N, SL, S, R, I, J)) := by
  have hA := hT.md
  have y31 : (y < 0 ∨ 31 < y) ↔ (y < 0 ∨ ¬ y < 32) := by
    have e1 : (31 : Int32).toInt = 31 := rfl
    have e2 : (32 : Int32).toInt = 32 := rfl
    rw [Int32.lt_iff_toInt_lt (x := 31), Int32.lt_iff_toInt_lt (y := 32), e1, e2]
    constructor
    · rintro (q | q)
      · exact Or.inl q
      · exact Or.inr (by omega)
    · rintro (q | q)
      · exact Or.inl q
      · exact Or.inr (by omega)
  unfold fX9_step_ fX9_step__45 fX9_step__46
  cases tr with
  | none =>
    have h0 : I 759 52 = nI 0 := hR
    rw [md_g hA, h0, if_pos (show nI 0 ≤ 0 by decide)]
    rfl
  | some v =>
    obtain ⟨pf, fr, ti, hs⟩ := v
    have h9 := st9 hne hG pf fr ti hs rfl
    show _ = some (if (x < 0 ∨ ¬ x < nI (stN pf fr ti)) ∨ (y < 0 ∨ ¬ y < 32) then -1 else hb (hs x.toNatClampNeg) y.toNatClampNeg, _)
    have hp : ¬ nI (if pf = true then 2 else 1) ≤ 0 := by cases pf <;> decide
    rw [md_g hA, hR.1, if_neg hp, md_g hA, hR.2.2.2.1, in_mk, bd_some]
    by_cases q1 : x < 0 ∨ ¬ x < nI (stN pf fr ti)
    · rw [if_pos ((in_m1 (by omega)).mpr q1), if_pos rfl, if_pos (Or.inl q1)]
    · rw [if_neg (fun t => q1 ((in_m1 (by omega)).mp t)), if_neg (show ¬ (1 : Int32) = 0 by decide), in_mk, bd_some]
      by_cases q2 : y < 0 ∨ ¬ y < 32
      · rw [if_pos (y31.mpr q2), if_pos rfl, if_pos (Or.inr q2)]
      · obtain ⟨i, rfl, hi⟩ := in_nI (n := stN pf fr ti) (by omega) q1
        obtain ⟨b, rfl, hb'⟩ := in_nI (n := 32) (by decide) q2
        rw [if_neg (fun t => q2 (y31.mp t)), if_neg (show ¬ (1 : Int32) = 0 by decide), if_neg (fun t => t.elim q1 q2), md_f56 hA, show (32 : Int32) = nI 32 from rfl, nI_mul, nI_add, md_r42 hA (by omega), nI_clamp (by omega), nI_clamp (by omega)]
        show some (I 801 (32 * i + b), _) = _
        rw [hR.2.2.2.2 i hi b hb']
set_option maxHeartbeats 4000000 in
theorem goUp_loop (hT : TopAt N S R) (J : Nat → Nat → Int64) (fl : Nat → Bool) (hs : Nat → Nat → Int32) (n9 : Nat) (h9 : n9 ≤ 9) : ∀ (q s fuel : Nat) (o w : Nat → Int32) (I : Nat → Nat → Int32), q ≤ 8 → s + q = n9 → q < fuel → Sta I → (∀ i, i < q → I 728 i = bI (fl i)) → (∀ i, i < n9 → ∀ j, j < 8 → I (719 + i) j = hs i j) → same8 (I 735) o → same8 (I 736) w →
    ∃ I' : Nat → Nat → Int32, fX7_goUp_33 fuel 717 (nI s) (nI q - 1) (N, SL, S, R, I, J) = some ((), (N, SL, S, R, I', J)) ∧ (∀ c, (c < 731 ∨ 736 < c) → I' c = I c) ∧ same8 (I' 735) (upP fl hs q s o w).1 ∧ same8 (I' 736) (upP fl hs q s o w).2
  | 0, s, fuel, o, w, I, hq, hsq, hf, hS, hF, hH, ho', hw => by
    obtain ⟨y, rfl⟩ : ∃ y, fuel = y + 1 := ⟨fuel - 1, by omega⟩
    exact ⟨I, by rw [fX7_goUp_33, if_pos nI_00], fun _ _ => rfl, ho', hw⟩
  | q + 1, s, fuel, o, w, I, hq, hsq, hf, hS, hF, hH, ho', hw => by
    obtain ⟨y, rfl⟩ : ∃ y, fuel = y + 1 := ⟨fuel - 1, by omega⟩
    obtain ⟨⟨ho, hsha, r0, r6, r7, r8, r12, r13, r14⟩, ⟨s718, s728, s729, s730, s735, s736⟩, hrow⟩ := hT.2.2.2.2.1
    have hN := hT.1.2.1
    have hnS : nS = 3 := rfl
    have hFq := hF q (by omega)
    have hHs : same8 (I (719 + s)) (hs s) := hH s (by omega)
    have sta : ∀ I1 : Nat → Nat → Int32, (∀ c, (c < 731 ∨ 736 < c) → I1 c = I c) → Sta I1 := fun I1 f => ⟨fun j hj => by rw [f 1 (by omega)]; exact hS.1 j hj, fun j hj => by rw [f 0 (by omega)]; exact hS.2 j hj⟩
    rw [fX7_goUp_33, nI_p1, if_neg (nI_ge0 (by omega)), gR_mk ho r6, rI_mk (by omega) s728 (by omega) (by decide), hFq, upP]
    unfold fX7_goUp_112
    rw [nI_1, nI_m1]
    cases e : fl q with
    | false =>
      obtain ⟨I1, b1, b2, b3⟩ := join_D (SL := SL) hsha (a := 736) (b := 719 + s) (to := 736) (by omega) s736 ⟨by omega, by omega⟩ (by omega) (hrow s (by omega)).2 ⟨by omega, by omega⟩ (by omega) (by omega) s736 ⟨by omega, by omega, by omega⟩ (by omega) I J hS
      have f1 : ∀ c, (c < 731 ∨ 736 < c) → I1 c = I c := fun c hc => b2 c (by omega) (by omega) (by omega) (by omega) (by omega)
      obtain ⟨I', g1, g2, g3, g4⟩ := goUp_loop hT J fl hs n9 h9 q (s + 1) y o (ndH w (hs s)) I1 (by omega) (by omega) (by omega) (sta I1 f1) (fun i hi => by rw [f1 728 (by omega)]; exact hF i (by omega)) (fun i hi j hj => by rw [f1 _ (by omega)]; exact hH i hi j hj) (fun j hj => by rw [b2 735 (by omega) (by omega) (by omega) (by omega) (by omega)]; exact ho' j hj) (fun j hj => by rw [b3 j hj, nd_ext hw hHs])
      refine ⟨I', ?_, fun c hc => by rw [g2 c hc, f1 c hc], by rw [if_neg (fun q => by cases q)]; exact g3, by rw [if_neg (fun q => by cases q)]; exact g4⟩
      rw [if_pos (show bI false = 0 from rfl), gR_mk ho r12, gR_mk ho r14, gR_mk ho r0, rR_mk (by omega) s718 (by omega) (by decide) (hrow s (by omega)).1, gR_mk ho r14, cV_mk hsha.1, b1, bd_some]
      exact g1
    | true =>
      obtain ⟨I1, b1, b2, b3⟩ := join_D (SL := SL) hsha (a := 719 + s) (b := 735) (to := 735) (by omega) (hrow s (by omega)).2 ⟨by omega, by omega⟩ (by omega) s735 ⟨by omega, by omega⟩ (by omega) (by omega) s735 ⟨by omega, by omega, by omega⟩ (by omega) I J hS
      have f1 : ∀ c, (c < 731 ∨ 736 < c) → I1 c = I c := fun c hc => b2 c (by omega) (by omega) (by omega) (by omega) (by omega)
      obtain ⟨I2, d1, d2, d3⟩ := join_D (SL := SL) hsha (a := 719 + s) (b := 736) (to := 736) (by omega) (hrow s (by omega)).2 ⟨by omega, by omega⟩ (by omega) s736 ⟨by omega, by omega⟩ (by omega) (by omega) s736 ⟨by omega, by omega, by omega⟩ (by omega) I1 J (sta I1 f1)
      have f2 : ∀ c, (c < 731 ∨ 736 < c) → I2 c = I c := fun c hc => by rw [d2 c (by omega) (by omega) (by omega) (by omega) (by omega), f1 c hc]
      have hHs1 : same8 (I1 (719 + s)) (hs s) := fun j hj => by rw [f1 _ (by omega)]; exact hHs j hj
      have hw1 : same8 (I1 736) w := fun j hj => by rw [b2 736 (by omega) (by omega) (by omega) (by omega) (by omega)]; exact hw j hj
      obtain ⟨I', g1, g2, g3, g4⟩ := goUp_loop hT J fl hs n9 h9 q (s + 1) y (ndH (hs s) o) (ndH (hs s) w) I2 (by omega) (by omega) (by omega) (sta I2 f2) (fun i hi => by rw [f2 728 (by omega)]; exact hF i (by omega)) (fun i hi j hj => by rw [f2 _ (by omega)]; exact hH i hi j hj) (fun j hj => by rw [d2 735 (by omega) (by omega) (by omega) (by omega) (by omega), b3 j hj, nd_ext hHs ho']) (fun j hj => by rw [d3 j hj, nd_ext hHs1 hw1])
      refine ⟨I', ?_, fun c hc => by rw [g2 c hc, f2 c hc], by rw [if_pos rfl]; exact g3, by rw [if_pos rfl]; exact g4⟩
      rw [if_neg (show ¬ bI true = 0 by decide), gR_mk ho r12, gR_mk ho r0, rR_mk (by omega) s718 (by omega) (by decide) (hrow s (by omega)).1, gR_mk ho r13, gR_mk ho r13, cV_mk hsha.1, b1, bd_some, gR_mk ho r12, gR_mk ho r0, rR_mk (by omega) s718 (by omega) (by decide) (hrow s (by omega)).1, gR_mk ho r14, gR_mk ho r14, cV_mk hsha.1, d1, bd_some]
      exact g1
set_option maxHeartbeats 4000000 in
/-- goUp(beginning) -/
theorem goUp_C (hT : TopAt N S R) (I : Nat → Nat → Int32) (J : Nat → Nat → Int64) (hS : Sta I) (ne : Nat) (hne : ne ≤ 200) (pf : Bool) (fr ti : Nat) (hs : Nat → Nat → Int32) (hok : TrOk pf fr ti ne) (hR : TrC I (some (pf, fr, ti, hs))) (r : Nat) (hr : r < N) (hsr : S r = .inl (.int, 8)) (hr1 : r < 731) (b : Nat → Int32) (hb' : same8 (I r) b) :
    ∃ I' : Nat → Nat → Int32, fX7_goUp 717 r (N, SL, S, R, I, J) = some ((), (N, SL, S, R, I', J)) ∧ (∀ c, (c < 731 ∨ 736 < c) → I' c = I c) ∧ same8 (I' 735) (trU pf fr ti hs b).1 ∧ same8 (I' 736) (trU pf fr ti hs b).2 := by
  obtain ⟨⟨ho, hsha, r0, r6, r7, r8, r12, r13, r14⟩, ⟨s718, s728, s729, s730, s735, s736⟩, hrow⟩ := hT.2.2.2.2.1
  have hN := hT.1.2.1
  have hnS : nS = 3 := rfl
  obtain ⟨d1, d2, d3⟩ := tr_dn hne hok
  have h9 := st9 hne (tr := some (pf, fr, ti, hs)) hok pf fr ti hs rfl
  obtain ⟨a1, a2, a3, a4, a5, a6, a7, a8, a9⟩ := hR
  obtain ⟨I1, hI1⟩ : ∃ I1, I1 = u1 I 735 (fun j => if j < 8 then I r j else I 735 j) := ⟨_, rfl⟩
  obtain ⟨I2, hI2⟩ : ∃ I2, I2 = u1 I1 736 (fun j => if j < 8 then I1 r j else I1 736 j) := ⟨_, rfl⟩
  have f2 : ∀ c, c ≠ 735 → c ≠ 736 → I2 c = I c := fun c q1 q2 => by rw [hI2, u1_ne q2, hI1, u1_ne q1]
  obtain ⟨I', g1, g2, g3, g4⟩ := goUp_loop (SL := SL) hT J (fun q => (tN pf fr ti q).1) hs (stN pf fr ti) h9 (tT pf fr ti).length (oN pf fr ti) FU b b I2 d3 rfl (by unfold FU; omega) ⟨fun j hj => by rw [f2 1 (by omega) (by omega)]; exact hS.1 j hj, fun j hj => by rw [f2 0 (by omega) (by omega)]; exact hS.2 j hj⟩ (fun i hi => by rw [f2 728 (by omega) (by omega)]; exact a8 i hi) (fun i hi j hj => by rw [f2 _ (by omega) (by omega)]; exact a9 i hi j hj) (fun j hj => by rw [hI2, u1_ne (by decide), hI1, u1_eq, if_pos hj]; exact hb' j hj) (fun j hj => by rw [hI2, u1_eq, if_pos hj, hI1, u1_ne (by omega)]; exact hb' j hj)
  refine ⟨I', ?_, fun c hc => by rw [g2 c hc, f2 c (by omega) (by omega)], g3, g4⟩
  unfold fX7_goUp
  rw [gR_mk ho r13, copy_spec hr hsr (by omega) (by omega) s735 (by omega), bd_some, ← hI1, gR_mk ho r14, copy_spec hr hsr (by omega) (by omega) s736 (by omega), bd_some, ← hI2, gI_mk ho, gI_mk ho, gI_mk ho, f2 717 (by omega) (by omega), a1, a6, pk_sub (by unfold stN; omega), show stN pf fr ti - (tT pf fr ti).length = oN pf fr ti by unfold stN; omega]
  exact g1
/-- what isHeadOf says -/
theorem isHd_C (hT : TopAt N S R) (I : Nat → Nat → Int32) (J : Nat → Nat → Int64) (hd : Hd) (hH : HdC I hd) (ne : Nat) (hne : ne ≤ 200) (hG : HdG hd ne) (x : Int32) (n : Nat) (hn : n ≤ 200) :
    fX8_isHeadOf 3 x (nI n) (N, SL, S, R, I, J) = some (match hdN hd x with | none => 0 | some v => if v.1 = n then 1 else 0, (N, SL, S, R, I, J)) := by
  have hN := hT.1.2.1
  unfold fX8_isHeadOf fX8_isHeadOf_27 fX8_isHeadOf_28 hdN
  by_cases q : x < 0 ∨ ¬ x < 8
  · rw [if_pos q]
    by_cases q1 : x < 0
    · rw [if_pos q1, retZ_0]
    · rw [if_neg q1, if_pos (Int32.not_lt.mp (q.resolve_left q1)), retZ_0]
  · obtain ⟨k, rfl, hk⟩ := in_nI (n := 8) (by decide) q
    obtain ⟨d1, d2, d3, d4, d5, d6⟩ := hT.2.2.2.1 k hk
    obtain ⟨o1, o2⟩ := hH k hk
    rw [if_neg q, nI_clamp (by omega), if_neg (nI_ge0 (by omega)), if_neg (show ¬ (8 : Int32) ≤ nI k from nI_lt_of (k := 8) (by decide) hk), tp_f4 hT, rR_mk (by omega) hT.2.2.1.2.2 hk (by decide) d1, gI_mk d2]
    cases e : hd k with
    | none =>
      rw [o1 e, if_neg (fun z => nI_n1 n (by omega) z.symm), retZ_0]
      rfl
    | some v =>
      obtain ⟨n', c, t⟩ := v
      have hn' := hG k n' c t e
      rw [(o2 n' c t e).1]
      show _ = some (if n' = n then 1 else 0, _)
      by_cases z : n' = n
      · rw [if_pos (by rw [z]), retZ_1, if_pos z]
      · rw [if_neg (fun y => z ((nI_eq (by omega) (by omega)).mp y)), retZ_0, if_neg z]
theorem hdN_some {hd : Hd} {x : Int32} {n : Nat} {t : Nat → Int32} (h : hdN hd x = some (n, t)) : ∃ k c, x = nI k ∧ k < 8 ∧ hd k = some (n, c, t) := by
  unfold hdN at h
  by_cases q : x < 0 ∨ ¬ x < 8
  · rw [if_pos q] at h; cases h
  · obtain ⟨k, rfl, hk⟩ := in_nI (n := 8) (by decide) q
    rw [if_neg q, nI_clamp (by omega)] at h
    cases e : hd k with
    | none => rw [e] at h; cases h
    | some v =>
      obtain ⟨n', c, t'⟩ := v
      rw [e] at h
      cases h
      exact ⟨k, c, rfl, hk, e⟩
set_option maxHeartbeats 8000000 in
theorem c_leads (hT : TopAt N S R) (I : Nat → Nat → Int32) (J : Nat → Nat → Int64) (L : Lg) (tn : Nat) (tl : Nat → Nat × Int64) (nw : Nat → Nat) (et : Nat → Option Nat) (hL : LInv L) (hn : ∀ k, nw k < 256) (h : CA I J L tn tl nw et) (hd : Hd) (hH : HdC I hd) (hG : HdG hd L.ne) (tr : Tr) (hR : TrC I tr) (hTG : TrG L.ne tr) (x y : Int32) :
    ∃ I' : Nat → Nat → Int32, fX8_leads 3 x y (N, SL, S, R, I, J) = some (aLeads L nw hd tr x y, (N, SL, S, R, I', J)) ∧ CA I' J L tn tl nw et ∧ ∀ c, (c < 25 ∨ 691 < c) → (c < 731 ∨ 736 < c) → I' c = I c := by
  obtain ⟨⟨ho, hsha, r0, r6, r7, r8, r12, r13, r14⟩, ⟨s718, s728, s729, s730, s735, s736⟩, hrow⟩ := hT.2.2.2.2.1
  have h1 := hL.1
  have hN := hT.1.2.1
  have hP := hT.pg
  have hSta : Sta I := h.2.2.2.2.2.1.2.1
  unfold fX8_leads fX8_leads_25 fX8_leads_78
  rw [tp_f5 hT, gI_mk ho]
  cases tr with
  | none =>
    rw [hR.2, if_pos rfl]
    exact ⟨I, rfl, h, fun _ _ _ => rfl⟩
  | some v =>
    obtain ⟨pf, fr, ti, hs⟩ := v
    have hok : TrOk pf fr ti L.ne := hTG
    have hR0 := hR
    have l1 := hok.1
    have l2 := hok.2.1
    obtain ⟨a1, a2, a3, a4, a5, a6, a7, a8, a9⟩ := hR
    have hy := isHd_C (SL := SL) hT I J hd hH L.ne h1.2.1 hG y ti (by omega)
    have hx := isHd_C (SL := SL) hT I J hd hH L.ne h1.2.1 hG x fr (by omega)
    rw [a2, if_neg (show ¬ (1 : Int32) = 0 by decide), tp_f5 hT, gI_mk ho, a5, tp_o hT, hy, bd_some]
    show ∃ I', _ = some (aLeads1 L nw pf fr ti hs (hdN hd x) (hdN hd y), _) ∧ _
    cases ey : hdN hd y with
    | none =>
      rw [if_pos rfl]
      exact ⟨I, rfl, h, fun _ _ _ => rfl⟩
    | some vy =>
      obtain ⟨n, t⟩ := vy
      show ∃ I', (if (if n = ti then (1 : Int32) else 0) = 0 then _ else _) = some ((if n = ti then (if pf = true then aLeads2 pf fr ti hs t (hdN hd x) else (if same8 (trU pf fr ti hs (lfA nw L.st fr)).2 t then 1 else 0)) else -1 : Int32), _) ∧ _
      by_cases w : ¬ n = ti
      · rw [if_neg w, if_pos rfl, if_neg w]
        exact ⟨I, rfl, h, fun _ _ _ => rfl⟩
      have w : n = ti := Decidable.not_not.mp w
      obtain ⟨ky, cy, rfl, hky, eky⟩ := hdN_some ey
      obtain ⟨y1, y2, y3, y4, y5, y6⟩ := hT.2.2.2.1 ky hky
      have hty : same8 (I (695 + 3 * ky)) t := ((hH ky hky).2 n cy t eky).2.2
      rw [if_pos w, if_neg (show ¬ (1 : Int32) = 0 by decide), if_pos w, tp_f5 hT, gI_mk ho, a3]
      cases pf with
      | false =>
        rw [if_pos (show bI false = 0 from rfl), if_neg (fun q => by cases q), tp_f5 hT, tp_f3 hT, tp_f5 hT, gI_mk ho, a4]
        obtain ⟨I1, g1, g2, g3, g4⟩ := leaf_C (SL := SL) hP I J L hL nw hn h.2.2.2 fr (by omega)
        have sta1 : Sta I1 := g2.2.2.1.2.1
        have tr1 : TrC I1 (some (false, fr, ti, hs)) := hR0.ft (fun c q1 q2 => g3 c (by omega)) (st9 h1.2.1 (tr := some (false, fr, ti, hs)) hok)
        obtain ⟨I2, u1', u2', u3', u4'⟩ := goUp_C (SL := SL) hT I1 J sta1 L.ne h1.2.1 false fr ti hs hok tr1 (25 + 210 + (256 + fr)) (by omega) (hP.2.2.2.2 (256 + fr) (by omega)).2 (by omega) (lfA nw L.st fr) g4
        have b4 : same8 (I2 736) (I2 (695 + 3 * ky)) ↔ same8 (trU false fr ti hs (lfA nw L.st fr)).2 t := same8_congr u4' (fun j hj => by rw [u2' _ (by omega), g3 _ (by omega)]; exact hty j hj)
        refine ⟨I2, ?_, h.low (fun c hc => by rw [u2' c (by omega), g3 c (by omega)]) (g2.congr (by decide) h1.2.1 (fun c hc => u2' c (by have : nS = 3 := rfl; omega))), fun c q1 q2 => by rw [u2' c q2, g3 c (by omega)]⟩
        rw [cV_mk hP.1.1, g1, bd_some, tp_f4 hT, rR_mk (by omega) hT.2.2.1.2.2 hky (by decide) y1, cV_mk ho]
        unfold fX7_reaches
        rw [cV_mk ho, u1', bd_some, gR_mk ho r14, gR_mk y2 y4, sameH_spec (by omega) s736 (by omega) y6 I2 J, bd_some]
        unfold fX8_oneIf fX8_oneIf_9
        by_cases z : same8 (trU false fr ti hs (lfA nw L.st fr)).2 t
        · rw [if_pos (b4.mpr z), retZ_1, bd_some, if_neg (show ¬ (1 : Int32) = 0 by decide), bd_some, if_pos z]
        · rw [if_neg (fun q => z (b4.mp q)), retZ_0, bd_some, if_pos rfl, bd_some, if_neg z]
      | true =>
        rw [if_neg (show ¬ bI true = 0 by decide), if_pos rfl, tp_f5 hT, gI_mk ho, a4, tp_o hT, hx, bd_some]
        cases ex : hdN hd x with
        | none =>
          rw [if_pos rfl]
          exact ⟨I, rfl, h, fun _ _ _ => rfl⟩
        | some vx =>
          obtain ⟨n', t'⟩ := vx
          show ∃ I', (if (if n' = fr then (1 : Int32) else 0) = 0 then _ else _) = some ((if n' = fr then (if same8 (trU true fr ti hs (if oN true fr ti = 0 then t' else hs 0)).1 t' ∧ same8 (trU true fr ti hs (if oN true fr ti = 0 then t' else hs 0)).2 t then 1 else 0) else -1 : Int32), _) ∧ _
          by_cases w' : ¬ n' = fr
          · rw [if_neg w', if_pos rfl, if_neg w']
            exact ⟨I, rfl, h, fun _ _ _ => rfl⟩
          have w' : n' = fr := Decidable.not_not.mp w'
          obtain ⟨kx, cx, rfl, hkx, ekx⟩ := hdN_some ex
          obtain ⟨x1, x2, x3, x4, x5, x6⟩ := hT.2.2.2.1 kx hkx
          have htx : same8 (I (695 + 3 * kx)) t' := ((hH kx hkx).2 n' cx t' ekx).2.2
          have hoN : oN true fr ti ≤ 1 := by unfold oN; split <;> omega
          have h9 := st9 h1.2.1 (tr := some (true, fr, ti, hs)) hok true fr ti hs rfl
          have hob : fX7_hasOwnBeginning 717 (N, SL, S, R, I, J) = some (nI (oN true fr ti), (N, SL, S, R, I, J)) := by
            unfold fX7_hasOwnBeginning fX7_hasOwnBeginning_18 fX7_hasOwnBeginning_19 oN
            have hE := (tr_dn h1.2.1 hok).2.1.2.1
            rw [gI_mk ho, a3, if_neg (show ¬ bI true = 0 by decide), gI_mk ho, a7]
            by_cases z : 0 < (tE true fr ti).1
            · rw [if_neg (nI_nle z (by omega)), retZ_1, if_pos ⟨rfl, z⟩]; rfl
            · rw [if_pos (show nI (tE true fr ti).1 ≤ 0 by rw [show (tE true fr ti).1 = 0 by omega]; decide), retZ_0, if_neg (fun q => z q.2)]; rfl
          rw [if_pos w', if_neg (show ¬ (1 : Int32) = 0 by decide), if_pos w', tp_f5 hT, tp_f4 hT, rR_mk (by omega) hT.2.2.1.2.2 hkx (by decide) x1, tp_f4 hT, rR_mk (by omega) hT.2.2.1.2.2 hky (by decide) y1, cV_mk ho]
          have go : ∀ (r : Nat) (b : Nat → Int32), r < N → S r = .inl (.int, 8) → r < 731 → same8 (I r) b → (∃ I' : Nat → Nat → Int32, (bd (fX7_joins_21 717 (693 + 3 * kx) (693 + 3 * ky) r 717 (N, SL, S, R, I, J)) fun v31 M30 => bd (fX8_oneIf v31 M30) fun v33 M32 => some (v33, M32)) = some ((if same8 (trU true fr ti hs b).1 t' ∧ same8 (trU true fr ti hs b).2 t then 1 else 0 : Int32), (N, SL, S, R, I', J)) ∧ CA I' J L tn tl nw et ∧ ∀ c, (c < 25 ∨ 691 < c) → (c < 731 ∨ 736 < c) → I' c = I c) := by
            intro r b p1 p2 p3 p4
            obtain ⟨I2, u1', u2', u3', u4'⟩ := goUp_C (SL := SL) hT I J hSta L.ne h1.2.1 true fr ti hs hok hR0 r p1 p2 p3 b p4
            have b3 : same8 (I2 735) (I2 (695 + 3 * kx)) ↔ same8 (trU true fr ti hs b).1 t' := same8_congr u3' (fun j hj => by rw [u2' _ (by omega)]; exact htx j hj)
            have b4 : same8 (I2 736) (I2 (695 + 3 * ky)) ↔ same8 (trU true fr ti hs b).2 t := same8_congr u4' (fun j hj => by rw [u2' _ (by omega)]; exact hty j hj)
            refine ⟨I2, ?_, h.low (fun c hc => u2' c (by omega)) (h.2.2.2.congr (by decide) h1.2.1 (fun c hc => u2' c (by have : nS = 3 := rfl; omega))), fun c q1 q2 => u2' c q2⟩
            unfold fX7_joins_21 fX7_joins_56 fX7_joins_57
            rw [cV_mk ho, u1', bd_some, gR_mk ho r13, gR_mk x2 x4, sameH_spec (by omega) s735 (by omega) x6 I2 J, bd_some]
            unfold fX8_oneIf fX8_oneIf_9
            by_cases z : same8 (trU true fr ti hs b).1 t'
            · rw [if_pos (b3.mpr z), if_neg (show ¬ (1 : Int32) = 0 by decide), gR_mk ho r14, gR_mk y2 y4, sameH_spec (by omega) s736 (by omega) y6 I2 J, bd_some]
              by_cases z2 : same8 (trU true fr ti hs b).2 t
              · rw [if_pos (b4.mpr z2), if_neg (show ¬ (1 : Int32) = 0 by decide), retZ_1, bd_some, if_neg (show ¬ (1 : Int32) = 0 by decide), bd_some, if_pos ⟨z, z2⟩]
              · rw [if_neg (fun q => z2 (b4.mp q)), if_pos rfl, retZ_0, bd_some, if_pos rfl, bd_some, if_neg (fun q => z2 q.2)]
            · rw [if_neg (fun q => z (b3.mp q)), if_pos rfl, retZ_0, bd_some, if_pos rfl, bd_some, if_neg (fun q => z q.1)]
          unfold fX7_joins
          rw [cV_mk ho, hob, bd_some]
          by_cases z : oN true fr ti = 0
          · rw [if_pos (show nI (oN true fr ti) = 0 by rw [z]; rfl), gR_mk x2 x4, if_pos z]
            exact go (695 + 3 * kx) t' (by omega) x6 (by omega) htx
          · rw [if_neg (nI_ne0 (by omega) (by omega)), gR_mk ho r0, if_neg z]
            show ∃ I', bd (rR _ _ 718 (nI 0) _) _ = _ ∧ _
            rw [rR_mk (by omega) s718 (by decide) (by decide) (hrow 0 (by decide)).1]
            exact go 719 (hs 0) (by omega) (hrow 0 (by decide)).2 (by omega) (a9 0 (by unfold stN; omega))
end Leads
