-- P6: path, proof, step, on both sides
section TrailD
variable {N SL : Nat} {S : Nat → Shp} {R : Nat → Nat → Option Nat}
/-- of the reference only its digests, the way down and the steps have changed -/
def SFr (I I' : Nat → Nat → Int32) : Prop := (∀ c, c ≠ 759 → (c < 791 ∨ 796 < c) → (c < 801 ∨ 804 < c) → I' c = I c) ∧ ∀ j, j ≠ 42 → (j < 52 ∨ 63 < j) → I' 759 j = I 759 j
theorem SFr.refl {I : Nat → Nat → Int32} : SFr I I := ⟨fun _ _ _ _ => rfl, fun _ _ _ => rfl⟩
theorem SFr.trans {I I' I'' : Nat → Nat → Int32} (h : SFr I I') (h' : SFr I' I'') : SFr I I'' := ⟨fun c a b d => (h'.1 c a b d).trans (h.1 c a b d), fun j a b => (h'.2 j a b).trans (h.2 j a b)⟩
theorem HFr.sfr {I I' : Nat → Nat → Int32} (h : HFr I I') : SFr I I' := ⟨fun c a b _ => h.1 c a b, fun j a _ => h.2 j a⟩
theorem GM.sfr {I I' : Nat → Nat → Int32} (h : GM I I') : SFr I I' := ⟨fun c a _ b => h.1 c a (by omega), fun j _ a => h.2 j (by omega)⟩
theorem MA.sfr {I I' : Nat → Nat → Int32} {J : Nat → Nat → Int64} {L : Lg} {tn : Nat} {tl : Nat → Nat × Int64} {nw : Nat → Nat} {et : Nat → Option Nat} (h : MA I J L tn tl nw et) (f : SFr I I') : MA I' J L tn tl nw et := by
  obtain ⟨m1, m2, m3, m4, m5⟩ := h
  have g : ∀ c, c ≠ 759 → c < 791 → I' c = I c := fun c a b => f.1 c a (by omega) (by omega)
  refine ⟨?_, m2.congr (fun c q1 q2 => g c (by omega) (by omega)) (f.2 20 (by decide) (by omega)), fun k hk => by rw [g _ (by omega) (by omega)]; exact m3 k hk, ⟨by rw [f.2 37 (by decide) (by omega)]; exact m4.1, m4.2.1, fun k hk => by rw [g _ (by omega) (by omega)]; exact m4.2.2 k hk⟩, m5.congr (Nat.le_refl _) (f.2 25 (by decide) (by omega)) (g _ (by omega) (by omega)) (g _ (by omega) (by omega))⟩
  unfold MRep MEnt
  rw [g (759 + 1) (by omega) (by omega), g (759 + 2) (by omega) (by omega), g (759 + 3) (by omega) (by omega), g (759 + 4) (by omega) (by omega), g (759 + 10) (by omega) (by omega), g (759 + 12) (by omega) (by omega), g (759 + 13) (by omega) (by omega), g (759 + 15) (by omega) (by omega), g (759 + 17) (by omega) (by omega), g (759 + 18) (by omega) (by omega)]
  exact m1
theorem step_loop (hA : MdAt N S R 759) (J : Nat → Nat → Int64) (k : Nat) (hk : k < 32) (H : Nat → Int32) : ∀ (q b fuel : Nat) (I : Nat → Nat → Int32), b + q = 32 → q < fuel → I 759 55 = nI k → (∀ j, j < 32 → I 794 j = hb H j) → (∀ j, j < b → I 801 (32 * k + j) = hb H j) →
    ∃ I' : Nat → Nat → Int32, fX9_step_2 fuel 759 (nI b) (N, SL, S, R, I, J) = some ((), (N, SL, S, R, I', J)) ∧ (∀ c, c ≠ 759 → c ≠ 801 → I' c = I c) ∧ (∀ j, j ≠ 55 → I' 759 j = I 759 j) ∧ I' 759 55 = nI (k + 1) ∧ (∀ p, p < 32 * k ∨ 32 * k + 32 ≤ p → I' 801 p = I 801 p) ∧ ∀ j, j < 32 → I' 801 (32 * k + j) = hb H j
  | 0, b, fuel, I, hb', hf, h55, hh, hd => by
    obtain ⟨y, rfl⟩ : ∃ y, fuel = y + 1 := ⟨fuel - 1, by omega⟩
    have : b = 32 := by omega
    subst this
    refine ⟨u2 I 759 55 (nI (k + 1)), ?_, fun c q1 _ => u2_ne q1, fun j hj => by rw [u2_at, up_ne hj], u2_i, fun p _ => by rw [u2_ne (by decide)], fun j hj => by rw [u2_ne (by decide)]; exact hd j hj⟩
    rw [fX9_step_2, if_pos (by decide), md_g hA, h55, nI_1, md_p hA]
  | q + 1, b, fuel, I, hb', hf, h55, hh, hd => by
    obtain ⟨y, rfl⟩ : ∃ y, fuel = y + 1 := ⟨fuel - 1, by omega⟩
    obtain ⟨I', g1, g2, g3, g4, g5, g6⟩ := step_loop hA J k hk H q (b + 1) y (u2 I 801 (32 * k + b) (hb H b)) (by omega) (by omega) (by rw [u2_ne (by decide)]; exact h55) (fun j hj => by rw [u2_ne (by decide)]; exact hh j hj) (fun j hj => by
      rw [u2_at]
      by_cases z : j = b
      · rw [z, up_eq]
      · rw [up_ne (by omega)]; exact hd j (by omega))
    refine ⟨I', ?_, fun c q1 q2 => by rw [g2 c q1 q2, u2_ne q2], fun j hj => by rw [g3 j hj, u2_ne (by decide)], g4, fun p hp => by rw [g5 p hp, u2_at, up_ne (by omega)], g6⟩
    rw [fX9_step_2, if_neg (show ¬ (32 : Int32) ≤ nI b from nI_lt_of (k := 32) (by decide) (by omega)), md_f56 hA, md_g hA, h55, md_f45 hA, md_r35 hA (by omega)]
    show wI _ .int (759 + 42) _ (I 794 b) _ = _
    rw [hh b (by omega), show (32 : Int32) = nI 32 from rfl, nI_mul, nI_add, md_w42 hA (by omega), nI_1]
    exact g1
/-- tree(f, t); step(): one hash more -/
theorem one_step (hT : TopAt N S R) (I : Nat → Nat → Int32) (J : Nat → Nat → Int64) (L : Lg) (hL : LInv L) (nw : Nat → Nat) (hB : MBy 759 I L) (hD : DaOk 759 I nw (L.st L.ne)) (hS : MS I) (f s : Nat) (hfs : f + s ≤ L.ne) (k : Nat) (hk : k < 32) (h55 : I 759 55 = nI k) {β : Type} (K : Mem → Option β) :
    ∃ I' : Nat → Nat → Int32, (cV (N, SL, S, R, I, J) 9 759 (fX9_tree 759 (nI f) (nI (f + s)) (N, SL, S, R, I, J)) fun _ M5 => (cV M5 9 759 (fX9_step 759 M5) fun _ M7 => K M7)) = K (N, SL, S, R, I', J) ∧ MS I' ∧ SFr I I' ∧ (∀ j, j ≠ 42 → j ≠ 55 → I' 759 j = I 759 j) ∧ (∀ c, 802 ≤ c → I' c = I c) ∧ I' 759 55 = nI (k + 1) ∧ (∀ p, p < 32 * k → I' 801 p = I 801 p) ∧ ∀ j, j < 32 → I' 801 (32 * k + j) = hb (trA nw L.st f s) j := by
  have hA := hT.md
  obtain ⟨I1, t1, t2, t3, t4⟩ := tree_MD (SL := SL) hT I J L hL nw hB hD hS f (f + s) (by omega) hfs
  rw [show f + s - f = s by omega] at t4
  obtain ⟨I2, g1, g2, g3, g4, g5, g6⟩ := step_loop (SL := SL) hA J k hk (trA nw L.st f s) 32 0 FU I1 rfl (by decide) (by rw [t2.2 55 (by decide)]; exact h55) t4 (fun j hj => absurd hj (by omega))
  refine ⟨I2, ?_, ⟨fun j hj => by rw [g2 790 (by omega) (by omega)]; exact t3.1 j hj, by rw [g3 42 (by decide)]; exact t3.2⟩, ⟨fun c q1 q2 q3 => by rw [g2 c q1 (by omega), t2.1 c q1 q2], fun j q1 q2 => by rw [g3 j (by omega), t2.2 j q1]⟩, fun j q1 q2 => by rw [g3 j q2, t2.2 j q1], fun c hc => by rw [g2 c (by omega) (by omega), t2.1 c (by omega) (by omega)], g4, fun p hp => by rw [g5 p (by omega), t2.1 801 (by omega) (by omega)], g6⟩
  rw [md_o hA, t1, bd_some, md_o hA]
  show bd (fX9_step_2 FU 759 (nI 0) _) _ = _
  rw [g1, bd_some]
set_option maxHeartbeats 4000000 in
theorem sides_loop (hT : TopAt N S R) (J : Nat → Nat → Int64) (L : Lg) (tn : Nat) (tl : Nat → Nat × Int64) (nw : Nat → Nat) (et : Nat → Option Nat) (hL : LInv L) (pf : Bool) (fr ti : Nat) (ho' : TrOk pf fr ti L.ne) : ∀ (q fuel : Nat) (I : Nat → Nat → Int32), q ≤ (tT pf fr ti).length → q < fuel → MA I J L tn tl nw et → MS I → I 759 55 = nI (oN pf fr ti + ((tT pf fr ti).length - q)) → TRowM I 0 (tT pf fr ti) → (∀ i, i < oN pf fr ti + ((tT pf fr ti).length - q) → ∀ j, j < 32 → I 801 (32 * i + j) = hb (mkH nw L.st pf fr ti i) j) →
    ∃ I' : Nat → Nat → Int32, fX9_sides_7 fuel 759 (nI q - 1) (N, SL, S, R, I, J) = some ((), (N, SL, S, R, I', J)) ∧ MS I' ∧ SFr I I' ∧ (∀ j, j ≠ 42 → j ≠ 55 → I' 759 j = I 759 j) ∧ I' 759 55 = nI (stN pf fr ti) ∧ ∀ i, i < stN pf fr ti → ∀ j, j < 32 → I' 801 (32 * i + j) = hb (mkH nw L.st pf fr ti i) j
  | 0, fuel, I, hq, hf, hM, hS, h1, hR, hh => by
    obtain ⟨y, rfl⟩ : ∃ y, fuel = y + 1 := ⟨fuel - 1, by omega⟩
    refine ⟨I, ?_, hS, SFr.refl, fun _ _ _ => rfl, h1, hh⟩
    rw [fX9_sides_7, if_pos nI_00]
  | q + 1, fuel, I, hq, hf, hM, hS, h1, hR, hh => by
    obtain ⟨y, rfl⟩ : ∃ y, fuel = y + 1 := ⟨fuel - 1, by omega⟩
    have hA := hT.md
    obtain ⟨d1, d2, d3⟩ := tr_dn hL.1.2.1 ho'
    have hoN : oN pf fr ti ≤ 1 := by unfold oN; split <;> omega
    have hmem := d1 _ (tN_mem (show q < (tT pf fr ti).length by omega))
    have hRq := hR q (by omega)
    rw [Nat.zero_add] at hRq
    have hti := ho'.2.1
    obtain ⟨k, hk⟩ : ∃ k, k = oN pf fr ti + ((tT pf fr ti).length - (q + 1)) := ⟨_, rfl⟩
    rw [← hk] at h1 hh
    obtain ⟨I1, g1, g2, g3, g3', g4, g5, g6, g7⟩ := one_step (SL := SL) hT I J L hL nw hM.2.1 hM.2.2.1 hS (tN pf fr ti q).2.1 (tN pf fr ti q).2.2 (by omega) k (by omega) h1 (fun M7 => fX9_sides_7 y 759 (nI q + (-1 : Int32)) M7)
    have mk : mkH nw L.st pf fr ti k = trA nw L.st (tN pf fr ti q).2.1 (tN pf fr ti q).2.2 := by
      unfold mkH
      rw [if_neg (by omega), show (tT pf fr ti).length - 1 - (k - oN pf fr ti) = q by omega]
    obtain ⟨I2, c1, c2, c3, c3', c4, c5⟩ := sides_loop hT J L tn tl nw et hL pf fr ti ho' q y I1 (by omega) (by omega) (hM.sfr g3) g2 (by rw [g5, hk, show oN pf fr ti + ((tT pf fr ti).length - (q + 1)) + 1 = oN pf fr ti + ((tT pf fr ti).length - q) by omega]) (fun i hi => by rw [g4 802 (by omega), g4 803 (by omega), g4 804 (by omega)]; exact hR i hi) (fun i hi j hj => by
      by_cases w : i = k
      · rw [w, g7 j hj, mk]
      · rw [g6 _ (by omega)]
        exact hh i (by omega) j hj)
    refine ⟨I2, ?_, c2, g3.trans c3, fun j q1 q2 => by rw [c3' j q1 q2, g3' j q1 q2], c4, c5⟩
    rw [fX9_sides_7, nI_p1, if_neg (nI_ge0 (by omega)), md_f58 hA, md_r44 hA (by omega), md_f59 hA, md_r45 hA (by omega)]
    show (cV _ 9 759 (fX9_tree 759 (I 803 q) (I 804 q) _) _) = _
    rw [hRq.2.1, hRq.2.2]
    refine g1.trans ?_
    rw [nI_m1]
    exact c1
/-- PATH and PROOF: what they answer, and the trail behind -/
def trNo (L : Lg) (x y : Int32) : Prop := x < 0 ∨ y ≤ x ∨ nI L.ne < y
abbrev paNo (L : Lg) (pf : Bool) (x y : Int32) : Prop := (x < 0 ∨ y ≤ x ∨ nI L.ne < y) ∨ (pf = true ∧ x = 0)
def aTrail (L : Lg) (nw : Nat → Nat) (pf : Bool) (tr : Tr) (x y : Int32) : Int32 × Tr := if paNo L pf x y then (-1, tr) else (nI (stN pf x.toNatClampNeg y.toNatClampNeg), some (pf, x.toNatClampNeg, y.toNatClampNeg, mkH nw L.st pf x.toNatClampNeg y.toNatClampNeg))
theorem tr_of {L : Lg} (hne : L.ne ≤ 200) {pf : Bool} {x y : Int32} (h : ¬ paNo L pf x y) : ∃ a b, x = nI a ∧ y = nI b ∧ TrOk pf a b L.ne := by
  have h0 : ¬ x < 0 := fun q => h (Or.inl (Or.inl q))
  have h1 : x < y := Int32.not_le.mp (fun q => h (Or.inl (Or.inr (Or.inl q))))
  have h2 : y ≤ nI L.ne := Int32.not_lt.mp (fun q => h (Or.inl (Or.inr (Or.inr q))))
  have y0 : ¬ y < 0 := fun q => h0 (Int32.lt_trans h1 q)
  obtain ⟨b, rfl, hb⟩ := nI_sm y0 (Or.inr h2) (by omega)
  obtain ⟨a, rfl, ha⟩ := nI_sm h0 (Or.inl h1) (by omega)
  refine ⟨a, b, rfl, rfl, ?_, hb, fun q => ?_⟩
  · by_cases w : a = b
    · rw [w] at h1; exact absurd h1 (nI_nlt (Nat.le_refl _) (by omega))
    · omega
  · by_cases w : a = 0
    · exact absurd (Or.inr ⟨q, by rw [w]; rfl⟩) h
    · omega
theorem TrC.ft {I I' : Nat → Nat → Int32} {tr : Tr} (h : TrC I tr) (f : ∀ c, 717 ≤ c → c ≤ 730 → I' c = I c) (hs : ∀ pf fr ti hs, tr = some (pf, fr, ti, hs) → stN pf fr ti ≤ 9) : TrC I' tr := by
  cases tr with
  | none => unfold TrC at h ⊢; rw [f 717 (by omega) (by omega)]; exact h
  | some v =>
    obtain ⟨pf, fr, ti, hv⟩ := v
    have h9 := hs pf fr ti hv rfl
    obtain ⟨a1, a2, a3, a4, a5, a6, a7, a8, a9⟩ := h
    unfold TrC
    rw [f 717 (by omega) (by omega), f 728 (by omega) (by omega)]
    exact ⟨a1, a2, a3, a4, a5, a6, a7, a8, fun i hi j hj => by rw [f _ (by omega) (by omega)]; exact a9 i hi j hj⟩
theorem st9 {ne : Nat} (hne : ne ≤ 200) {tr : Tr} (h : TrG ne tr) : ∀ pf fr ti hs, tr = some (pf, fr, ti, hs) → stN pf fr ti ≤ 9 := by
  rintro pf fr ti hs rfl
  have := (tr_dn hne h).2.2
  have hoN : oN pf fr ti ≤ 1 := by unfold oN; split <;> omega
  unfold stN
  omega
theorem aTrail_G {L : Lg} (hne : L.ne ≤ 200) {nw : Nat → Nat} {pf : Bool} {tr : Tr} {x y : Int32} (h : TrG L.ne tr) : TrG L.ne (aTrail L nw pf tr x y).2 := by
  unfold aTrail
  by_cases w : paNo L pf x y
  · rw [if_pos w]; exact h
  · rw [if_neg w]
    obtain ⟨a, b, rfl, rfl, ho⟩ := tr_of hne w
    have := ho.2.1
    have := ho.1
    show TrOk pf (nI a).toNatClampNeg (nI b).toNatClampNeg L.ne
    rw [nI_clamp (by omega), nI_clamp (by omega)]
    exact ho
theorem c_trail (hT : TopAt N S R) (I : Nat → Nat → Int32) (J : Nat → Nat → Int64) (L : Lg) (tn : Nat) (tl : Nat → Nat × Int64) (nw : Nat → Nat) (et : Nat → Option Nat) (hL : LInv L) (hn : ∀ k, nw k < 256) (h : CA I J L tn tl nw et) (tr : Tr) (hR : TrC I tr) (pf : Bool) (x y : Int32) :
    ∃ I' : Nat → Nat → Int32, (if pf = true then fX8_proof 3 x y (N, SL, S, R, I, J) else fX8_path 3 x y (N, SL, S, R, I, J)) = some ((aTrail L nw pf tr x y).1, (N, SL, S, R, I', J)) ∧ CA I' J L tn tl nw et ∧ TrC I' (aTrail L nw pf tr x y).2 ∧ FT I I' := by
  have h1 := hL.1
  have hP := hT.pg
  have ho := hT.2.2.2.2.1.1.1
  have hz : ∀ z : Int32, ¬ z < 0 → z ≠ 0 → ¬ z ≤ 0 := fun z a b c => by
    have a' : (0 : Int32) ≤ z := Int32.not_lt.mp a
    exact b (Int32.le_antisymm c a')
  unfold aTrail
  by_cases w : paNo L pf x y
  · rw [if_pos w]
    refine ⟨I, ?_, h, hR, fun _ _ _ => rfl⟩
    cases pf with
    | true =>
      rw [if_pos rfl]
      unfold fX8_proof fX8_proof_20
      by_cases q0 : x ≤ 0
      · rw [if_pos q0]
      rw [if_neg q0]
      by_cases q1 : y ≤ x
      · rw [if_pos q1]
      rw [if_neg q1, tp_f3 hT, gI_mk hP.1.1, h.2.2.2.1]
      have q2 : nI L.ne < y := by
        rcases w with (a | a | a) | a
        · exact absurd (Int32.le_of_lt a) q0
        · exact absurd a q1
        · exact a
        · exact absurd (by rw [a.2]; exact Int32.le_refl _) q0
      rw [if_neg (Int32.not_le.mpr q2)]
    | false =>
      rw [if_neg (fun q => by cases q)]
      unfold fX8_path fX8_path_20
      by_cases q0 : x < 0
      · rw [if_pos q0]
      rw [if_neg q0]
      by_cases q1 : y ≤ x
      · rw [if_pos q1]
      rw [if_neg q1, tp_f3 hT, gI_mk hP.1.1, h.2.2.2.1]
      have q2 : nI L.ne < y := by
        rcases w with (a | a | a) | a
        · exact absurd a q0
        · exact absurd a q1
        · exact a
        · cases a.1
      rw [if_neg (Int32.not_le.mpr q2)]
  · rw [if_neg w]
    have w1 := w
    obtain ⟨a, b, rfl, rfl, hok⟩ := tr_of h1.2.1 w
    have l1 := hok.1
    have l2 := hok.2.1
    obtain ⟨I', g1, g2, g3, g4⟩ := make_C (SL := SL) hT I J L hL nw hn h.2.2.2 pf a b hok
    rw [nI_clamp (by omega), nI_clamp (by omega)]
    refine ⟨I', ?_, h.low (fun c hc => g4 c (by omega) (by omega)) g2, g3, g4⟩
    have e1 : I' 717 1 = nI (stN pf a b) := g3.1
    cases pf with
    | true =>
      have l3 := hok.2.2 rfl
      rw [if_pos rfl]
      unfold fX8_proof
      rw [if_neg (nI_nle l3 (by omega)), if_neg (nI_lt_of (by omega) l1), tp_f3 hT, gI_mk hP.1.1, h.2.2.2.1, if_pos ((nI_leI (by omega) (by omega)).mpr l2), tp_f5 hT, tp_f3 hT, cV_mk ho]
      show bd (fX7_make 717 25 (bI true) (nI a) (nI b) _) _ = _
      rw [g1, bd_some, tp_f5 hT, gI_mk ho, e1]
    | false =>
      rw [if_neg (fun q => by cases q)]
      unfold fX8_path
      rw [if_neg (nI_ge0 (by omega)), if_neg (nI_lt_of (by omega) l1), tp_f3 hT, gI_mk hP.1.1, h.2.2.2.1, if_pos ((nI_leI (by omega) (by omega)).mpr l2), tp_f5 hT, tp_f3 hT, cV_mk ho]
      show bd (fX7_make 717 25 (bI false) (nI a) (nI b) _) _ = _
      rw [g1, bd_some, tp_f5 hT, gI_mk ho, e1]
set_option maxHeartbeats 4000000 in
/-- the reference: what stands behind the answer -/
theorem m_made (hT : TopAt N S R) (I : Nat → Nat → Int32) (J : Nat → Nat → Int64) (L : Lg) (tn : Nat) (tl : Nat → Nat × Int64) (nw : Nat → Nat) (et : Nat → Option Nat) (hL : LInv L) (h : MA I J L tn tl nw et) (hS : MS I) (pf : Bool) (a b : Nat) (hok : TrOk pf a b L.ne) :
    ∃ I' : Nat → Nat → Int32, (if pf = true then (cV (N, SL, S, R, u2 (u2 (u2 (u2 I 759 52 (nI (if pf = true then 2 else 1))) 759 53 (nI a)) 759 54 (nI b)) 759 55 (nI 0), J) 9 759 (fX9_down 759 (nI a) (nI b) (0 : Int32) (N, SL, S, R, u2 (u2 (u2 (u2 I 759 52 (nI (if pf = true then 2 else 1))) 759 53 (nI a)) 759 54 (nI b)) 759 55 (nI 0), J)) fun _u12 M11 => (gI M11 9 63 759 fun v13 => (if v13 = 0 then (gI M11 9 61 759 fun v14 => (gI M11 9 62 759 fun v15 => (cV M11 9 759 (fX9_tree 759 v14 v15 M11) fun _u17 M16 => (cV M16 9 759 (fX9_step 759 M16) fun _u19 M18 => fX9_proof_77 759 M18)))) else fX9_proof_77 759 M11))) else (cV (N, SL, S, R, u2 (u2 (u2 (u2 I 759 52 (nI (if pf = true then 2 else 1))) 759 53 (nI a)) 759 54 (nI b)) 759 55 (nI 0), J) 9 759 (fX9_down 759 (nI a) (nI b) (1 : Int32) (N, SL, S, R, u2 (u2 (u2 (u2 I 759 52 (nI (if pf = true then 2 else 1))) 759 53 (nI a)) 759 54 (nI b)) 759 55 (nI 0), J)) fun _u12 M11 => (cV M11 9 759 (fX9_sides 759 M11) fun _u14 M13 => (gI M13 9 55 759 fun v15 => some (v15, M13))))) = some (nI (stN pf a b), (N, SL, S, R, I', J)) ∧ MS I' ∧ TrM I' (some (pf, a, b, mkH nw L.st pf a b)) ∧ SFr I I' := by
  have hA := hT.md
  have h1 := hL.1
  have l1 := hok.1
  have l2 := hok.2.1
  have he := eO_ok hok
  obtain ⟨d1, d2, d3⟩ := tr_dn h1.2.1 hok
  obtain ⟨I0, hI0⟩ : ∃ I0, I0 = u2 (u2 (u2 (u2 I 759 52 (nI (if pf = true then 2 else 1))) 759 53 (nI a)) 759 54 (nI b)) 759 55 (nI 0) := ⟨_, rfl⟩
  rw [← hI0]
  have v52 : I0 759 52 = nI (if pf = true then 2 else 1) := by rw [hI0, u2_at, up_ne (by decide), u2_at, up_ne (by decide), u2_at, up_ne (by decide), u2_i]
  have v53 : I0 759 53 = nI a := by rw [hI0, u2_at, up_ne (by decide), u2_at, up_ne (by decide), u2_i]
  have v54 : I0 759 54 = nI b := by rw [hI0, u2_at, up_ne (by decide), u2_i]
  have v55 : I0 759 55 = nI 0 := by rw [hI0, u2_i]
  have s0 : SFr I I0 := ⟨fun c q _ _ => by rw [hI0, u2_ne q, u2_ne q, u2_ne q, u2_ne q], fun j _ hj => by rw [hI0, u2_at, up_ne (by omega), u2_at, up_ne (by omega), u2_at, up_ne (by omega), u2_at, up_ne (by omega)]⟩
  have ms0 : MS I0 := ⟨fun j hj => by rw [s0.1 790 (by omega) (by omega) (by omega)]; exact hS.1 j hj, by rw [hI0, u2_at, up_ne (by decide), u2_at, up_ne (by decide), u2_at, up_ne (by decide), u2_at, up_ne (by decide)]; exact hS.2⟩
  have hl : lfO pf (eO pf a) 0 = a := by
    unfold lfO eO
    by_cases w : pf = true
    · rw [if_pos w, if_pos w]; have := hok.2.2 w; omega
    · rw [if_neg w, if_neg w]; omega
  obtain ⟨I1, g1, g2, g3, g4, g5, g6, g7⟩ := down_M (SL := SL) hT I0 J pf (eO pf a) b he (by omega)
  rw [hl] at g1
  have s1 : SFr I I1 := s0.trans g2.sfr
  have m1 := h.sfr s1
  have ms1 : MS I1 := ⟨fun j hj => by rw [g2.1 790 (by omega) (by omega)]; exact ms0.1 j hj, by rw [g2.2 42 (by omega)]; exact ms0.2⟩
  have w52 : I1 759 52 = nI (if pf = true then 2 else 1) := by rw [g2.2 52 (by omega)]; exact v52
  have w53 : I1 759 53 = nI a := by rw [g2.2 53 (by omega)]; exact v53
  have w54 : I1 759 54 = nI b := by rw [g2.2 54 (by omega)]; exact v54
  have w55 : I1 759 55 = nI 0 := by rw [g2.2 55 (by omega)]; exact v55
  have hoN : oN pf a b ≤ 1 := by unfold oN; split <;> omega
  have fin : ∀ I2 : Nat → Nat → Int32, MS I2 → SFr I I2 → (∀ j, j ≠ 42 → j ≠ 55 → I2 759 j = I1 759 j) → (∀ c, 802 ≤ c → I2 c = I1 c) → I2 759 55 = nI (oN pf a b) → (∀ i, i < oN pf a b → ∀ j, j < 32 → I2 801 (32 * i + j) = hb (mkH nw L.st pf a b i) j) →
      ∃ I' : Nat → Nat → Int32, (cV (N, SL, S, R, I2, J) 9 759 (fX9_sides 759 (N, SL, S, R, I2, J)) fun _u14 M13 => (gI M13 9 55 759 fun v15 => some (v15, M13))) = some (nI (stN pf a b), (N, SL, S, R, I', J)) ∧ MS I' ∧ TrM I' (some (pf, a, b, mkH nw L.st pf a b)) ∧ SFr I I' := by
    intro I2 ms2 s2 z1 z2 z3 z4
    obtain ⟨I3, c1, c2, c3, c4, c5, c6⟩ := sides_loop (SL := SL) hT J L tn tl nw et hL pf a b hok (tT pf a b).length FU I2 (Nat.le_refl _) (by unfold FU; omega) (h.sfr s2) ms2 (by rw [Nat.sub_self, Nat.add_zero]; exact z3) (fun i hi => by rw [z2 802 (by omega), z2 803 (by omega), z2 804 (by omega)]; exact g7 i hi) (by rw [Nat.sub_self, Nat.add_zero]; exact z4)
    refine ⟨I3, ?_, c2, ⟨by rw [c4 52 (by decide) (by decide), z1 52 (by decide) (by decide)]; exact w52, by rw [c4 53 (by decide) (by decide), z1 53 (by decide) (by decide)]; exact w53, by rw [c4 54 (by decide) (by decide), z1 54 (by decide) (by decide)]; exact w54, c5, c6⟩, s2.trans c3⟩
    have e60 : I2 759 60 = nI (tT pf a b).length := by rw [z1 60 (by decide) (by decide)]; exact g3
    rw [md_o hA]
    unfold fX9_sides
    rw [md_g hA, e60, c1, bd_some, md_g hA, c5]
  cases pf with
  | false =>
    rw [if_neg (fun q => by cases q), md_o hA]
    show ∃ I', bd (fX9_down 759 (nI a) (nI b) (bI (!false)) _) _ = _ ∧ _
    rw [g1, bd_some]
    exact fin I1 ms1 s1 (fun _ _ _ => rfl) (fun _ _ => rfl) w55 (fun i hi => absurd hi (by unfold oN at hi; rw [if_neg (fun q => by cases q.1)] at hi; omega))
  | true =>
    rw [if_pos rfl, md_o hA]
    show ∃ I', bd (fX9_down 759 (nI a) (nI b) (bI (!true)) _) _ = _ ∧ _
    rw [g1, bd_some, md_g hA, g6]
    unfold fX9_proof_77
    show ∃ I', (if (if (tE true a b).1 = 0 then (1 : Int32) else 0) = 0 then _ else _) = _ ∧ _
    by_cases w : (tE true a b).1 = 0
    · have e0 : oN true a b = 0 := if_neg (fun q => by have := q.2; omega)
      rw [if_pos w, if_neg (show ¬ (1 : Int32) = 0 by decide)]
      exact fin I1 ms1 s1 (fun _ _ _ => rfl) (fun _ _ => rfl) (by rw [e0]; exact w55) (fun i hi => absurd hi (by omega))
    · have e0 : oN true a b = 1 := if_pos ⟨rfl, by omega⟩
      obtain ⟨I2, k1, k2, k3, k4, k5, k6, k7, k8⟩ := one_step (SL := SL) hT I1 J L hL nw m1.2.1 m1.2.2.1 ms1 (tE true a b).1 (tE true a b).2 (by omega) 0 (by omega) w55 (fun M18 => (cV M18 9 759 (fX9_sides 759 M18) fun _u14 M13 => (gI M13 9 55 759 fun v15 => some (v15, M13))))
      obtain ⟨I', x1, x2⟩ := fin I2 k2 (s1.trans k3) k4 k5 (by rw [e0]; exact k6) (fun i hi j hj => by
        have : i = 0 := by omega
        subst this
        rw [k8 j hj]
        unfold mkH
        rw [if_pos hi])
      refine ⟨I', ?_, x2⟩
      rw [if_neg w, if_pos rfl, md_g hA, g4, md_g hA, g5]
      exact k1.trans x1
theorem TrM.sfr {I I' : Nat → Nat → Int32} {tr : Tr} (h : TrM I tr) (f1 : ∀ j, 52 ≤ j → j ≤ 55 → I' 759 j = I 759 j) (f2 : I' 801 = I 801) : TrM I' tr := by
  cases tr with
  | none => unfold TrM at h ⊢; rw [f1 52 (by omega) (by omega)]; exact h
  | some v =>
    obtain ⟨pf, fr, ti, hv⟩ := v
    unfold TrM at h ⊢
    rw [f1 52 (by omega) (by omega), f1 53 (by omega) (by omega), f1 54 (by omega) (by omega), f1 55 (by omega) (by omega), f2]
    exact h
theorem pa_iff {L : Lg} (hne : L.ne ≤ 200) (x y : Int32) : ((y < 1 ∨ nI L.ne < y) ∨ (x < 0 ∨ y - 1 < x)) ↔ paNo L false x y := by
  have e1 : (1 : Int32).toInt = 1 := rfl
  have e0 : (0 : Int32).toInt = 0 := rfl
  have en : (nI L.ne).toInt = L.ne := Int32.toInt_ofNat_of_lt (by omega)
  have b1 : y.toInt < 2147483648 := Int32.toInt_lt y
  have b2 : -2147483648 ≤ x.toInt := Int32.le_toInt x
  by_cases w : y < 1
  · have w' := Int32.lt_iff_toInt_lt.mp w
    refine ⟨fun _ => Or.inl ?_, fun _ => Or.inl (Or.inl w)⟩
    by_cases z : x < 0
    · exact Or.inl z
    · have z' := Int.not_lt.mp (fun q => z (Int32.lt_iff_toInt_lt.mpr q))
      exact Or.inr (Or.inl (Int32.le_iff_toInt_le.mpr (by omega)))
  · have w' := Int.not_lt.mp (fun q => w (Int32.lt_iff_toInt_lt.mpr q))
    have ey : (y - 1).toInt = y.toInt - 1 := by rw [Int32.toInt_sub, e1, Int.bmod_eq_of_le (by omega) (by omega)]
    constructor
    · rintro ((a | a) | (a | a))
      · exact absurd a w
      · exact Or.inl (Or.inr (Or.inr a))
      · exact Or.inl (Or.inl a)
      · have a' := Int32.lt_iff_toInt_lt.mp a
        exact Or.inl (Or.inr (Or.inl (Int32.le_iff_toInt_le.mpr (by omega))))
    · rintro ((a | a | a) | a)
      · exact Or.inr (Or.inl a)
      · have a' := Int32.le_iff_toInt_le.mp a
        exact Or.inr (Or.inr (Int32.lt_iff_toInt_lt.mpr (by omega)))
      · exact Or.inl (Or.inr a)
      · cases a.1
theorem pr_iff {L : Lg} (hne : L.ne ≤ 200) (x y : Int32) : ((y < 2 ∨ nI L.ne < y) ∨ (x < 1 ∨ y - 1 < x)) ↔ paNo L true x y := by
  have e1 : (1 : Int32).toInt = 1 := rfl
  have e2 : (2 : Int32).toInt = 2 := rfl
  have e0 : (0 : Int32).toInt = 0 := rfl
  have en : (nI L.ne).toInt = L.ne := Int32.toInt_ofNat_of_lt (by omega)
  have b1 : y.toInt < 2147483648 := Int32.toInt_lt y
  have b2 : -2147483648 ≤ x.toInt := Int32.le_toInt x
  have x0 : x < 1 ↔ (x < 0 ∨ x = 0) := by
    constructor
    · intro a
      have a' := Int32.lt_iff_toInt_lt.mp a
      by_cases z : x.toInt = 0
      · exact Or.inr (Int32.toInt_inj.mp z)
      · exact Or.inl (Int32.lt_iff_toInt_lt.mpr (by omega))
    · rintro (a | a)
      · have a' := Int32.lt_iff_toInt_lt.mp a
        exact Int32.lt_iff_toInt_lt.mpr (by omega)
      · rw [a]; decide
  by_cases w : y < 2
  · have w' := Int32.lt_iff_toInt_lt.mp w
    refine ⟨fun _ => ?_, fun _ => Or.inl (Or.inl w)⟩
    by_cases z : x < 1
    · rcases x0.mp z with a | a
      · exact Or.inl (Or.inl a)
      · exact Or.inr ⟨rfl, a⟩
    · have z' := Int.not_lt.mp (fun q => z (Int32.lt_iff_toInt_lt.mpr q))
      exact Or.inl (Or.inr (Or.inl (Int32.le_iff_toInt_le.mpr (by omega))))
  · have w' := Int.not_lt.mp (fun q => w (Int32.lt_iff_toInt_lt.mpr q))
    have ey : (y - 1).toInt = y.toInt - 1 := by rw [Int32.toInt_sub, e1, Int.bmod_eq_of_le (by omega) (by omega)]
    constructor
    · rintro ((a | a) | (a | a))
      · exact absurd a w
      · exact Or.inl (Or.inr (Or.inr a))
      · rcases x0.mp a with c | c
        · exact Or.inl (Or.inl c)
        · exact Or.inr ⟨rfl, c⟩
      · have a' := Int32.lt_iff_toInt_lt.mp a
        exact Or.inl (Or.inr (Or.inl (Int32.le_iff_toInt_le.mpr (by omega))))
    · rintro ((a | a | a) | a)
      · exact Or.inr (Or.inl (x0.mpr (Or.inl a)))
      · have a' := Int32.le_iff_toInt_le.mp a
        exact Or.inr (Or.inr (Int32.lt_iff_toInt_lt.mpr (by omega)))
      · exact Or.inl (Or.inr a)
      · exact Or.inr (Or.inl (x0.mpr (Or.inr a.2)))
theorem m_trail (hT : TopAt N S R) (I : Nat → Nat → Int32) (J : Nat → Nat → Int64) (L : Lg) (tn : Nat) (tl : Nat → Nat × Int64) (nw : Nat → Nat) (et : Nat → Option Nat) (hL : LInv L) (h : MA I J L tn tl nw et) (hS : MS I) (tr : Tr) (hR : TrM I tr) (pf : Bool) (x y : Int32) :
    ∃ I' : Nat → Nat → Int32, (if pf = true then fX9_proof 759 x y (N, SL, S, R, I, J) else fX9_path 759 x y (N, SL, S, R, I, J)) = some ((aTrail L nw pf tr x y).1, (N, SL, S, R, I', J)) ∧ MS I' ∧ TrM I' (aTrail L nw pf tr x y).2 ∧ SFr I I' := by
  have h1 := hL.1
  have hA := hT.md
  have e0 : I (759 + 2) 0 = nI L.ne := h.1.1.2.1
  have r0 : ∀ K : Int32 → Option (Int32 × Mem), (gR (N, SL, S, R, I, J) 9 1 759 fun r => rI (N, SL, S, R, I, J) .int r (0 : Int32) K) = K (nI L.ne) := by
    intro K
    rw [md_f1 hA]
    show rI _ .int (759 + 2) (nI 0) _ = _
    rw [md_r2 hA (by omega), e0]
  unfold aTrail
  by_cases w : paNo L pf x y
  · rw [if_pos w]
    refine ⟨I, ?_, hS, hR, SFr.refl⟩
    cases pf with
    | true =>
      rw [if_pos rfl]
      unfold fX9_proof fX9_proof_25
      rw [r0, in_mk, bd_some]
      rcases (pr_iff h1.2.1 x y).mpr w with a | a
      · rw [if_pos a, if_pos rfl]
      · by_cases b : y < 2 ∨ nI L.ne < y
        · rw [if_pos b, if_pos rfl]
        · rw [if_neg b, if_neg (show ¬ (1 : Int32) = 0 by decide), in_mk, bd_some, if_pos a, if_pos rfl]
    | false =>
      rw [if_neg (fun q => by cases q)]
      unfold fX9_path fX9_path_25
      rw [r0, in_mk, bd_some]
      rcases (pa_iff h1.2.1 x y).mpr w with a | a
      · rw [if_pos a, if_pos rfl]
      · by_cases b : y < 1 ∨ nI L.ne < y
        · rw [if_pos b, if_pos rfl]
        · rw [if_neg b, if_neg (show ¬ (1 : Int32) = 0 by decide), in_mk, bd_some, if_pos a, if_pos rfl]
  · rw [if_neg w]
    have w1 := w
    obtain ⟨a, b, rfl, rfl, hok⟩ := tr_of h1.2.1 w
    have l1 := hok.1
    have l2 := hok.2.1
    rw [nI_clamp (by omega), nI_clamp (by omega)]
    obtain ⟨I', g1, g2, g3, g4⟩ := m_made (SL := SL) hT I J L tn tl nw et hL h hS pf a b hok
    refine ⟨I', ?_, g2, g3, g4⟩
    cases pf with
    | true =>
      rw [if_pos rfl] at g1
      rw [if_pos rfl]
      have w2 := fun q => w1 ((pr_iff h1.2.1 _ _).mp q)
      unfold fX9_proof
      rw [r0, in_mk, bd_some, if_neg (fun q => w2 (Or.inl q)), if_neg (show ¬ (1 : Int32) = 0 by decide), in_mk, bd_some, if_neg (fun q => w2 (Or.inr q)), if_neg (show ¬ (1 : Int32) = 0 by decide), md_p hA, md_p hA, md_p hA, md_p hA]
      exact g1
    | false =>
      rw [if_neg (fun q => by cases q)] at g1
      rw [if_neg (fun q => by cases q)]
      have w2 := fun q => w1 ((pa_iff h1.2.1 _ _).mp q)
      unfold fX9_path
      rw [r0, in_mk, bd_some, if_neg (fun q => w2 (Or.inl q)), if_neg (show ¬ (1 : Int32) = 0 by decide), in_mk, bd_some, if_neg (fun q => w2 (Or.inr q)), if_neg (show ¬ (1 : Int32) = 0 by decide), md_p hA, md_p hA, md_p hA, md_p hA]
      exact g1
end TrailD
