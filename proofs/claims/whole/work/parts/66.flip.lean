-- P4, class: flip
theorem nI_xor (a c : Nat) : nI a ^^^ nI c = nI (a ^^^ c) := by
  rw [← Int32.toBitVec_inj, Int32.toBitVec_xor]
  show BitVec.ofNat 32 a ^^^ BitVec.ofNat 32 c = BitVec.ofNat 32 (a ^^^ c)
  exact (BitVec.ofNat_xor ..).symm
theorem nb_xor (a c : Nat) : nb (nb (nI a) ^^^ nI c) = nb (nI (a ^^^ c)) := by
  apply nb_ext
  rw [← nI_xor]
  have h := nb_mask (nI a)
  refine b_ext fun i hi => ?_
  have hb : bt (nb (nI a) &&& 255) i = bt (nI a &&& 255) i := by rw [h]
  rw [b_and, b_and, b_255] at hb
  rw [b_and, b_and, b_xor, b_xor, b_255]
  by_cases q : i < 8
  · rw [decide_eq_true q, Bool.and_true, Bool.and_true] at *
    rw [hb]
  · rw [decide_eq_false q, Bool.and_false, Bool.and_false]
theorem xor_lt {a c : Nat} (ha : a < 256) (hc : c < 256) : a ^^^ c < 256 := Nat.xor_lt_two_pow (n := 8) ha hc
theorem shr_v : ∀ v, v < 456 → ∀ l, l < 9 → xshr (nI v) (nI l) = nI (v / 2 ^ l) := by decide +kernel
theorem node_ix (e l : Nat) (hl : l ≤ 8) : (256 + e) / 2 ^ l = 2 ^ (8 - l) + e / 2 ^ l := by
  have h : 256 = 2 ^ (8 - l) * 2 ^ l := by rw [← Nat.pow_add, show 8 - l + l = 8 by omega]
  rw [h, Nat.add_comm, Nat.add_mul_div_right _ _ (Nat.two_pow_pos l), Nat.add_comm]
section FlipC
variable {N SL : Nat} {S : Nat → Shp} {R : Nat → Nat → Option Nat} {p b : Nat}
theorem flip_loop (hA : PgAt N S R p) (J : Nat → Nat → Int64) (e : Nat) (he : e < 200) : ∀ (q l fuel : Nat) (I : Nat → Nat → Int32), l + q = 9 → q < fuel →
    ∃ I' : Nat → Nat → Int32, fX5_flip_36 fuel p (nI e) (nI l) (N, SL, S, R, I, J) = some ((), (N, SL, S, R, I', J)) ∧ (∀ c, c ≠ p + 666 → I' c = I c) ∧ ∀ v, I' (p + 666) v ≠ 0 → I (p + 666) v ≠ 0 ∧ ∀ k, l ≤ k → k < 9 → v ≠ (256 + e) / 2 ^ k
  | 0, l, fuel, I, hl, hf => by
    obtain ⟨y, rfl⟩ : ∃ y, fuel = y + 1 := ⟨fuel - 1, by omega⟩
    have : l = 9 := by omega
    subst this
    exact ⟨I, by rw [fX5_flip_36, if_pos (by decide)], fun _ _ => rfl, fun v hv => ⟨hv, fun k a1 a2 => absurd a1 (by omega)⟩⟩
  | q + 1, l, fuel, I, hl, hf => by
    obtain ⟨y, rfl⟩ : ∃ y, fuel = y + 1 := ⟨fuel - 1, by omega⟩
    have hA' := hA
    obtain ⟨⟨ho, hlN, hsha⟩, ⟨r0, r1, r3, r4, r6, r7⟩, ⟨s1, s2, s7, s209, s666⟩, hch, hnd⟩ := hA
    have hv : (256 + e) / 2 ^ l < 456 := Nat.lt_of_le_of_lt (Nat.div_le_self _ _) (by omega)
    have hns := ho.2.1
    obtain ⟨I', g1, g2, g3⟩ := flip_loop hA' J e he q (l + 1) y (u2 I (p + 666) ((256 + e) / 2 ^ l) 0) (by omega) (by omega)
    refine ⟨I', ?_, fun c hc => by rw [g2 c hc, u2_ne hc], fun v hv' => ?_⟩
    · rw [fX5_flip_36, if_neg (show ¬ (8 : Int32) < nI l from nI_nlt (a := 8) (by omega) (by decide)), gR_mk ho r7, show (256 : Int32) = nI 256 from rfl, nI_add, shr_v (256 + e) (by omega) l (by omega), wI_mk (by omega) (by omega) s666 hv (by decide), nar_b0, nI_1]
      exact g1
    · obtain ⟨o1, o2⟩ := g3 v hv'
      rw [u2_at] at o1
      have hne : v ≠ (256 + e) / 2 ^ l := fun w => by rw [w, up_eq] at o1; exact o1 rfl
      rw [up_ne hne] at o1
      refine ⟨o1, fun k a1 a2 => ?_⟩
      by_cases w : k = l
      · rw [w]; exact hne
      · exact o2 k (by omega) a2
set_option maxHeartbeats 4000000 in
/-- flip(i, mask) -/
theorem flip_C (hA : PgAt N S R p) (I : Nat → Nat → Int32) (J : Nat → Nat → Int64) (L : Lg) (hL : LInv L) (nw : Nat → Nat) (hP : PgOk p I L.ne L.st nw) (i mask : Nat) (hi : i < L.st L.ne) (hm : mask < 256) :
    ∃ I' : Nat → Nat → Int32, fX5_flip p (nI i) (nI mask) (N, SL, S, R, I, J) = some ((), (N, SL, S, R, I', J)) ∧ PgOk p I' L.ne L.st (up nw i (nw i ^^^ mask)) ∧ ∀ c, c ≠ p → c ≠ p + 1 → c ≠ p + 666 → I' c = I c := by
  have hA' := hA
  obtain ⟨⟨ho, hlN, hsha⟩, ⟨r0, r1, r3, r4, r6, r7⟩, ⟨s1, s2, s7, s209, s666⟩, hch, hnd⟩ := hA
  have hns := ho.2.1
  have hnS : nS = 3 := rfl
  have h1 := hL.1
  obtain ⟨p2, pn, pN, ch, c1, c2, c3⟩ := hP
  have hst := LInv.st_le hL L.ne (Nat.le_refl _)
  have hne : 0 < L.ne := by
    by_cases w : L.ne = 0
    · rw [w, hL.2.1.1] at hi; omega
    · omega
  obtain ⟨I1, hI1⟩ : ∃ I1, I1 = u2 I (p + 1) i (nb (nI (nw i ^^^ mask))) := ⟨_, rfl⟩
  have f1 : ∀ c, c ≠ p + 1 → I1 c = I c := fun c hc => by rw [hI1, u2_ne hc]
  have st1 : StOk I1 p L.st L.ne := ⟨fun i hi => by rw [f1 _ (by omega)]; exact pN.1.1 i hi, pN.1.2⟩
  obtain ⟨e, e1, e2, e3, e4⟩ := entryWith_spec (SL := SL) hA' I1 J L.st L.ne hne h1.2.1 (by rw [f1 _ (by omega)]; exact p2) st1 hL.2.1.1 i hi (by omega)
  obtain ⟨I2, hI2⟩ : ∃ I2, I2 = u2 I1 p 5 (nI (Nat.min ch e)) := ⟨_, rfl⟩
  obtain ⟨I3, g1, g2, g3⟩ := flip_loop (SL := SL) hA' J e (by omega) 9 0 FU I2 rfl (by decide)
  have f3 : ∀ c, c ≠ p → c ≠ p + 1 → c ≠ p + 666 → I3 c = I c := fun c a1 a2 a3 => by rw [g2 c a3, hI2, u2_ne a1, f1 c a2]
  have row : ∀ k, I3 (p + 1) k = up (I (p + 1)) i (nb (nI (nw i ^^^ mask))) k := fun k => by rw [g2 _ (by omega), hI2, u2_ne (by omega), hI1, u2_at]
  have by_ : ∀ j, j < L.ne → j ≠ e → byP (I3 (p + 1)) L.st j = byP (I (p + 1)) L.st j := fun j hj hje => byP_congr rfl rfl (fun k a1 a2 => by
    rw [row k, up_ne]
    intro w
    rw [w] at a1 a2
    by_cases q : j < e
    · have := LInv.st_mono hL (j + 1) (e - (j + 1)) (by omega)
      rw [show j + 1 + (e - (j + 1)) = e by omega] at this
      omega
    · have := LInv.st_mono hL (e + 1) (j - (e + 1)) (by omega)
      rw [show e + 1 + (j - (e + 1)) = j by omega] at this
      omega)
  have emin : imin (nI ch) (nI e) = nI (Nat.min ch e) := by
    unfold imin
    by_cases q : e < ch
    · rw [if_pos (nI_lt q (by omega)), show Nat.min ch e = e from Nat.min_eq_right (by omega)]
    · rw [if_neg (nI_nlt (by omega) (by omega)), show Nat.min ch e = ch from Nat.min_eq_left (by omega)]
  refine ⟨I3, ?_, ⟨?_, fun k hk => ?_, ⟨⟨fun i hi => by rw [f3 _ (by omega) (by omega) (by omega)]; exact pN.1.1 i hi, pN.1.2⟩, ⟨fun j hj => by rw [f3 1 (by omega) (by omega) (by omega)]; exact pN.2.1.1 j hj, fun j hj => by rw [f3 0 (by omega) (by omega) (by omega)]; exact pN.2.1.2 j hj⟩, fun h pos hh hpos hv hk => ?_⟩, Nat.min ch e, Nat.le_trans (Nat.min_le_left _ _) c1, ?_, fun a ha j hj => ?_⟩, f3⟩
  · unfold fX5_flip
    rw [gR_mk ho r0, gR_mk ho r0, rI_mk (by omega) s1 (by omega) (by decide), pn i hi, wI_mk (by omega) (by omega) s1 (by omega) (by decide)]
    rw [show vp_nar .byte (nb (nI (nw i)) ^^^ nI mask).toInt8.toInt32 = nb (nI (nw i ^^^ mask)) from nb_xor _ _, ← hI1, cV_mk ho, e1, bd_some, gI_mk ho, f1 p (by omega), c2, emin, pI_mk ho, ← hI2]
    exact g1
  · rw [g2 _ (by omega), hI2, u2_at, up_ne (by decide), f1 _ (by omega)]; exact p2
  · rw [row k]
    by_cases w : k = i
    · rw [w, up_eq, up_eq]
    · rw [up_ne w, up_ne w]; exact pn k hk
  · obtain ⟨k1, k2⟩ := g3 _ hk
    rw [hI2, u2_ne (by omega), f1 _ (by omega)] at k1
    obtain ⟨o1, o2⟩ := pN.2.2 h pos hh hpos hv k1
    refine ⟨fun j hj => ?_, o2⟩
    have e2' : (pos + 1) * 2 ^ h = pos * 2 ^ h + 2 ^ h := by rw [Nat.add_mul, Nat.one_mul]
    have hpe : pos ≠ e / 2 ^ h := fun w => k2 h (by omega) (by omega) (by rw [node_ix e h hh, w])
    rw [f3 _ (by omega) (by omega) (by omega), o1 j hj, ct_congr (f := lfC (I (p + 1)) L.st) (g := lfC (I3 (p + 1)) L.st) h (pos * 2 ^ h) (fun j a1 a2 => by
      unfold lfC
      rw [by_ j (by omega) (fun w => hpe (by
        rw [← w]
        exact (Nat.div_eq_of_lt_le a1 (by rw [e2']; exact a2)).symm))])]
  · rw [g2 _ (by omega), hI2, u2_i]
  · have hle : a ≤ ch := Nat.le_trans ha (Nat.min_le_left _ _)
    have hle2 : a ≤ e := Nat.le_trans ha (Nat.min_le_right _ _)
    rw [f3 _ (by omega) (by omega) (by omega), c3 a hle j hj, ch_congr (f := byP (I (p + 1)) L.st) (g := byP (I3 (p + 1)) L.st) a (fun j hj => (by_ j (by omega) (by omega)).symm)]
end FlipC
