-- P3, reference: does, a kind of call each
theorem up_comm {α : Type} {f : Nat → α} {i j : Nat} {x y : α} (h : i ≠ j) : up (up f i x) j y = up (up f j y) i x := by
  funext k
  by_cases a : k = i
  · subst a
    rw [up_ne h, up_eq, up_eq]
  · by_cases c : k = j
    · subst c
      rw [up_eq, up_ne a, up_eq]
    · rw [up_ne c, up_ne a, up_ne a, up_ne c]
section RefG
variable {N SL : Nat} {S : Nat → Shp} {R : Nat → Nat → Option Nat} {m z : Nat}
theorem MRep.same {I : Nat → Nat → Int32} {J : Nat → Nat → Int64} {L L' : Lg} (h : MRep m z I J L) (e1 : L'.na = L.na) (e2 : L'.ne = L.ne) (e3 : L'.ev = L.ev) (e4 : L'.si = L.si) (e5 : L'.fl = L.fl) (e6 : L'.ba = L.ba) (e7 : L'.he = L.he) (e8 : L'.es = L.es) : MRep m z I J L' := by
  unfold MRep
  rw [e1, e2, e3, e4, e5, e6, e7, e8]
  exact h
theorem Mk.same {I : Nat → Nat → Int32} {J : Nat → Nat → Int64} {L L' : Lg} {k : Nat} (h : Mk m z I J L k) (e1 : L'.na = L.na) (e2 : L'.ne = L.ne) (e3 : L'.ev = L.ev) (e4 : L'.si = L.si) (e5 : L'.fl = L.fl) (e6 : L'.ba = L.ba) (e7 : L'.he = L.he) (e8 : L'.es = L.es) : Mk m z I J L' k := by
  unfold Mk
  rw [e1, e2, e3, e4, e5, e6, e7, e8]
  exact h
set_option maxHeartbeats 4000000 in
theorem does_post (hA : MdAt N S R m) (hz : z ≤ 1) (I : Nat → Nat → Int32) (J : Nat → Nat → Int64) (L : Lg) (hM : MRep m z I J L) (hL : LInv L) (hne : L.ne < 200) (key : Int64) (n : Nat) (lg : Nat → Nat × Int64) (e a : Int32) (v : Int64) (hc : CallOk I J m 2 key n lg e a v) (hac : ∀ k, k < n → (lg k).1 < L.na) (bb : Nat → Int64) (hb : bhR lg n 0 L.ba = some bb) :
    ∃ (I' : Nat → Nat → Int32) (J' : Nat → Nat → Int64), fX9_does m (nI z) (N, SL, S, R, I, J) = some (nI L.ne, (N, SL, S, R, I', J')) ∧ FZ m z I I' J J' ∧ (∀ l, MRep m z I' J' (mvE L bb (2, key, n, lg, -1, 0, 0) l)) ∧ I' (m + 5) z = (if 0 < L.ev ∧ L.ev ≤ L.si + 1 ∧ L.ne + 1 < 200 then 1 else 0) := by
  have h1 := hL.1
  have h8 := hc.2.2.1.2.1
  obtain ⟨y, I1, J1, a1, a2, a3, a4⟩ := doesA (SL := SL) hA hz I J L hM h1.1 hne (fun i hi => (hL.2.2.1 i hi).1.2.2.2) 2 (by decide) key n lg e a v hc hac bb hb 0 0 (fun q => absurd q (by decide))
  obtain ⟨I2, c1, c2, c3, c4⟩ := doesZ (SL := SL) hA hz I1 J1 _ a4 hne h1.2.2.1 h1.2.2.2 2 (by decide) a3.1 (nI L.ne)
  refine ⟨I2, J1, ?_, a2.trans c2, fun l => c3.same rfl rfl rfl rfl rfl rfl rfl rfl, c4⟩
  rw [a1, fX9_does_94, md_g hA, a3.2.2.1.1, if_pos ((nI_leI (by omega) (by omega)).mpr (Nat.le_refl _)), md_g hA, a3.1, if_neg (show ¬ nI 2 = (3 : Int32) by decide)]
  unfold fX9_does_196 fX9_does_252 fX9_does_285
  rw [md_g hA, md_g hA, a3.1, if_neg (show ¬ nI 2 = (4 : Int32) by decide), md_g hA, a3.1, if_neg (show ¬ nI 2 = (5 : Int32) by decide), md_g hA, a3.1, if_neg (show ¬ nI 2 = (4 : Int32) by decide), md_g hA, a3.1, if_neg (show ¬ nI 2 = (5 : Int32) by decide), md_g hA, a3.1, if_neg (show ¬ nI 2 = (6 : Int32) by decide), md_g hA, a3.1, if_neg (show ¬ nI 2 = (1 : Int32) by decide)]
  exact c1
set_option maxHeartbeats 4000000 in
theorem does_trial (hA : MdAt N S R m) (hz : z ≤ 1) (I : Nat → Nat → Int32) (J : Nat → Nat → Int64) (L : Lg) (hM : MRep m z I J L) (hL : LInv L) (hne : L.ne < 200) (lg : Nat → Nat × Int64) (e a : Int32) (v : Int64) (hc : CallOk I J m 7 0 0 lg e a v) :
    ∃ (I' : Nat → Nat → Int32) (J' : Nat → Nat → Int64), fX9_does m (nI z) (N, SL, S, R, I, J) = some (nI L.ne, (N, SL, S, R, I', J')) ∧ FZ m z I I' J J' ∧ MRep m z I' J' (trl L) ∧ I' (m + 5) z = 0 := by
  have h1 := hL.1
  have hc : CallOk I J m 7 0 0 (fun _ => (0, 0)) e a v := ⟨hc.1, hc.2.1, ⟨hc.2.2.1.1, by decide, fun k hk => absurd hk (by omega)⟩, hc.2.2.2⟩
  obtain ⟨y, I1, J1, a1, a2, a3, a4⟩ := doesA (SL := SL) hA hz I J L hM h1.1 hne (fun i hi => (hL.2.2.1 i hi).1.2.2.2) 7 (by decide) 0 0 (fun _ => (0, 0)) e a v hc (fun k hk => absurd hk (by omega)) L.ba rfl 0 0 (fun q => absurd q (by decide))
  obtain ⟨I2, c1, c2, c3, c4⟩ := doesZ (SL := SL) hA hz I1 J1 _ a4 hne h1.2.2.1 h1.2.2.2 7 (by decide) a3.1 (nI L.ne)
  refine ⟨I2, J1, ?_, a2.trans c2, c3.same rfl rfl rfl rfl rfl rfl rfl rfl, ?_⟩
  · rw [a1, fX9_does_94, md_g hA, a3.2.2.1.1, if_pos ((nI_leI (by omega) (by omega)).mpr (Nat.le_refl _)), md_g hA, a3.1, if_neg (show ¬ nI 7 = (3 : Int32) by decide)]
    unfold fX9_does_196 fX9_does_252 fX9_does_285
    rw [md_g hA, md_g hA, a3.1, if_neg (show ¬ nI 7 = (4 : Int32) by decide), md_g hA, a3.1, if_neg (show ¬ nI 7 = (5 : Int32) by decide), md_g hA, a3.1, if_neg (show ¬ nI 7 = (4 : Int32) by decide), md_g hA, a3.1, if_neg (show ¬ nI 7 = (5 : Int32) by decide), md_g hA, a3.1, if_neg (show ¬ nI 7 = (6 : Int32) by decide), md_g hA, a3.1, if_neg (show ¬ nI 7 = (1 : Int32) by decide)]
    exact c1
  · rw [c4]
    have e0 : siK 7 ((L.wba L.ba).wes (up L.es L.ne (7, 0, 0, (fun _ => (0, 0)), -1, 0, 0))).si = 0 := rfl
    rw [e0]
    exact if_neg (fun q => by omega)
set_option maxHeartbeats 4000000 in
theorem does_hold (hA : MdAt N S R m) (hz : z ≤ 1) (I : Nat → Nat → Int32) (J : Nat → Nat → Int64) (L : Lg) (hM : MRep m z I J L) (hL : LInv L) (hne : L.ne < 200) (key : Int64) (e : Int32) (a V : Nat) (hV : V < 9223372036854775808) (ha : a < L.na) (hH : L.he a + V < 18446744073709551616) (hc : CallOk I J m 3 key 0 noL e (nI a) (Int64.ofNat V)) :
    ∃ (I' : Nat → Nat → Int32) (J' : Nat → Nat → Int64), fX9_does m (nI z) (N, SL, S, R, I, J) = some (nI L.ne, (N, SL, S, R, I', J')) ∧ FZ m z I I' J J' ∧ MRep m z I' J' (holdL L key a V) ∧ I' (m + 5) z = (if 0 < L.ev ∧ L.ev ≤ L.si ∧ L.ne + 1 < 200 then 1 else 0) := by
  have h1 := hL.1
  obtain ⟨y, I1, J1, a1, a2, a3, a4⟩ := doesA (SL := SL) hA hz I J L hM h1.1 hne (fun i hi => (hL.2.2.1 i hi).1.2.2.2) 3 (by decide) key 0 noL e _ _ hc (fun k hk => absurd hk (by omega)) L.ba rfl a V (fun _ => ⟨rfl, rfl⟩)
  obtain ⟨J2, b1, b2, b3⟩ := holdM (SL := SL) hA hz I1 J1 _ _ a4 h1.1 a ha V hV 1 (Or.inl rfl) (L.he a + V) (by
    show ((L.he a + V : Nat) : Int) = (L.he a : Int) + 1 * (V : Int)
    omega) hH
  have a5 := b2.call a3
  obtain ⟨I2, c1, c2, c3, c4⟩ := doesZ (SL := SL) hA hz I1 J2 _ b3 hne h1.2.2.1 h1.2.2.2 3 (by decide) a5.1 (nI L.ne)
  refine ⟨I2, J2, ?_, (a2.trans b2).trans c2, c3.same rfl rfl rfl rfl rfl rfl rfl rfl, c4⟩
  rw [a1, fX9_does_94, md_g hA, a3.2.2.1.1, if_pos ((nI_leI (by omega) (by omega)).mpr (Nat.le_refl _)), md_g hA, a3.1, if_pos (show nI 3 = (3 : Int32) from rfl), md_g hA, a3.2.2.2.2.1, md_gJ hA, a3.2.2.2.2.2, md_o hA, b1, bd_some]
  unfold fX9_does_196 fX9_does_252 fX9_does_285
  rw [md_g hA, md_g hA, a5.1, if_neg (show ¬ nI 3 = (4 : Int32) by decide), md_g hA, a5.1, if_neg (show ¬ nI 3 = (5 : Int32) by decide), md_g hA, a5.1, if_neg (show ¬ nI 3 = (4 : Int32) by decide), md_g hA, a5.1, if_neg (show ¬ nI 3 = (5 : Int32) by decide), md_g hA, a5.1, if_neg (show ¬ nI 3 = (6 : Int32) by decide), md_g hA, a5.1, if_neg (show ¬ nI 3 = (1 : Int32) by decide)]
  exact c1
/-- the end of the hold e by the entry that is made: what RELEASE and CAPTURE do behind their legs -/
theorem doesE (hA : MdAt N S R m) (hz : z ≤ 1) (L L2 : Lg) (hL : LInv L) (hne : L.ne < 200) (e : Nat) (he : e < L.ne) (hth : thB (L.es e) = true) (e1 : L2.na = L.na) (e7 : L2.he = L.he) (e8 : ∃ x, L2.es = up L.es L.ne x) (I : Nat → Nat → Int32) (J : Nat → Nat → Int64) (hM : Mk m z I J L2 (L.ne + 1)) (kd : Nat) (hk : kd = 4 ∨ kd = 5) (h26 : I m 26 = nI kd) :
    ∃ (I' : Nat → Nat → Int32) (J' : Nat → Nat → Int64), fX9_does_224 m (nI z) (nI L.ne) (nI (200 * z + e)) (N, SL, S, R, I, J) = fX9_does_285 m (nI z) (nI L.ne) (N, SL, S, R, I', J') ∧ FZ m z I I' J J' ∧ Mk m z I' J' ((L2.whe (up L.he (L.es e).ha (L.he (L.es e).ha - (L.es e).hm))).wes (up L2.es e ((L.es e).kd, (L.es e).ky, (L.es e).nl, (L.es e).lg, nI L.ne, (L.es e).ha, (L.es e).hm))) (L.ne + 1) := by
  have h1 := hL.1
  have hkd := thB_kd hth
  have hE := (hL.2.2.1 e he).2.2 hkd.1
  have hge := hs_ge hth L.ne he
  rw [← (hL.2.2.2.1 _ hE.2.2.1).2] at hge
  have hlt := he_lt hL hE.2.2.1
  obtain ⟨x, e8⟩ := e8
  have ee : L2.es e = L.es e := by rw [e8, up_ne (by omega)]
  have o := hM.2.2 e (by omega)
  rw [ee] at o
  have o3 := o.2.2.1 hkd.1
  obtain ⟨J2, b1, b2, b3⟩ := holdM (SL := SL) hA hz I J L2 _ hM (by omega) (L.es e).ha (by omega) (L.es e).hm hE.2.2.2.2.1 (-1) (Or.inr rfl) (L.he (L.es e).ha - (L.es e).hm) (by
    rw [e7]
    show ((L.he (L.es e).ha - (L.es e).hm : Nat) : Int) = (L.he (L.es e).ha : Int) + (-1) * ((L.es e).hm : Int)
    omega) (by omega)
  rw [e7] at b3
  refine ⟨u2 (u2 I (m + 17) (200 * z + e) 0) (m + 18) (200 * z + e) (nI L.ne), J2, ?_, (b2.wI (own_e (by omega) (by omega) (by omega) (by omega) (by omega))).wI (own_e (by omega) (by omega) (by omega) (by omega) (by omega)), ?_⟩
  · have k26 : u2 I (m + 17) (200 * z + e) 0 m 26 = nI kd := by rw [u2_ne (by omega)]; exact h26
    have fin : fX9_does_277 m (nI z) (nI L.ne) (nI (200 * z + e)) (N, SL, S, R, u2 I (m + 17) (200 * z + e) 0, J2) = fX9_does_285 m (nI z) (nI L.ne) (N, SL, S, R, u2 (u2 I (m + 17) (200 * z + e) 0) (m + 18) (200 * z + e) (nI L.ne), J2) := by
      unfold fX9_does_277
      rw [md_f17 hA, md_w18 hA (by omega)]
    unfold fX9_does_224 fX9_does_252
    rw [md_f14 hA, md_r15 hA (by omega), o3.1, md_f15 hA, md_r16 hA (by omega), o3.2, md_o hA, b1, bd_some, md_f16 hA, md_w17 hA (by omega), nar_b0, md_g hA, k26]
    rcases hk with hk | hk
    · rw [if_pos (show nI kd = (4 : Int32) by rw [hk]; rfl)]; exact fin
    · rw [if_neg (show ¬ nI kd = (4 : Int32) by rw [hk]; decide), md_g hA, k26, if_pos (show nI kd = (5 : Int32) by rw [hk]; rfl)]; exact fin
  · have h := endM (f := e) b3 (by omega) (nI L.ne) (thB_no (Or.inr (nI_n1 L.ne (by omega)))) (u2 (u2 I (m + 17) (200 * z + e) 0) (m + 18) (200 * z + e) (nI L.ne)) (fun c q1 q2 => by rw [u2_ne q2, u2_ne q1]) (fun i hi => ⟨by rw [u2_o (by omega), u2_o (by omega)], by rw [u2_o (by omega), u2_o (by omega)]⟩) (by rw [u2_o (by omega), u2_i]) u2_i
    have ee2 : (L2.whe (up L.he (L.es e).ha (L.he (L.es e).ha - (L.es e).hm))).es e = L.es e := ee
    rw [ee2] at h
    exact h
set_option maxHeartbeats 4000000 in
theorem does_rel (hA : MdAt N S R m) (hz : z ≤ 1) (I : Nat → Nat → Int32) (J : Nat → Nat → Int64) (L : Lg) (hM : MRep m z I J L) (hL : LInv L) (hne : L.ne < 200) (e : Nat) (he : e < L.ne) (hth : thB (L.es e) = true) (a : Int32) (v : Int64) (hc : CallOk I J m 4 0 0 noL (nI e) a v) :
    ∃ (I' : Nat → Nat → Int32) (J' : Nat → Nat → Int64), fX9_does m (nI z) (N, SL, S, R, I, J) = some (nI L.ne, (N, SL, S, R, I', J')) ∧ FZ m z I I' J J' ∧ (∀ l, MRep m z I' J' (app (L.ends e (nI L.ne)) (4, 0, 0, noL, -1, 0, 0) l)) ∧ I' (m + 5) z = (if 0 < L.ev ∧ L.ev ≤ L.si ∧ L.ne + 1 < 200 then 1 else 0) := by
  have h1 := hL.1
  obtain ⟨y, I1, J1, a1, a2, a3, a4⟩ := doesA (SL := SL) hA hz I J L hM h1.1 hne (fun i hi => (hL.2.2.1 i hi).1.2.2.2) 4 (by decide) 0 0 noL _ a v hc (fun k hk => absurd hk (by omega)) L.ba rfl 0 0 (fun q => absurd q (by decide))
  obtain ⟨I3, J3, b1, b2, b3⟩ := doesE (SL := SL) hA hz L ((L.wba L.ba).wes (up L.es L.ne (4, 0, 0, noL, -1, 0, 0))) hL hne e he hth rfl rfl ⟨_, rfl⟩ I1 J1 a4 4 (Or.inl rfl) a3.1
  have a5 := b2.call a3
  obtain ⟨I2, c1, c2, c3, c4⟩ := doesZ (SL := SL) hA hz I3 J3 _ b3 hne h1.2.2.1 h1.2.2.2 4 (by decide) a5.1 (nI L.ne)
  refine ⟨I2, J3, ?_, (a2.trans b2).trans c2, fun l => c3.same rfl rfl rfl rfl rfl rfl rfl (up_comm (show e ≠ L.ne by omega)), c4⟩
  rw [a1, fX9_does_94, md_g hA, a3.2.2.1.1, if_pos ((nI_leI (by omega) (by omega)).mpr (Nat.le_refl _)), md_g hA, a3.1, if_neg (show ¬ nI 4 = (3 : Int32) by decide)]
  unfold fX9_does_196
  rw [md_g hA, a3.2.2.2.1, md_g hA, a3.1, if_pos (show nI 4 = (4 : Int32) from rfl), show (200 : Int32) = nI 200 from rfl, nI_mul, nI_add, b1]
  unfold fX9_does_285
  rw [md_g hA, a5.1, if_neg (show ¬ nI 4 = (1 : Int32) by decide)]
  exact c1
set_option maxHeartbeats 4000000 in
theorem does_cap (hA : MdAt N S R m) (hz : z ≤ 1) (I : Nat → Nat → Int32) (J : Nat → Nat → Int64) (L : Lg) (hM : MRep m z I J L) (hL : LInv L) (hne : L.ne < 200) (key : Int64) (n : Nat) (lg : Nat → Nat × Int64) (e : Nat) (he : e < L.ne) (hth : thB (L.es e) = true) (a : Int32) (v : Int64) (hc : CallOk I J m 5 key n lg (nI e) a v) (hac : ∀ k, k < n → (lg k).1 < L.na) (bb : Nat → Int64) (hb : bhR lg n 0 L.ba = some bb) :
    ∃ (I' : Nat → Nat → Int32) (J' : Nat → Nat → Int64), fX9_does m (nI z) (N, SL, S, R, I, J) = some (nI L.ne, (N, SL, S, R, I', J')) ∧ FZ m z I I' J J' ∧ (∀ l, MRep m z I' J' (mvE (L.ends e (nI L.ne)) bb (5, key, n, lg, -1, 0, 0) l)) ∧ I' (m + 5) z = (if 0 < L.ev ∧ L.ev ≤ L.si + 1 ∧ L.ne + 1 < 200 then 1 else 0) := by
  have h1 := hL.1
  have h8 := hc.2.2.1.2.1
  obtain ⟨y, I1, J1, a1, a2, a3, a4⟩ := doesA (SL := SL) hA hz I J L hM h1.1 hne (fun i hi => (hL.2.2.1 i hi).1.2.2.2) 5 (by decide) key n lg _ a v hc hac bb hb 0 0 (fun q => absurd q (by decide))
  obtain ⟨I3, J3, b1, b2, b3⟩ := doesE (SL := SL) hA hz L ((L.wba bb).wes (up L.es L.ne (5, key, n, lg, -1, 0, 0))) hL hne e he hth rfl rfl ⟨_, rfl⟩ I1 J1 a4 5 (Or.inr rfl) a3.1
  have a5 := b2.call a3
  obtain ⟨I2, c1, c2, c3, c4⟩ := doesZ (SL := SL) hA hz I3 J3 _ b3 hne h1.2.2.1 h1.2.2.2 5 (by decide) a5.1 (nI L.ne)
  refine ⟨I2, J3, ?_, (a2.trans b2).trans c2, fun l => c3.same rfl rfl rfl rfl rfl rfl rfl (up_comm (show e ≠ L.ne by omega)), c4⟩
  rw [a1, fX9_does_94, md_g hA, a3.2.2.1.1, if_pos ((nI_leI (by omega) (by omega)).mpr (Nat.le_refl _)), md_g hA, a3.1, if_neg (show ¬ nI 5 = (3 : Int32) by decide)]
  unfold fX9_does_196
  rw [md_g hA, a3.2.2.2.1, md_g hA, a3.1, if_neg (show ¬ nI 5 = (4 : Int32) by decide), md_g hA, a3.1, if_pos (show nI 5 = (5 : Int32) from rfl), show (200 : Int32) = nI 200 from rfl, nI_mul, nI_add, b1]
  unfold fX9_does_285
  rw [md_g hA, a5.1, if_neg (show ¬ nI 5 = (1 : Int32) by decide)]
  exact c1
set_option maxHeartbeats 4000000 in
theorem does_rev (hA : MdAt N S R m) (hz : z ≤ 1) (I : Nat → Nat → Int32) (J : Nat → Nat → Int64) (L : Lg) (hM : MRep m z I J L) (hL : LInv L) (hne : L.ne < 200) (key : Int64) (n : Nat) (lg : Nat → Nat × Int64) (e : Nat) (he : e < L.ne) (hnl : (L.es e).nl ≠ 0) (a : Int32) (v : Int64) (hc : CallOk I J m 6 key n lg (nI e) a v) (hac : ∀ k, k < n → (lg k).1 < L.na) (bb : Nat → Int64) (hb : bhR lg n 0 L.ba = some bb) :
    ∃ (I' : Nat → Nat → Int32) (J' : Nat → Nat → Int64), fX9_does m (nI z) (N, SL, S, R, I, J) = some (nI L.ne, (N, SL, S, R, I', J')) ∧ FZ m z I I' J J' ∧ (∀ l, MRep m z I' J' (mvE (L.revd e (nI L.ne)) bb (6, key, n, lg, -1, 0, 0) l)) ∧ I' (m + 5) z = (if 0 < L.ev ∧ L.ev ≤ L.si + 1 ∧ L.ne + 1 < 200 then 1 else 0) := by
  have h1 := hL.1
  have h8 := hc.2.2.1.2.1
  have h3 : (L.es e).kd ≠ 3 := fun q => hnl ((hL.2.2.1 e he).2.2 q).2.2.2.2.2
  obtain ⟨y, I1, J1, a1, a2, a3, a4⟩ := doesA (SL := SL) hA hz I J L hM h1.1 hne (fun i hi => (hL.2.2.1 i hi).1.2.2.2) 6 (by decide) key n lg _ a v hc hac bb hb 0 0 (fun q => absurd q (by decide))
  have ee : ((L.wba bb).wes (up L.es L.ne (6, key, n, lg, -1, 0, 0))).es e = L.es e := up_ne (by omega)
  have o := a4.2.2 e (by omega)
  rw [ee] at o
  have b3 := endM (f := e) a4 (by omega) (nI L.ne) (by rw [ee]; exact thB_no (Or.inl h3)) (u2 I1 (m + 18) (200 * z + e) (nI L.ne)) (fun c q1 q2 => u2_ne q2) (fun i hi => ⟨by rw [u2_o (by omega)], by rw [u2_o (by omega)]⟩) (by rw [u2_o (by omega), o.2.2.2.1, thB_no (Or.inl h3), if_neg (fun q => by cases q)]) u2_i
  rw [ee] at b3
  have b2 : FZ m z I1 (u2 I1 (m + 18) (200 * z + e) (nI L.ne)) J1 J1 := FZ.refl.wI (own_e (by omega) (by omega) (by omega) (by omega) (by omega))
  have a5 := b2.call a3
  obtain ⟨I2, c1, c2, c3, c4⟩ := doesZ (SL := SL) hA hz _ J1 _ b3 hne h1.2.2.1 h1.2.2.2 6 (by decide) a5.1 (nI L.ne)
  refine ⟨I2, J1, ?_, (a2.trans b2).trans c2, fun l => c3.same rfl rfl rfl rfl rfl rfl rfl (up_comm (show e ≠ L.ne by omega)), c4⟩
  rw [a1, fX9_does_94, md_g hA, a3.2.2.1.1, if_pos ((nI_leI (by omega) (by omega)).mpr (Nat.le_refl _)), md_g hA, a3.1, if_neg (show ¬ nI 6 = (3 : Int32) by decide)]
  unfold fX9_does_196 fX9_does_252 fX9_does_277
  rw [md_g hA, a3.2.2.2.1, md_g hA, a3.1, if_neg (show ¬ nI 6 = (4 : Int32) by decide), md_g hA, a3.1, if_neg (show ¬ nI 6 = (5 : Int32) by decide), md_g hA, a3.1, if_neg (show ¬ nI 6 = (4 : Int32) by decide), md_g hA, a3.1, if_neg (show ¬ nI 6 = (5 : Int32) by decide), md_g hA, a3.1, if_pos (show nI 6 = (6 : Int32) from rfl), show (200 : Int32) = nI 200 from rfl, nI_mul, nI_add, md_f17 hA, md_w18 hA (by omega)]
  unfold fX9_does_285
  rw [md_g hA, a5.1, if_neg (show ¬ nI 6 = (1 : Int32) by decide)]
  exact c1
end RefG
