-- P3, reference: the calls that make entries, in the open
section RefJ
variable {N SL : Nat} {S : Nat → Shp} {R : Nat → Nat → Option Nat} {m z : Nat}
theorem in_mk (x a b : Int32) (M : Mem) : fX9_in x a b M = some (if x < a ∨ b < x then 0 else 1, M) := by
  unfold fX9_in fX9_in_14 fX9_in_15
  by_cases q : x < a
  · rw [if_pos q, if_pos (Or.inl q), retZ_0]
  · rw [if_neg q]
    by_cases w : b < x
    · rw [if_pos w, if_pos (Or.inr w), retZ_0]
    · rw [if_neg w, if_neg (fun z => z.elim q w), retZ_1]
theorem ent199 (x : Int32) : (x < 0 ∨ 199 < x) ↔ (x < 0 ∨ 200 ≤ x) := by
  have e1 : (199 : Int32).toInt = 199 := rfl
  have e2 : (200 : Int32).toInt = 200 := rfl
  rw [Int32.lt_iff_toInt_lt (x := 199), Int32.le_iff_toInt_le (x := 200), e1, e2]
  constructor
  · rintro (h | h)
    · exact Or.inl h
    · exact Or.inr (by omega)
  · rintro (h | h)
    · exact Or.inl h
    · exact Or.inr (by omega)
/-- nothing has been done -/
theorem RTo.none' {I : Nat → Nat → Int32} {J : Nat → Nat → Int64} {nw : Nat → Nat} {L : Lg} (hM : MRep m 0 I J L) (hB : MBy m I L) (hD : DaOk m I nw (L.st L.ne)) (x : Int32) : RTo N SL S R m I J nw (L.st L.ne) (some (x, (N, SL, S, R, I, J))) (x, L) :=
  ⟨I, J, rfl, hM, hB, fun k hk => by
    unfold nwU
    rw [if_pos (show k < L.st L.ne from hk)]
    exact hD k hk, OF.refl⟩
set_option maxHeartbeats 4000000 in
theorem does_open (hA : MdAt N S R m) (hz : z ≤ 1) (I : Nat → Nat → Int32) (J : Nat → Nat → Int64) (L : Lg) (hM : MRep m z I J L) (hL : LInv L) (hne : L.ne < 200) (hna : L.na < 40) (f : Int64) (e a : Int32) (hc : CallOk I J m 1 0 0 noL e a f) :
    ∃ (I' : Nat → Nat → Int32) (J' : Nat → Nat → Int64), fX9_does m (nI z) (N, SL, S, R, I, J) = some (nI L.ne, (N, SL, S, R, I', J')) ∧ FZ m z I I' J J' ∧ MRep m z I' J' (openL L f) ∧ I' (m + 5) z = (if 0 < L.ev ∧ L.ev ≤ L.si ∧ L.ne + 1 < 200 then 1 else 0) := by
  have h1 := hL.1
  obtain ⟨y, I1, J1, a1, a2, a3, a4⟩ := doesA (SL := SL) hA hz I J L hM h1.1 hne (fun i hi => (hL.2.2.1 i hi).1.2.2.2) 1 (by decide) 0 0 noL e a f hc (fun k hk => absurd hk (by omega)) L.ba rfl 0 0 (fun q => absurd q (by decide))
  have n1 : I1 (m + 1) z = nI L.na := a4.1.1
  obtain ⟨I3, hI3⟩ : ∃ I3, I3 = u2 I1 (m + 1) z (nI (L.na + 1)) := ⟨_, rfl⟩
  obtain ⟨J3, hJ3⟩ : ∃ J3, J3 = u2 (u2 (u2 (u2 J1 (m + 6) (40 * z + L.na) f) (m + 7) (40 * z + L.na) 0) (m + 8) (40 * z + L.na) 0) (m + 9) (40 * z + L.na) 0 := ⟨_, rfl⟩
  have b2 : FZ m z I1 I3 J1 J3 := by
    rw [hI3, hJ3]
    exact ((((FZ.refl.wI (own_n (by omega) (by omega))).wJ (own_a (by omega) (by omega) hna)).wJ (own_a (by omega) (by omega) hna)).wJ (own_a (by omega) (by omega) hna)).wJ (own_a (by omega) (by omega) hna)
  have b3 : Mk m z I3 J3 ((L.na + 1, L.ne, L.ev, L.si, L.hc), up L.fl L.na f, up L.ba L.na 0, up L.he L.na 0, up L.es L.ne (1, 0, 0, noL, -1, 0, 0), L.yb, L.st) (L.ne + 1) := by
    refine ⟨?_, fun c hc => ?_, fun i hi => ?_⟩
    · rw [hI3, u2_i, u2_ne (by omega), u2_ne (by omega), u2_ne (by omega)]
      exact ⟨rfl, a4.1.2⟩
    · have hc' : c < L.na + 1 := hc
      show MAcc m z J3 (up L.fl L.na f c) (up L.ba L.na 0 c) (up L.he L.na 0 c) c
      unfold MAcc
      rw [hJ3]
      by_cases w : c = L.na
      · rw [w, up_eq, up_eq, up_eq, u2_o (by omega), u2_o (by omega), u2_o (by omega), u2_i, u2_o (by omega), u2_o (by omega), u2_i, u2_o (by omega), u2_i, u2_i]
        exact ⟨rfl, rfl, by decide, by decide, by decide, by decide, rfl⟩
      · have o := a4.2.1 c (show c < L.na by omega)
        unfold MAcc at o
        rw [up_ne w, up_ne w, up_ne w]
        rw [u2_o (show ¬ (m + 6 = m + 9 ∧ _) by omega), u2_o (show ¬ (m + 6 = m + 8 ∧ _) by omega), u2_o (show ¬ (m + 6 = m + 7 ∧ _) by omega), u2_o (show ¬ (m + 6 = m + 6 ∧ _) by omega), u2_o (show ¬ (m + 7 = m + 9 ∧ _) by omega), u2_o (show ¬ (m + 7 = m + 8 ∧ _) by omega), u2_o (show ¬ (m + 7 = m + 7 ∧ _) by omega), u2_o (show ¬ (m + 7 = m + 6 ∧ _) by omega), u2_o (show ¬ (m + 8 = m + 9 ∧ _) by omega), u2_o (show ¬ (m + 8 = m + 8 ∧ _) by omega), u2_o (show ¬ (m + 8 = m + 7 ∧ _) by omega), u2_o (show ¬ (m + 8 = m + 6 ∧ _) by omega), u2_o (show ¬ (m + 9 = m + 9 ∧ _) by omega), u2_o (show ¬ (m + 9 = m + 8 ∧ _) by omega), u2_o (show ¬ (m + 9 = m + 7 ∧ _) by omega), u2_o (show ¬ (m + 9 = m + 6 ∧ _) by omega)]
        exact o
    · have o := a4.2.2 i hi
      show MEnt m z I3 J3 (up L.es L.ne (1, 0, 0, noL, -1, 0, 0) i) i
      unfold MEnt
      have hI : ∀ c, m + 10 ≤ c → I3 c = I1 c := fun c hc => by rw [hI3, u2_ne (by omega)]
      have hJ : ∀ c, m + 10 ≤ c → J3 c = J1 c := fun c hc => by rw [hJ3, u2_ne (by omega), u2_ne (by omega), u2_ne (by omega), u2_ne (by omega)]
      rw [hI (m + 10) (by omega), hI (m + 12) (by omega), hI (m + 13) (by omega), hI (m + 15) (by omega), hI (m + 17) (by omega), hI (m + 18) (by omega), hJ (m + 11) (by omega), hJ (m + 14) (by omega), hJ (m + 16) (by omega)]
      exact o
  have a5 := b2.call a3
  obtain ⟨I2, c1, c2, c3, c4⟩ := doesZ (SL := SL) hA hz I3 J3 _ b3 hne h1.2.2.1 h1.2.2.2 1 (by decide) a5.1 (nI L.ne)
  refine ⟨I2, J3, ?_, (a2.trans b2).trans c2, c3.same rfl rfl rfl rfl rfl rfl rfl rfl, c4⟩
  rw [a1, fX9_does_94, md_g hA, a3.2.2.1.1, if_pos ((nI_leI (by omega) (by omega)).mpr (Nat.le_refl _)), md_g hA, a3.1, if_neg (show ¬ nI 1 = (3 : Int32) by decide)]
  unfold fX9_does_196 fX9_does_252 fX9_does_285
  rw [md_g hA, md_g hA, a3.1, if_neg (show ¬ nI 1 = (4 : Int32) by decide), md_g hA, a3.1, if_neg (show ¬ nI 1 = (5 : Int32) by decide), md_g hA, a3.1, if_neg (show ¬ nI 1 = (4 : Int32) by decide), md_g hA, a3.1, if_neg (show ¬ nI 1 = (5 : Int32) by decide), md_g hA, a3.1, if_neg (show ¬ nI 1 = (6 : Int32) by decide), md_g hA, a3.1, if_pos (show nI 1 = (1 : Int32) from rfl)]
  rw [md_f5 hA, md_f0 hA, md_r1 hA (by omega), n1, md_gJ hA, a3.2.2.2.2.2, show (40 : Int32) = nI 40 from rfl, nI_mul, nI_add, md_w6 hA (by omega), md_f6 hA, md_f0 hA, md_r1 hA (by omega), n1, nI_add, md_w7 hA (by omega), md_f7 hA, md_f0 hA, md_r1 hA (by omega), n1, nI_add, md_w8 hA (by omega), md_f8 hA, md_f0 hA, md_r1 hA (by omega), n1, nI_add, md_w9 hA (by omega), md_f0 hA, md_r1 hA (by omega), n1, nI_1, md_w1 hA (by omega), ← hI3, ← hJ3]
  exact c1
set_option maxHeartbeats 4000000 in
theorem open_R (hA : MdAt N S R m) (I : Nat → Nat → Int32) (J : Nat → Nat → Int64) (L : Lg) (hM : MRep m 0 I J L) (hB : MBy m I L) (hL : LInv L) (nw : Nat → Nat) (hD : DaOk m I nw (L.st L.ne)) (f : Int64) : RTo N SL S R m I J nw (L.st L.ne) (fX9_open m f (N, SL, S, R, I, J)) (aOpen L f) := by
  have h1 := hL.1
  unfold fX9_open aOpen
  by_cases z0 : 0 < f
  · rw [if_neg (Int64.not_le.mpr z0), if_pos z0]
    exact RTo.none' hM hB hD _
  rw [if_pos (Int64.not_lt.mp z0), if_neg z0, md_f1 hA, show (0 : Int32) = nI 0 from rfl, md_r2 hA (by omega), hM.1.2.1]
  by_cases z2 : 200 ≤ L.ne
  · rw [if_pos (show nI L.ne = (200 : Int32) by rw [show L.ne = 200 by omega]; rfl), if_pos z2]
    exact RTo.none' hM hB hD _
  rw [if_neg (show ¬ nI L.ne = (200 : Int32) from fun q => absurd ((nI_eq (b := 200) (by omega) (by decide)).mp q) (by omega)), if_neg z2, md_f0 hA, md_r1 hA (by omega), hM.1.1]
  by_cases z3 : 40 ≤ L.na
  · rw [if_pos (show nI L.na = (40 : Int32) by rw [show L.na = 40 by omega]; rfl), if_pos z3]
    exact RTo.none' hM hB hD _
  rw [if_neg (show ¬ nI L.na = (40 : Int32) from fun q => absurd ((nI_eq (b := 40) (by omega) (by decide)).mp q) (by omega)), if_neg z3]
  obtain ⟨I1, J1, a1, a2, a3, a4⟩ := begins_M (SL := SL) hA I J 1 (by decide) 0
  rw [if_pos rfl] at a4
  obtain ⟨I2, c1, c2, c3⟩ := putL_M (SL := SL) hA I1 J1 f _ a4 (by show 1 + 8 ≤ 100; decide)
  have c3 : RowOk I2 m (lOpen f) := c3
  have k2 : KF m I I2 J (u2 J1 m 31 f) := (a2.trans c2.kf).trans ⟨fun _ _ _ => rfl, fun _ _ => rfl, fun c a _ _ => u2_ne a, fun j hj => by rw [u2_at, up_ne (by omega)]⟩
  have cc : CallOk I2 (u2 J1 m 31 f) m 1 0 0 noL (-1) (-1) f := by
    obtain ⟨q1, q2, q3, q4, q5, q6⟩ := c2.call (a3 noL)
    exact ⟨q1, by rw [u2_at, up_ne (by decide)]; exact q2, ⟨q3.1, q3.2.1, fun k hk => absurd hk (by omega)⟩, q4, q5, u2_i⟩
  have m2 := k2.rep hM
  have b2 : MBy m I2 L := hB.congr (fun c a b => k2.by.1 c (by omega) b) k2.by.2
  have d2 : DaOk m I2 nw (L.st L.ne) := fun k hk => by rw [k2.by.1 (m + 19) (by omega) (by omega)]; exact hD k hk
  have hlen : (lOpen f).length = 9 := by unfold lOpen; simp [lB_len]
  obtain ⟨I3, w1, w2, w3, w4⟩ := writes_M (SL := SL) hA I2 (u2 J1 m 31 f) L m2.1.2.1 b2 hL (by omega) (lOpen f) c3 (by omega) nw d2
  obtain ⟨I4, J4, x1, x2, x3, x4⟩ := does_open (SL := SL) (z := 0) hA (by decide) I3 (u2 J1 m 31 f) L (w2.rep m2) hL (by omega) (by omega) f (-1) (-1) (w2.call cc)
  have a1' : fX9_begins m (1 : Int32) 0 (N, SL, S, R, I, J) = some ((), (N, SL, S, R, I1, J1)) := a1
  have n4 : I4 (m + 1) 0 = nI (L.na + 1) := x3.1.1
  refine ⟨I4, J4, ?_, x3, ((w3 (1, 0, 0, noL, -1, 0, 0)).same (L' := openL L f) rfl rfl rfl).congr (fun c a b => x2.by.1 c (by omega) b) x2.by.2, fun k hk => ?_, (k2.of.trans w2.of).trans x2.of⟩
  · rw [md_o hA, a1', bd_some, md_o hA, c1, bd_some, md_pJ hA, md_o hA, w1, bd_some, md_o hA, x1, bd_some, md_f0 hA, md_r1 hA (by omega), n4, nI_p1]
  · have hk' : k < L.st L.ne + (lOpen f).length := by
      have e : (openL L f).st (openL L f).ne = L.st L.ne + (lOpen f).length := up_eq
      rw [← e]; exact hk
    rw [x2.by.1 (m + 19) (by omega) (by omega), w4 (1, 0, 0, noL, -1, 0, 0) k hk']
    rfl
end RefJ
