-- P3, reference: hold, release, capture, reverse, post
section RefK
variable {N SL : Nat} {S : Nat → Shp} {R : Nat → Nat → Option Nat} {m z : Nat}
theorem mvT_no {L : Lg} (h : ¬ Due L) : mvT L = L := if_neg h
theorem aHold_eq {L : Lg} (key : Int64) (a V : Nat) (hk : key ≠ 0) (hd : ¬ Due L) : (if key ≠ 0 ∧ ansB L key (lHold key a (Int64.ofNat V)) ≠ -1 then (ansB L key (lHold key a (Int64.ofNat V)), L) else if rHold L a V ≠ 0 then (rHold L a V, L) else (nI L.ne, mvT (holdL L key a V))) = aHold L key a V := by
  have hd' : ¬ Due (holdL L key a V) := fun q => hd ⟨q.1, q.2.1, by have : L.ne + 1 < 200 := q.2.2; omega⟩
  unfold aHold rHold
  rw [mvT_no hd']
  by_cases z1 : ansB L key (lHold key a (Int64.ofNat V)) ≠ -1
  · rw [if_pos ⟨hk, z1⟩, if_pos z1]
  rw [if_neg (fun q => z1 q.2), if_neg z1]
  by_cases z2 : L.na ≤ a
  · rw [if_pos z2, if_pos (by decide), if_pos z2]
  rw [if_neg z2, if_neg z2]
  by_cases z3 : (L.ba a).toInt < (L.fl a).toInt + ((L.he a + V : Nat) : Int)
  · rw [if_pos z3, if_pos (by decide), if_pos z3]
  rw [if_neg z3, if_neg z3]
  by_cases z4 : 200 ≤ L.ne
  · rw [if_pos z4, if_pos (by decide), if_pos z4]
  rw [if_neg z4, if_neg (fun q => q rfl), if_neg z4]
set_option maxHeartbeats 4000000 in
theorem hold_R (hA : MdAt N S R m) (I : Nat → Nat → Int32) (J : Nat → Nat → Int64) (L : Lg) (hM : MRep m 0 I J L) (hB : MBy m I L) (hL : LInv L) (hND : ¬ Due L) (nw : Nat → Nat) (hD : DaOk m I nw (L.st L.ne)) (key : Int64) (x : Int32) (v : Int64) : RTo N SL S R m I J nw (L.st L.ne) (fX9_hold_ m key x v (N, SL, S, R, I, J)) (if key = 0 ∨ (x < 0 ∨ 255 < x) ∨ ¬ 0 < v then (-1, L) else aHold L key x.toNatClampNeg v.toInt.toNat) := by
  have h1 := hL.1
  unfold fX9_hold_ fX9_hold__24
  by_cases z1 : key = 0
  · rw [if_pos z1, if_pos (Or.inl z1)]
    exact RTo.none' hM hB hD _
  rw [if_neg z1, in_mk, bd_some]
  by_cases z2 : x < 0 ∨ 255 < x
  · rw [if_pos z2, if_pos rfl, if_pos (Or.inr (Or.inl z2))]
    exact RTo.none' hM hB hD _
  rw [if_neg z2, if_neg (by decide)]
  by_cases z3 : ¬ 0 < v
  · rw [if_neg z3, if_pos (Or.inr (Or.inr z3))]
    exact RTo.none' hM hB hD _
  have z3 : 0 < v := Decidable.not_not.mp z3
  rw [if_pos z3, if_neg (fun q => q.elim z1 (fun q => q.elim z2 (fun q => q z3)))]
  obtain ⟨a, rfl, ha⟩ := byte_of z2
  obtain ⟨V, hV⟩ : ∃ V, V = v.toInt.toNat := ⟨_, rfl⟩
  have hvI := tI_hi v
  have hv0 : 0 < v.toInt := Int64.lt_iff_toInt_lt.mp z3
  have ev : v = Int64.ofNat V := by rw [hV]; exact of_pos z3
  have hV2 : V < 9223372036854775808 := by omega
  rw [nI_clamp (by omega), ← hV]
  rw [ev]
  obtain ⟨I1, J1, a1, a2, a3, a4⟩ := begins_M (SL := SL) hA I J 3 (by decide) key
  rw [if_neg z1] at a4
  obtain ⟨I2, c1, c2, c3⟩ := put_N (SL := SL) hA I1 J1 _ a4 (by simp [lB_len]) a ha
  obtain ⟨I3, d1, d2, d3⟩ := putL_M (SL := SL) hA I2 J1 (Int64.ofNat V) _ c3 (by simp [lB_len])
  have k3 : KF m I (u2 I3 m 29 (nI a)) J (u2 J1 m 31 (Int64.ofNat V)) := ((a2.trans c2.kf).trans d2.kf).trans ⟨fun c q _ => u2_ne q, fun j hj => by rw [u2_at, up_ne (by omega)], fun c q _ _ => u2_ne q, fun j hj => by rw [u2_at, up_ne (by omega)]⟩
  have cc : CallOk (u2 I3 m 29 (nI a)) (u2 J1 m 31 (Int64.ofNat V)) m 3 key 0 noL (-1) (nI a) (Int64.ofNat V) := by
    obtain ⟨q1, q2, q3, q4, q5, q6⟩ := d2.call (c2.call (a3 noL))
    exact ⟨by rw [u2_at, up_ne (by decide)]; exact q1, by rw [u2_at, up_ne (by decide)]; exact q2, ⟨by rw [u2_at, up_ne (by decide)]; exact q3.1, q3.2.1, fun k hk => absurd hk (by omega)⟩, by rw [u2_at, up_ne (by decide)]; exact q4, u2_i, u2_i⟩
  have rr : RowOk (u2 I3 m 29 (nI a)) m (lHold key a (Int64.ofNat V)) := ⟨by rw [u2_at, up_ne (by decide)]; exact d3.1, fun k hk => by rw [u2_ne (by omega)]; exact d3.2 k hk⟩
  have m3 := k3.rep hM
  have b3 : MBy m (u2 I3 m 29 (nI a)) L := hB.congr (fun c q w => k3.by.1 c (by omega) w) k3.by.2
  have D3 : DaOk m (u2 I3 m 29 (nI a)) nw (L.st L.ne) := fun k hk => by rw [k3.by.1 (m + 19) (by omega) (by omega)]; exact hD k hk
  have hby : ByL (lHold key a (Int64.ofNat V)) := (((ByL.one (by decide)).app (lB_by _ _)).app (ByL.one ha)).app (lB_by _ _)
  have hlen : (lHold key a (Int64.ofNat V)).length = 18 := by unfold lHold; simp [lB_len]
  have r0 : rHold L a V = 0 → a < L.na ∧ ¬ (L.ba a).toInt < (L.fl a).toInt + ((L.he a + V : Nat) : Int) ∧ L.ne < 200 := by
    unfold rHold
    intro q
    by_cases w1 : L.na ≤ a
    · rw [if_pos w1] at q; exact absurd q (by decide)
    rw [if_neg w1] at q
    by_cases w2 : (L.ba a).toInt < (L.fl a).toInt + ((L.he a + V : Nat) : Int)
    · rw [if_pos w2] at q; exact absurd q (by decide)
    rw [if_neg w2] at q
    by_cases w3 : 200 ≤ L.ne
    · rw [if_pos w3] at q; exact absurd q (by decide)
    exact ⟨by omega, w2, by omega⟩
  obtain ⟨J4, e1, e2⟩ := refused_hold (SL := SL) hA (u2 I3 m 29 (nI a)) (u2 J1 m 31 (Int64.ofNat V)) 0 (by decide) L m3 hL key noL (-1) a V ha hV2 cc
  have res := calls_M (SL := SL) hA I J (u2 I3 m 29 (nI a)) (u2 J1 m 31 (Int64.ofNat V)) k3.of L m3 b3 hL nw D3 (lHold key a (Int64.ofNat V)) rr hby (by omega) key cc.2.1 (rHold L a V) (holdL L key a V)
    ⟨u2 I3 m 29 (nI a), J4, e1, KF.j28 e2, rr, fun q I5 w => by
      obtain ⟨w1, w2, w3⟩ := r0 q
      have t1 := tI_lo (L.fl a)
      have t2 := tI_hi (L.ba a)
      exact does_hold hA (by decide) I5 J4 L (w.rep (m3.j28 e2)) hL w3 key (-1) a V hV2 w1 (by omega) (w.call (cc.j28 e2))⟩
    (fun q => by
      obtain ⟨w1, w2, w3⟩ := r0 q
      exact ⟨hold_inv hL w3 w1 (by omega) hV2 w2, w3, rfl, rfl, rfl⟩)
  rw [aHold_eq key a V z1 hND] at res
  have a1' : fX9_begins m (3 : Int32) key (N, SL, S, R, I, J) = some ((), (N, SL, S, R, I1, J1)) := a1
  rw [md_o hA, a1', bd_some, md_o hA, c1, bd_some, md_o hA, d1, bd_some, md_p hA, md_pJ hA, md_o hA]
  obtain ⟨I9, J9, f1, f2⟩ := res
  exact ⟨I9, J9, by rw [f1, bd_some], f2⟩
theorem aRel_eq {L : Lg} (e : Nat) (hd : ¬ Due L) : (if (0 : Int64) ≠ 0 ∧ ansB L 0 (lRel e) ≠ -1 then (ansB L 0 (lRel e), L) else if rRel L e ≠ 0 then (rRel L e, L) else (nI L.ne, mvT (app (L.ends e (nI L.ne)) (4, 0, 0, noL, -1, 0, 0) (lRel e)))) = aRel L e := by
  have hd' : ¬ Due (app (L.ends e (nI L.ne)) (4, 0, 0, noL, -1, 0, 0) (lRel e)) := fun q => hd ⟨q.1, q.2.1, by have : L.ne + 1 < 200 := q.2.2; omega⟩
  unfold aRel rRel
  rw [mvT_no hd', if_neg (fun q => q.1 rfl)]
  by_cases z2 : ¬ (e < L.ne ∧ thB (L.es e) = true)
  · rw [if_pos z2, if_pos (by decide), if_pos z2]
  rw [if_neg z2, if_neg z2]
  by_cases z4 : 200 ≤ L.ne
  · rw [if_pos z4, if_pos (by decide), if_pos z4]
  rw [if_neg z4, if_neg (fun q => q rfl), if_neg z4]
set_option maxHeartbeats 4000000 in
theorem rel_R (hA : MdAt N S R m) (I : Nat → Nat → Int32) (J : Nat → Nat → Int64) (L : Lg) (hM : MRep m 0 I J L) (hB : MBy m I L) (hL : LInv L) (hND : ¬ Due L) (nw : Nat → Nat) (hD : DaOk m I nw (L.st L.ne)) (x : Int32) : RTo N SL S R m I J nw (L.st L.ne) (fX9_release m x (N, SL, S, R, I, J)) (if x < 0 ∨ 200 ≤ x then (-1, L) else aRel L x.toNatClampNeg) := by
  have h1 := hL.1
  unfold fX9_release
  rw [in_mk, bd_some]
  by_cases z2 : x < 0 ∨ 200 ≤ x
  · rw [if_pos ((ent199 x).mpr z2), if_pos rfl, if_pos z2]
    exact RTo.none' hM hB hD _
  rw [if_neg (fun q => z2 ((ent199 x).mp q)), if_neg (by decide), if_neg z2]
  obtain ⟨e, rfl, he⟩ := ent_of z2
  rw [nI_clamp (by omega)]
  obtain ⟨I1, J1, a1, a2, a3, a4⟩ := begins_M (SL := SL) hA I J 4 (by decide) 0
  rw [if_pos rfl] at a4
  obtain ⟨I3, d1, d2, d3⟩ := putS_M (SL := SL) hA I1 J1 e (by omega) _ a4 (by show 1 + 2 ≤ 100; decide)
  have k3 : KF m I (u2 I3 m 28 (nI e)) J J1 := (a2.trans d2.kf).trans ⟨fun c q _ => u2_ne q, fun j hj => by rw [u2_at, up_ne (by omega)], fun _ _ _ _ => rfl, fun _ _ => rfl⟩
  have cc : CallOk (u2 I3 m 28 (nI e)) J1 m 4 0 0 noL (nI e) (-1) 0 := by
    obtain ⟨q1, q2, q3, q4, q5, q6⟩ := d2.call (a3 noL)
    exact ⟨by rw [u2_at, up_ne (by decide)]; exact q1, q2, ⟨by rw [u2_at, up_ne (by decide)]; exact q3.1, q3.2.1, fun k hk => absurd hk (by omega)⟩, u2_i, by rw [u2_at, up_ne (by decide)]; exact q5, q6⟩
  have rr : RowOk (u2 I3 m 28 (nI e)) m (lRel e) := ⟨by rw [u2_at, up_ne (by decide)]; exact d3.1, fun k hk => by rw [u2_ne (by omega)]; exact d3.2 k hk⟩
  have m3 := k3.rep hM
  have b3 : MBy m (u2 I3 m 28 (nI e)) L := hB.congr (fun c q w => k3.by.1 c (by omega) w) k3.by.2
  have D3 : DaOk m (u2 I3 m 28 (nI e)) nw (L.st L.ne) := fun k hk => by rw [k3.by.1 (m + 19) (by omega) (by omega)]; exact hD k hk
  have hby : ByL (lRel e) := (ByL.one (by decide)).app (ByL.two (by decide) (by omega))
  have r0 : rRel L e = 0 → (e < L.ne ∧ thB (L.es e) = true) ∧ L.ne < 200 := by
    unfold rRel
    intro q
    by_cases w1 : ¬ (e < L.ne ∧ thB (L.es e) = true)
    · rw [if_pos w1] at q; exact absurd q (by decide)
    rw [if_neg w1] at q
    by_cases w3 : 200 ≤ L.ne
    · rw [if_pos w3] at q; exact absurd q (by decide)
    exact ⟨Decidable.not_not.mp w1, by omega⟩
  obtain ⟨J4, e1, e2⟩ := refused_rel (SL := SL) hA (u2 I3 m 28 (nI e)) J1 0 (by decide) L m3 hL 0 noL e he (-1) 0 cc
  have res := calls_M (SL := SL) hA I J (u2 I3 m 28 (nI e)) J1 k3.of L m3 b3 hL nw D3 (lRel e) rr hby (by show 3 ≤ 82; decide) 0 cc.2.1 (rRel L e) (app (L.ends e (nI L.ne)) (4, 0, 0, noL, -1, 0, 0) (lRel e))
    ⟨u2 I3 m 28 (nI e), J4, e1, KF.j28 e2, rr, fun q I5 w => by
      obtain ⟨w1, w3⟩ := r0 q
      obtain ⟨I6, J6, g1, g2, g3, g4⟩ := does_rel (SL := SL) (z := 0) hA (by decide) I5 J4 L (w.rep (m3.j28 e2)) hL w3 e w1.1 w1.2 (-1) 0 (w.call (cc.j28 e2))
      exact ⟨I6, J6, g1, g2, g3 _, g4⟩⟩
    (fun q => by
      obtain ⟨w1, w3⟩ := r0 q
      exact ⟨app_plain (ends_inv hL w1.1 w1.2) w3 (new_plain (by show 3 ≤ 3; decide) (by show 3 ≤ 82; decide) hby rfl (by decide) (by decide) (by decide)) (show 4 ≠ 3 by decide), w3, rfl, rfl, rfl⟩)
  rw [aRel_eq e hND] at res
  have a1' : fX9_begins m (4 : Int32) 0 (N, SL, S, R, I, J) = some ((), (N, SL, S, R, I1, J1)) := a1
  rw [md_o hA, a1', bd_some, md_o hA, d1, bd_some, md_p hA, md_o hA]
  obtain ⟨I9, J9, f1, f2⟩ := res
  exact ⟨I9, J9, by rw [f1, bd_some], f2⟩
end RefK
