-- P3, reference: capture, reverse, post
section RefL
variable {N SL : Nat} {S : Nat → Shp} {R : Nat → Nat → Option Nat} {m z : Nat}
theorem aCap_eq {L : Lg} (key : Int64) (e a V : Nat) (hk : key ≠ 0) : (if key ≠ 0 ∧ ansB L key (lCap key e a (Int64.ofNat V)) ≠ -1 then (ansB L key (lCap key e a (Int64.ofNat V)), L) else if rCap L e a V ≠ 0 then (rCap L e a V, L) else (nI L.ne, mvT (mvE (L.ends e (nI L.ne)) (bhO L 2 (cLg (L.es e).ha a (Int64.ofNat V))) (5, key, 2, cLg (L.es e).ha a (Int64.ofNat V), -1, 0, 0) (lCap key e a (Int64.ofNat V))))) = aCap L key e a V := by
  unfold aCap rCap
  by_cases z1 : ansB L key (lCap key e a (Int64.ofNat V)) ≠ -1
  · rw [if_pos ⟨hk, z1⟩, if_pos z1]
  rw [if_neg (fun q => z1 q.2), if_neg z1]
  by_cases z2 : ¬ (e < L.ne ∧ thB (L.es e) = true ∧ a < L.na ∧ V ≤ (L.es e).hm)
  · rw [if_pos z2, if_pos (by decide), if_pos z2]
  rw [if_neg z2, if_neg z2]
set_option maxHeartbeats 8000000 in
theorem cap_R (hA : MdAt N S R m) (I : Nat → Nat → Int32) (J : Nat → Nat → Int64) (L : Lg) (hM : MRep m 0 I J L) (hB : MBy m I L) (hL : LInv L) (nw : Nat → Nat) (hD : DaOk m I nw (L.st L.ne)) (key : Int64) (x y : Int32) (v : Int64) : RTo N SL S R m I J nw (L.st L.ne) (fX9_capture m key x y v (N, SL, S, R, I, J)) (if key = 0 ∨ (x < 0 ∨ 200 ≤ x) ∨ (y < 0 ∨ 255 < y) ∨ ¬ 0 < v then (-1, L) else aCap L key x.toNatClampNeg y.toNatClampNeg v.toInt.toNat) := by
  have h1 := hL.1
  unfold fX9_capture fX9_capture_36
  by_cases z1 : key = 0
  · rw [if_pos z1, if_pos (Or.inl z1)]
    exact RTo.none' hM hB hD _
  rw [if_neg z1, in_mk, bd_some]
  by_cases z2 : x < 0 ∨ 200 ≤ x
  · rw [if_pos ((ent199 x).mpr z2), if_pos rfl, if_pos (Or.inr (Or.inl z2))]
    exact RTo.none' hM hB hD _
  rw [if_neg (fun q => z2 ((ent199 x).mp q)), if_neg (by decide), in_mk, bd_some]
  by_cases z3 : y < 0 ∨ 255 < y
  · rw [if_pos z3, if_pos rfl, if_pos (Or.inr (Or.inr (Or.inl z3)))]
    exact RTo.none' hM hB hD _
  rw [if_neg z3, if_neg (by decide)]
  by_cases z4 : ¬ 0 < v
  · rw [if_neg z4, if_pos (Or.inr (Or.inr (Or.inr z4)))]
    exact RTo.none' hM hB hD _
  have z4 : 0 < v := Decidable.not_not.mp z4
  rw [if_pos z4, if_neg (fun q => q.elim z1 (fun q => q.elim z2 (fun q => q.elim z3 (fun q => q z4))))]
  obtain ⟨e, rfl, he⟩ := ent_of z2
  obtain ⟨a, rfl, ha⟩ := byte_of z3
  obtain ⟨V, hV⟩ : ∃ V, V = v.toInt.toNat := ⟨_, rfl⟩
  have hvI := tI_hi v
  have hv0 : 0 < v.toInt := Int64.lt_iff_toInt_lt.mp z4
  have ev : v = Int64.ofNat V := by rw [hV]; exact of_pos z4
  have hV2 : V < 9223372036854775808 := by omega
  have hV0 : 0 < V := by omega
  rw [nI_clamp (by omega), nI_clamp (by omega), ← hV]
  rw [ev]
  obtain ⟨I1, J1, a1, a2, a3, a4⟩ := begins_M (SL := SL) hA I J 5 (by decide) key
  rw [if_neg z1] at a4
  obtain ⟨I2, c1, c2, c3⟩ := putS_M (SL := SL) hA I1 J1 e (by omega) _ a4 (by simp [lB_len])
  obtain ⟨I3, d1, d2, d3⟩ := put_N (SL := SL) hA I2 J1 _ c3 (by simp [lB_len]) a ha
  obtain ⟨I4, g1, g2, g3⟩ := putL_M (SL := SL) hA I3 J1 (Int64.ofNat V) _ d3 (by simp [lB_len])
  obtain ⟨I5, hI5⟩ : ∃ I5, I5 = u2 (u2 I4 m 28 (nI e)) m 29 (nI a) := ⟨_, rfl⟩
  obtain ⟨J5, hJ5⟩ : ∃ J5, J5 = u2 J1 m 31 (Int64.ofNat V) := ⟨_, rfl⟩
  have k5 : KF m I I5 J J5 := (((a2.trans c2.kf).trans d2.kf).trans g2.kf).trans ⟨fun c q _ => by rw [hI5, u2_ne q, u2_ne q], fun j hj => by rw [hI5, u2_at, up_ne (by omega), u2_at, up_ne (by omega)], fun c q _ _ => by rw [hJ5, u2_ne q], fun j hj => by rw [hJ5, u2_at, up_ne (by omega)]⟩
  have cc : CallOk I5 J5 m 5 key 0 noL (nI e) (nI a) (Int64.ofNat V) := by
    obtain ⟨q1, q2, q3, q4, q5, q6⟩ := g2.call (d2.call (c2.call (a3 noL)))
    refine ⟨?_, ?_, ⟨?_, q3.2.1, fun k hk => absurd hk (by omega)⟩, ?_, ?_, ?_⟩
    · rw [hI5, u2_at, up_ne (by decide), u2_at, up_ne (by decide)]; exact q1
    · rw [hJ5, u2_at, up_ne (by decide)]; exact q2
    · rw [hI5, u2_at, up_ne (by decide), u2_at, up_ne (by decide)]; exact q3.1
    · rw [hI5, u2_at, up_ne (by decide), u2_i]
    · rw [hI5, u2_i]
    · rw [hJ5, u2_i]
  have rr : RowOk I5 m (lCap key e a (Int64.ofNat V)) := ⟨by rw [hI5, u2_at, up_ne (by decide), u2_at, up_ne (by decide)]; exact g3.1, fun k hk => by rw [hI5, u2_ne (by omega), u2_ne (by omega)]; exact g3.2 k hk⟩
  have m5 := k5.rep hM
  have b5 : MBy m I5 L := hB.congr (fun c q w => k5.by.1 c (by omega) w) k5.by.2
  have D5 : DaOk m I5 nw (L.st L.ne) := fun k hk => by rw [k5.by.1 (m + 19) (by omega) (by omega)]; exact hD k hk
  have hby : ByL (lCap key e a (Int64.ofNat V)) := ((((ByL.one (by decide)).app (lB_by _ _)).app (ByL.two (by decide) (by omega))).app (ByL.one ha)).app (lB_by _ _)
  have hlen : (lCap key e a (Int64.ofNat V)).length = 20 := by unfold lCap; simp [lB_len]
  have r0 : rCap L e a V = 0 → (e < L.ne ∧ thB (L.es e) = true ∧ a < L.na ∧ V ≤ (L.es e).hm) ∧ wgh L (up L.he (L.es e).ha (L.he (L.es e).ha - (L.es e).hm)) 2 (cLg (L.es e).ha a (Int64.ofNat V)) = 0 := by
    unfold rCap
    intro q
    by_cases w1 : ¬ (e < L.ne ∧ thB (L.es e) = true ∧ a < L.na ∧ V ≤ (L.es e).hm)
    · rw [if_pos w1] at q; exact absurd q (by decide)
    rw [if_neg w1] at q
    exact ⟨Decidable.not_not.mp w1, q⟩
  have lac : e < L.ne ∧ thB (L.es e) = true ∧ a < L.na ∧ V ≤ (L.es e).hm → ∀ k, k < 2 → (cLg (L.es e).ha a (Int64.ofNat V) k).1 < L.na := fun w k hk => by
    have hE := (hL.2.2.1 e w.1).2.2 (thB_kd w.2.1).1
    unfold cLg
    by_cases t : k = 0
    · rw [if_pos t]; exact hE.2.2.1
    · rw [if_neg t]; exact w.2.2.1
  obtain ⟨I6, J6, e1, e2, e3, e4, e5⟩ := refused_cap (SL := SL) hA I5 J5 0 (by decide) L m5 hL key noL e he a V ha hV2 cc
  have inv := aCap_inv hL key e a V he ha hV0 hV2
  have res := calls_M (SL := SL) hA I J I5 J5 k5.of L m5 b5 hL nw D5 (lCap key e a (Int64.ofNat V)) rr hby (by omega) key cc.2.1 (rCap L e a V) (mvE (L.ends e (nI L.ne)) (bhO L 2 (cLg (L.es e).ha a (Int64.ofNat V))) (5, key, 2, cLg (L.es e).ha a (Int64.ofNat V), -1, 0, 0) (lCap key e a (Int64.ofNat V)))
    ⟨I6, J6, e1, e2, ⟨by rw [e5]; exact rr.1, fun k hk => by rw [e4]; exact rr.2 k hk⟩, fun q I7 w => by
      obtain ⟨w1, w2⟩ := r0 q
      obtain ⟨bb, v1, v2, v3, v4⟩ := wgh_0 w2
      obtain ⟨I8, J8, t1, t2, t3, t4⟩ := does_cap (SL := SL) (z := 0) hA (by decide) I7 J6 L (w.rep (e2.rep m5)) hL v4 key 2 (cLg (L.es e).ha a (Int64.ofNat V)) e w1.1 w1.2.1 (nI a) (Int64.ofNat V) (w.call (e3 w1)) (lac w1) bb v1
      exact ⟨I8, J8, t1, t2, by rw [v2]; exact t3 _, t4⟩⟩
    (fun q => by
      obtain ⟨w1, w2⟩ := r0 q
      obtain ⟨bb, v1, v2, v3, v4⟩ := wgh_0 w2
      have hE := (hL.2.2.1 e w1.1).2.2 (thB_kd w1.2.1).1
      have vn := of_ne hV0 hV2
      have hN : NewOk ((L.ends e (nI L.ne)).wba bb).na (5, key, 2, cLg (L.es e).ha a (Int64.ofNat V), -1, 0, 0) (lCap key e a (Int64.ofNat V)) := ⟨⟨by omega, by omega, hby⟩, ⟨rfl, (show 1 ≤ 5 by decide), (show 5 ≤ 7 by decide), (show 2 ≤ 8 by decide)⟩, fun k hk => ⟨lac w1 k hk, by
        show (cLg (L.es e).ha a (Int64.ofNat V) k).2 ≠ 0 ∧ (cLg (L.es e).ha a (Int64.ofNat V) k).2 ≠ _
        unfold cLg
        by_cases t : k = 0
        · rw [if_pos t]; exact ⟨vn.2.2.1, vn.2.2.2⟩
        · rw [if_neg t]; exact ⟨vn.1, vn.2.1⟩⟩, fun q => absurd (show 5 = 3 from q) (by decide)⟩
      have hs := h1.2.2.2
      refine ⟨?_, v4, rfl, rfl, rfl⟩
      rw [v2]
      exact LInv.si (app_plain (wba_inv (ends_inv hL w1.1 w1.2.1) v1 v3) v4 hN (show 5 ≠ 3 by decide)) (by show L.si + 1 ≤ L.ne + 1; omega))
  rw [aCap_eq key e a V z1] at res
  have a1' : fX9_begins m (5 : Int32) key (N, SL, S, R, I, J) = some ((), (N, SL, S, R, I1, J1)) := a1
  rw [md_o hA, a1', bd_some, md_o hA, c1, bd_some, md_o hA, d1, bd_some, md_o hA, g1, bd_some, md_p hA, md_p hA, md_pJ hA, md_o hA, ← hI5, ← hJ5]
  obtain ⟨I9, J9, f1, f2⟩ := res
  exact ⟨I9, J9, by rw [f1, bd_some], f2⟩
theorem aRev_eq {L : Lg} (key : Int64) (e : Nat) (hk : key ≠ 0) : (if key ≠ 0 ∧ ansB L key (lRev key e) ≠ -1 then (ansB L key (lRev key e), L) else if rRev L e ≠ 0 then (rRev L e, L) else (nI L.ne, mvT (mvE (L.revd e (nI L.ne)) (bhO L (L.es e).nl (rLg (L.es e).lg)) (6, key, (L.es e).nl, rLg (L.es e).lg, -1, 0, 0) (lRev key e)))) = aRev L key e := by
  unfold aRev rRev
  by_cases z1 : ansB L key (lRev key e) ≠ -1
  · rw [if_pos ⟨hk, z1⟩, if_pos z1]
  rw [if_neg (fun q => z1 q.2), if_neg z1]
  by_cases z2 : ¬ (e < L.ne ∧ (L.es e).nl ≠ 0)
  · rw [if_pos z2, if_pos (by decide), if_pos z2]
  rw [if_neg z2, if_neg z2]
  by_cases z3 : (L.es e).en ≠ -1
  · rw [if_pos z3, if_pos (by decide), if_pos z3]
  rw [if_neg z3, if_neg z3]
set_option maxHeartbeats 8000000 in
theorem rev_R (hA : MdAt N S R m) (I : Nat → Nat → Int32) (J : Nat → Nat → Int64) (L : Lg) (hM : MRep m 0 I J L) (hB : MBy m I L) (hL : LInv L) (nw : Nat → Nat) (hD : DaOk m I nw (L.st L.ne)) (key : Int64) (x : Int32) : RTo N SL S R m I J nw (L.st L.ne) (fX9_reverse m key x (N, SL, S, R, I, J)) (if key = 0 ∨ (x < 0 ∨ 200 ≤ x) then (-1, L) else aRev L key x.toNatClampNeg) := by
  have h1 := hL.1
  unfold fX9_reverse fX9_reverse_17
  by_cases z1 : key = 0
  · rw [if_pos z1, if_pos (Or.inl z1)]
    exact RTo.none' hM hB hD _
  rw [if_neg z1, in_mk, bd_some]
  by_cases z2 : x < 0 ∨ 200 ≤ x
  · rw [if_pos ((ent199 x).mpr z2), if_pos rfl, if_pos (Or.inr z2)]
    exact RTo.none' hM hB hD _
  rw [if_neg (fun q => z2 ((ent199 x).mp q)), if_neg (by decide), if_neg (fun q => q.elim z1 z2)]
  obtain ⟨e, rfl, he⟩ := ent_of z2
  rw [nI_clamp (by omega)]
  obtain ⟨I1, J1, a1, a2, a3, a4⟩ := begins_M (SL := SL) hA I J 6 (by decide) key
  rw [if_neg z1] at a4
  obtain ⟨I2, c1, c2, c3⟩ := putS_M (SL := SL) hA I1 J1 e (by omega) _ a4 (by simp [lB_len])
  obtain ⟨I5, hI5⟩ : ∃ I5, I5 = u2 I2 m 28 (nI e) := ⟨_, rfl⟩
  have k5 : KF m I I5 J J1 := (a2.trans c2.kf).trans ⟨fun c q _ => by rw [hI5, u2_ne q], fun j hj => by rw [hI5, u2_at, up_ne (by omega)], fun _ _ _ _ => rfl, fun _ _ => rfl⟩
  have cc : ∀ lg, CallOk I5 J1 m 6 key 0 lg (nI e) (-1) 0 := by
    intro lg
    obtain ⟨q1, q2, q3, q4, q5, q6⟩ := c2.call (a3 lg)
    refine ⟨?_, q2, ⟨?_, q3.2.1, fun k hk => absurd hk (by omega)⟩, ?_, ?_, q6⟩
    · rw [hI5, u2_at, up_ne (by decide)]; exact q1
    · rw [hI5, u2_at, up_ne (by decide)]; exact q3.1
    · rw [hI5, u2_i]
    · rw [hI5, u2_at, up_ne (by decide)]; exact q5
  have rr : RowOk I5 m (lRev key e) := ⟨by rw [hI5, u2_at, up_ne (by decide)]; exact c3.1, fun k hk => by rw [hI5, u2_ne (by omega)]; exact c3.2 k hk⟩
  have m5 := k5.rep hM
  have b5 : MBy m I5 L := hB.congr (fun c q w => k5.by.1 c (by omega) w) k5.by.2
  have D5 : DaOk m I5 nw (L.st L.ne) := fun k hk => by rw [k5.by.1 (m + 19) (by omega) (by omega)]; exact hD k hk
  have hby : ByL (lRev key e) := ((ByL.one (by decide)).app (lB_by _ _)).app (ByL.two (by decide) (by omega))
  have hlen : (lRev key e).length = 11 := by unfold lRev; simp [lB_len]
  have r0 : rRev L e = 0 → (e < L.ne ∧ (L.es e).nl ≠ 0) ∧ wgh L L.he (L.es e).nl (rLg (L.es e).lg) = 0 := by
    unfold rRev
    intro q
    by_cases w1 : ¬ (e < L.ne ∧ (L.es e).nl ≠ 0)
    · rw [if_pos w1] at q; exact absurd q (by decide)
    rw [if_neg w1] at q
    by_cases w2 : (L.es e).en ≠ -1
    · rw [if_pos w2] at q; exact absurd q (by decide)
    rw [if_neg w2] at q
    exact ⟨Decidable.not_not.mp w1, q⟩
  obtain ⟨I6, J6, e1, e2, e3, e4, e5⟩ := refused_rev (SL := SL) hA I5 J1 0 (by decide) L m5 hL key e he (-1) 0 cc
  have res := calls_M (SL := SL) hA I J I5 J1 k5.of L m5 b5 hL nw D5 (lRev key e) rr hby (by omega) key (cc noL).2.1 (rRev L e) (mvE (L.revd e (nI L.ne)) (bhO L (L.es e).nl (rLg (L.es e).lg)) (6, key, (L.es e).nl, rLg (L.es e).lg, -1, 0, 0) (lRev key e))
    ⟨I6, J6, e1, e2, ⟨by rw [e5]; exact rr.1, fun k hk => by rw [e4]; exact rr.2 k hk⟩, fun q I7 w => by
      obtain ⟨w1, w2⟩ := r0 q
      obtain ⟨bb, v1, v2, v3, v4⟩ := wgh_0 w2
      obtain ⟨I8, J8, t1, t2, t3, t4⟩ := does_rev (SL := SL) (z := 0) hA (by decide) I7 J6 L (w.rep (e2.rep m5)) hL v4 key (L.es e).nl (rLg (L.es e).lg) e w1.1 w1.2 (-1) 0 (w.call (e3 w1)) (fun k hk => ((hL.2.2.1 e w1.1).2.1 k hk).1) bb v1
      exact ⟨I8, J8, t1, t2, by rw [v2]; exact t3 _, t4⟩⟩
    (fun q => by
      obtain ⟨w1, w2⟩ := r0 q
      obtain ⟨bb, v1, v2, v3, v4⟩ := wgh_0 w2
      have hE := hL.2.2.1 e w1.1
      have hN : NewOk ((L.revd e (nI L.ne)).wba bb).na (6, key, (L.es e).nl, rLg (L.es e).lg, -1, 0, 0) (lRev key e) := ⟨⟨by omega, by omega, hby⟩, ⟨rfl, (show 1 ≤ 6 by decide), (show 6 ≤ 7 by decide), hE.1.2.2.2⟩, fun k hk => ⟨(hE.2.1 k hk).1, neg_ne (hE.2.1 k hk).2.1 (hE.2.1 k hk).2.2⟩, fun q => absurd (show 6 = 3 from q) (by decide)⟩
      have hs := h1.2.2.2
      refine ⟨?_, v4, rfl, rfl, rfl⟩
      rw [v2]
      exact LInv.si (app_plain (wba_inv (revd_inv hL w1.1 w1.2) v1 v3) v4 hN (show 6 ≠ 3 by decide)) (by show L.si + 1 ≤ L.ne + 1; omega))
  rw [aRev_eq key e z1] at res
  have a1' : fX9_begins m (6 : Int32) key (N, SL, S, R, I, J) = some ((), (N, SL, S, R, I1, J1)) := a1
  rw [md_o hA, a1', bd_some, md_o hA, c1, bd_some, md_p hA, md_o hA, ← hI5]
  obtain ⟨I9, J9, f1, f2⟩ := res
  exact ⟨I9, J9, by rw [f1, bd_some], f2⟩
/-- the told legs of the reference -/
def ToldM (m : Nat) (I : Nat → Nat → Int32) (J : Nat → Nat → Int64) (n : Nat) (lg : Nat → Nat × Int64) : Prop := I m 37 = nI n ∧ n ≤ 8 ∧ ∀ k, k < n → I (m + 29) k = nI (lg k).1 ∧ J (m + 30) k = (lg k).2
theorem KF.told {I I' : Nat → Nat → Int32} {J J' : Nat → Nat → Int64} {n : Nat} {lg : Nat → Nat × Int64} (h : KF m I I' J J') (ht : ToldM m I J n lg) : ToldM m I' J' n lg := ⟨by rw [h.2.1 37 (by omega)]; exact ht.1, ht.2.1, fun k hk => by rw [h.1 (m + 29) (by omega) (by omega), h.2.2.1 (m + 30) (by omega) (by omega) (by omega)]; exact ht.2.2 k hk⟩
theorem postM_loop (hA : MdAt N S R m) (key : Int64) (n : Nat) (lg : Nat → Nat × Int64) (h256 : ∀ k, k < n → (lg k).1 < 256) : ∀ (q k fuel : Nat) (I : Nat → Nat → Int32) (J : Nat → Nat → Int64) (l : List Nat), k + q = n → q < fuel → ToldM m I J n lg → CallOk I J m 2 key k lg (-1) (-1) 0 → RowOk I m l → l.length + 9 * q ≤ 90 →
    ∃ (y : Nat) (I' : Nat → Nat → Int32) (J' : Nat → Nat → Int64), fX9_post_31 fuel m (nI k) (N, SL, S, R, I, J) = fX9_post_31 (y + 1) m (nI n) (N, SL, S, R, I', J') ∧ KF m I I' J J' ∧ CallOk I' J' m 2 key n lg (-1) (-1) 0 ∧ RowOk I' m (l ++ lgB lg q k)
  | 0, k, fuel, I, J, l, hk, hf, ht, hc, hr, hl => by
    obtain ⟨y, rfl⟩ : ∃ y, fuel = y + 1 := ⟨fuel - 1, by omega⟩
    have : k = n := by omega
    subst this
    exact ⟨y, I, J, rfl, KF.refl, hc, by rw [lgB, List.append_nil]; exact hr⟩
  | q + 1, k, fuel, I, J, l, hk, hf, ht, hc, hr, hl => by
    obtain ⟨y, rfl⟩ : ∃ y, fuel = y + 1 := ⟨fuel - 1, by omega⟩
    have h8 := ht.2.1
    have htk := ht.2.2 k (by omega)
    obtain ⟨I1, J1, a1, a2, a3, a4, a5⟩ := leg_M (SL := SL) hA I J 2 key k lg lg (-1) (-1) 0 hc (by omega) (lg k).1 (lg k).2 (fun _ _ => rfl) rfl
    have r1 : RowOk I1 m l := ⟨by rw [a5]; exact hr.1, fun j hj => by rw [a4]; exact hr.2 j hj⟩
    obtain ⟨I2, c1, c2, c3⟩ := put_N (SL := SL) hA I1 J1 l r1 (by omega) (lg k).1 (h256 k (by omega))
    obtain ⟨I3, d1, d2, d3⟩ := putL_M (SL := SL) hA I2 J1 (lg k).2 _ c3 (by rw [List.length_append]; show l.length + 1 + 8 ≤ 100; omega)
    have f3 : KF m I I3 J J1 := (a3.trans c2.kf).trans d2.kf
    have t1 := (a3.told ht).2.2 k (by omega)
    have t2 := (KF.told (J' := J1) c2.kf (a3.told ht)).2.2 k (by omega)
    obtain ⟨y', I', J', g1, g2, g3, g4⟩ := postM_loop hA key n lg h256 q (k + 1) y I3 J1 _ (by omega) (by omega) (f3.told ht) (d2.call (c2.call a2)) d3 (by rw [List.length_append, List.length_append, lB_len]; show l.length + 1 + 8 + 9 * q ≤ 90; omega)
    refine ⟨y', I', J', ?_, f3.trans g2, g3, by rw [lgB, ← List.append_assoc, ← List.append_assoc]; exact g4⟩
    rw [fX9_post_31, md_g hA, ht.1, if_neg (nI_lt_of (by omega) (by omega)), md_f38 hA, md_r29 hA (by omega), htk.1, md_f39 hA, md_r30 hA (by omega), htk.2, md_o hA, a1, bd_some, md_f38 hA, md_r29 hA (by omega), t1.1, md_o hA, c1, bd_some, md_f39 hA, md_r30 hA (by omega), t2.2, md_o hA, d1, bd_some, nI_1]
    exact g1
theorem aPost_eq {L : Lg} (key : Int64) (n : Nat) (lg : Nat → Nat × Int64) (hk : key ≠ 0) : (if key ≠ 0 ∧ ansB L key (lPost key n lg) ≠ -1 then (ansB L key (lPost key n lg), L) else if rPost L n lg ≠ 0 then (rPost L n lg, L) else (nI L.ne, mvT (mvE L (bhO L n lg) (2, key, n, lg, -1, 0, 0) (lPost key n lg)))) = aPost L key n lg := by
  unfold aPost rPost
  by_cases z1 : ansB L key (lPost key n lg) ≠ -1
  · rw [if_pos ⟨hk, z1⟩, if_pos z1]
  rw [if_neg (fun q => z1 q.2), if_neg z1]
  by_cases z2 : ¬ (∀ j, j < n → (lg j).1 < L.na)
  · rw [if_pos z2, if_pos (by decide), if_pos z2]
  rw [if_neg z2, if_neg z2]
  by_cases z3 : ¬ evenL n lg
  · rw [if_pos z3, if_pos (by decide), if_pos z3]
  rw [if_neg z3, if_neg z3]
/-- post(key): the answer, the ledger, and the legs that stay told -/
def nPost (p : Int32 × Lg) (n : Nat) : Nat := if p.1 < 0 then n else 0
set_option maxHeartbeats 8000000 in
theorem post_R (hA : MdAt N S R m) (I : Nat → Nat → Int32) (J : Nat → Nat → Int64) (L : Lg) (hM : MRep m 0 I J L) (hB : MBy m I L) (hL : LInv L) (nw : Nat → Nat) (hD : DaOk m I nw (L.st L.ne)) (key : Int64) (n : Nat) (lg : Nat → Nat × Int64) (ht : ToldM m I J n lg) (hlg : ∀ k, k < n → (lg k).1 < 256 ∧ (lg k).2 ≠ 0 ∧ (lg k).2 ≠ -9223372036854775808) :
    ∃ (I' : Nat → Nat → Int32) (J' : Nat → Nat → Int64), fX9_post m key (N, SL, S, R, I, J) = some ((if n = 0 ∨ key = 0 then ((-1, L) : Int32 × Lg) else aPost L key n lg).1, (N, SL, S, R, I', J')) ∧ MRep m 0 I' J' (if n = 0 ∨ key = 0 then ((-1, L) : Int32 × Lg) else aPost L key n lg).2 ∧ MBy m I' (if n = 0 ∨ key = 0 then ((-1, L) : Int32 × Lg) else aPost L key n lg).2 ∧ DaOk m I' (nwU nw (L.st L.ne) (if n = 0 ∨ key = 0 then ((-1, L) : Int32 × Lg) else aPost L key n lg).2) ((if n = 0 ∨ key = 0 then ((-1, L) : Int32 × Lg) else aPost L key n lg).2.st (if n = 0 ∨ key = 0 then ((-1, L) : Int32 × Lg) else aPost L key n lg).2.ne) ∧ ToldM m I' J' (nPost (if n = 0 ∨ key = 0 then ((-1, L) : Int32 × Lg) else aPost L key n lg) n) lg ∧ (∀ c, (c < m ∨ m + 28 < c ∨ c = m + 23 ∨ c = m + 24) → I' c = I c) ∧ (∀ j, j ≠ 20 → j ≠ 37 → (j < 26 ∨ 35 < j) → I' m j = I m j) ∧ ∀ c, (c < m ∨ m + 28 < c) → J' c = J c := by
  have h1 := hL.1
  have h8 := ht.2.1
  have nothing : ∀ p : Int32 × Lg, p = (-1, L) → some ((-1 : Int32), (N, SL, S, R, I, J)) = some (p.1, (N, SL, S, R, I, J)) ∧ MRep m 0 I J p.2 ∧ MBy m I p.2 ∧ DaOk m I (nwU nw (L.st L.ne) p.2) (p.2.st p.2.ne) ∧ ToldM m I J (nPost p n) lg := by
    rintro p rfl
    refine ⟨rfl, hM, hB, fun k hk => ?_, ?_⟩
    · unfold nwU
      rw [if_pos (show k < L.st L.ne from hk)]
      exact hD k hk
    · have e : nPost ((-1, L) : Int32 × Lg) n = n := if_pos (show (-1 : Int32) < 0 by decide)
      rw [e]; exact ht
  unfold fX9_post fX9_post_13
  rw [md_g hA, ht.1]
  by_cases z0 : n = 0
  · have e := nothing (if n = 0 ∨ key = 0 then ((-1, L) : Int32 × Lg) else aPost L key n lg) (if_pos (Or.inl z0))
    rw [if_pos (show nI n = 0 by rw [z0]; rfl)]
    exact ⟨I, J, e.1, e.2.1, e.2.2.1, e.2.2.2.1, e.2.2.2.2, fun _ _ => rfl, fun _ _ _ _ => rfl, fun _ _ => rfl⟩
  rw [if_neg (nI_ne0 (by omega) (by omega))]
  by_cases z1 : key = 0
  · have e := nothing (if n = 0 ∨ key = 0 then ((-1, L) : Int32 × Lg) else aPost L key n lg) (if_pos (Or.inr z1))
    rw [if_pos z1]
    exact ⟨I, J, e.1, e.2.1, e.2.2.1, e.2.2.2.1, e.2.2.2.2, fun _ _ => rfl, fun _ _ _ _ => rfl, fun _ _ => rfl⟩
  rw [if_neg z1, if_neg (fun q => q.elim z0 z1)]
  obtain ⟨I1, J1, a1, a2, a3, a4⟩ := begins_M (SL := SL) hA I J 2 (by decide) key
  rw [if_neg z1] at a4
  obtain ⟨I2, c1, c2, c3⟩ := put_N (SL := SL) hA I1 J1 _ a4 (by simp [lB_len]) n (by omega)
  have k2 : KF m I I2 J J1 := a2.trans c2.kf
  obtain ⟨y, I3, J3, d1, d2, d3, d4⟩ := postM_loop (SL := SL) hA key n lg (fun k hk => (hlg k hk).1) n 0 FU I2 J1 _ (by omega) (by unfold FU; omega) (k2.told ht) (c2.call (a3 lg)) c3 (by simp [lB_len]; omega)
  have k3 : KF m I I3 J J3 := k2.trans d2
  have d4 : RowOk I3 m (lPost key n lg) := d4
  have m3 := k3.rep hM
  have b3 : MBy m I3 L := hB.congr (fun c q w => k3.by.1 c (by omega) w) k3.by.2
  have D3 : DaOk m I3 nw (L.st L.ne) := fun k hk => by rw [k3.by.1 (m + 19) (by omega) (by omega)]; exact hD k hk
  have hby : ByL (lPost key n lg) := (((ByL.one (by decide)).app (lB_by _ _)).app (ByL.one (by omega))).app (lgB_by lg n 0 (fun j _ hj => (hlg j (by omega)).1))
  have hlen : (lPost key n lg).length = 10 + 9 * n := by unfold lPost; simp [lB_len, lgB_len]; omega
  have r0 : rPost L n lg = 0 → (∀ j, j < n → (lg j).1 < L.na) ∧ wgh L L.he n lg = 0 := by
    unfold rPost
    intro q
    by_cases w1 : ¬ (∀ j, j < n → (lg j).1 < L.na)
    · rw [if_pos w1] at q; exact absurd q (by decide)
    rw [if_neg w1] at q
    by_cases w2 : ¬ evenL n lg
    · rw [if_pos w2] at q; exact absurd q (by decide)
    rw [if_neg w2] at q
    exact ⟨Decidable.not_not.mp w1, q⟩
  obtain ⟨J4, e1, e2⟩ := refused_post (SL := SL) hA I3 J3 0 (by decide) L m3 hL key n lg (-1) (-1) 0 d3 (fun k hk => (hlg k hk).1)
  have res := calls_M (SL := SL) hA I J I3 J3 k3.of L m3 b3 hL nw D3 (lPost key n lg) d4 hby (by omega) key d3.2.1 (rPost L n lg) (mvE L (bhO L n lg) (2, key, n, lg, -1, 0, 0) (lPost key n lg))
    ⟨I3, J4, e1, KF.j28 e2, d4, fun q I7 w => by
      obtain ⟨w1, w2⟩ := r0 q
      obtain ⟨bb, v1, v2, v3, v4⟩ := wgh_0 w2
      obtain ⟨I8, J8, t1, t2, t3, t4⟩ := does_post (SL := SL) (z := 0) hA (by decide) I7 J4 L (w.rep (m3.j28 e2)) hL v4 key n lg (-1) (-1) 0 (w.call (d3.j28 e2)) w1 bb v1
      exact ⟨I8, J8, t1, t2, by rw [v2]; exact t3 _, t4⟩⟩
    (fun q => by
      obtain ⟨w1, w2⟩ := r0 q
      obtain ⟨bb, v1, v2, v3, v4⟩ := wgh_0 w2
      have hN : NewOk (L.wba bb).na (2, key, n, lg, -1, 0, 0) (lPost key n lg) := ⟨⟨by omega, by omega, hby⟩, ⟨rfl, (show 1 ≤ 2 by decide), (show 2 ≤ 7 by decide), h8⟩, fun k hk => ⟨w1 k hk, (hlg k hk).2⟩, fun q => absurd (show 2 = 3 from q) (by decide)⟩
      have hs := h1.2.2.2
      refine ⟨?_, v4, rfl, rfl, rfl⟩
      rw [v2]
      exact LInv.si (app_plain (wba_inv hL v1 v3) v4 hN (show 2 ≠ 3 by decide)) (by show L.si + 1 ≤ L.ne + 1; omega))
  rw [aPost_eq key n lg z1] at res
  obtain ⟨I9, J9, f1, f2, f3, f4, f5⟩ := res
  have a1' : fX9_begins m (2 : Int32) key (N, SL, S, R, I, J) = some ((), (N, SL, S, R, I1, J1)) := a1
  have t1 : I1 m 37 = nI n := by rw [a2.2.1 37 (by omega)]; exact ht.1
  have t3 : I3 m 37 = nI n := by rw [k3.2.1 37 (by omega)]; exact ht.1
  have st : (cV (N, SL, S, R, I, J) 9 m (fX9_begins m (2 : Int32) key (N, SL, S, R, I, J)) fun _u3 M2 => (gI M2 9 37 m fun v4 => (cV M2 9 m (fX9_put m v4 M2) fun _u6 M5 => fX9_post_31 FU m (0 : Int32) M5))) = (if (aPost L key n lg).1 < 0 then fX9_post_96 (aPost L key n lg).1 (N, SL, S, R, I9, J9) else fX9_post_96 (aPost L key n lg).1 (N, SL, S, R, u2 I9 m 37 (nI 0), J9)) := by
    rw [md_o hA, a1', bd_some, md_g hA, t1, md_o hA, c1, bd_some, show (0 : Int32) = nI 0 from rfl, d1, fX9_post_31, md_g hA, t3, if_pos ((nI_leI (by omega) (by omega)).mpr (Nat.le_refl _)), md_o hA, f1, bd_some, md_p hA]
    rfl
  rw [st]
  unfold fX9_post_96 nPost
  by_cases w : (aPost L key n lg).1 < 0
  · rw [if_pos w, if_pos w]
    refine ⟨I9, J9, rfl, f2, f3, f4, ⟨by rw [f5.2.1 37 (by decide) (by omega)]; exact ht.1, h8, fun k hk => by rw [f5.1 (m + 29) (by omega), f5.2.2 (m + 30) (by omega)]; exact ht.2.2 k hk⟩, f5.1, fun j q1 _ q3 => f5.2.1 j q1 q3, f5.2.2⟩
  · rw [if_neg w, if_neg w]
    have k9 : ∀ c, c ≠ m → u2 I9 m 37 (nI 0) c = I9 c := fun c hc => u2_ne hc
    refine ⟨u2 I9 m 37 (nI 0), J9, rfl, ?_, f3.congr (fun c q1 q2 => k9 c (by omega)) (by rw [u2_at, up_ne (by decide)]), fun k hk => by rw [k9 _ (by omega)]; exact f4 k hk, ⟨u2_i, Nat.zero_le _, fun k hk => absurd hk (by omega)⟩, fun c q => by rw [k9 c (by omega)]; exact f5.1 c q, fun j q1 q2 q3 => by rw [u2_at, up_ne q2]; exact f5.2.1 j q1 q3, f5.2.2⟩
    unfold MRep MEnt
    rw [k9 (m + 1) (by omega), k9 (m + 2) (by omega), k9 (m + 3) (by omega), k9 (m + 4) (by omega), k9 (m + 10) (by omega), k9 (m + 12) (by omega), k9 (m + 13) (by omega), k9 (m + 15) (by omega), k9 (m + 17) (by omega), k9 (m + 18) (by omega)]
    exact f2
end RefL
