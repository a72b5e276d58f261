-- P3, reference: calls, and the calls that make entries
theorem fky_lt {L : Lg} {key : Int64} : ∀ (q i j : Nat), fky L key q i = some j → j < i + q
  | 0, _, _, h => by cases h
  | q + 1, i, j, h => by
    rw [fky] at h
    by_cases w : (L.es i).ky = key
    · rw [if_pos w] at h
      cases h
      omega
    · rw [if_neg w] at h
      have := fky_lt q (i + 1) j h
      omega
section RefI
variable {N SL : Nat} {S : Nat → Shp} {R : Nat → Nat → Option Nat} {m : Nat}
/-- what a call of the reference comes to -/
def RTo (N SL : Nat) (S : Nat → Shp) (R : Nat → Nat → Option Nat) (m : Nat) (I : Nat → Nat → Int32) (J : Nat → Nat → Int64) (nw : Nat → Nat) (T : Nat) (r : Option (Int32 × Mem)) (p : Int32 × Lg) : Prop :=
  ∃ (I' : Nat → Nat → Int32) (J' : Nat → Nat → Int64), r = some (p.1, (N, SL, S, R, I', J')) ∧ MRep m 0 I' J' p.2 ∧ MBy m I' p.2 ∧ DaOk m I' (nwU nw T p.2) (p.2.st p.2.ne) ∧ OF m I I' J J'
/-- the bytes of ledger 0 lie apart from ledger and call -/
theorem FZ.by {z : Nat} {I I' : Nat → Nat → Int32} {J J' : Nat → Nat → Int64} (h : FZ m z I I' J J') : (∀ c, m + 19 ≤ c → c ≤ m + 22 → I' c = I c) ∧ I' m 20 = I m 20 := by
  have no : ∀ c j, (c < m + 1 ∨ m + 18 < c) → ¬ Own m z c j := fun c j q => by unfold Own Hf; omega
  exact ⟨fun c a b => funext fun j => h.1 c j (no c j (by omega)), h.1 m 20 (no m 20 (by omega))⟩
theorem KF.by {I I' : Nat → Nat → Int32} {J J' : Nat → Nat → Int64} (h : KF m I I' J J') : (∀ c, m + 19 ≤ c → c ≤ m + 22 → I' c = I c) ∧ I' m 20 = I m 20 := ⟨fun c a b => h.1 c (by omega) (by omega), h.2.1 20 (by omega)⟩
set_option maxHeartbeats 8000000 in
theorem calls_M (hA : MdAt N S R m) (I0 : Nat → Nat → Int32) (J0 : Nat → Nat → Int64) (I : Nat → Nat → Int32) (J : Nat → Nat → Int64) (h0 : OF m I0 I J0 J) (L : Lg) (hM : MRep m 0 I J L) (hB : MBy m I L) (hL : LInv L) (nw : Nat → Nat) (hD : DaOk m I nw (L.st L.ne)) (l : List Nat) (hrow : RowOk I m l) (hby : ByL l) (hl : l.length ≤ 82) (key : Int64) (h30 : J m 30 = key) (r : Int32) (L1 : Lg)
    (hr : ∃ (I1 : Nat → Nat → Int32) (J1 : Nat → Nat → Int64), fX9_refused m (nI 0) (N, SL, S, R, I, J) = some (r, (N, SL, S, R, I1, J1)) ∧ KF m I I1 J J1 ∧ RowOk I1 m l ∧ (r = 0 → ∀ I2, WF m I1 I2 → ∃ (I3 : Nat → Nat → Int32) (J3 : Nat → Nat → Int64), fX9_does m (nI 0) (N, SL, S, R, I2, J1) = some (nI L.ne, (N, SL, S, R, I3, J3)) ∧ FZ m 0 I2 I3 J1 J3 ∧ MRep m 0 I3 J3 L1 ∧ I3 (m + 5) 0 = (if Due L1 then 1 else 0)))
    (hL1 : r = 0 → LInv L1 ∧ L.ne < 200 ∧ L1.ne = L.ne + 1 ∧ L1.yb = (app L (0, 0, 0, noL, 0, 0, 0) l).yb ∧ L1.st = (app L (0, 0, 0, noL, 0, 0, 0) l).st) :
    RTo N SL S R m I0 J0 nw (L.st L.ne) (fX9_calls m (N, SL, S, R, I, J)) (if key ≠ 0 ∧ ansB L key l ≠ -1 then (ansB L key l, L) else if r ≠ 0 then (r, L) else (nI L.ne, mvT L1)) := by
  have h1 := hL.1
  have same : ∀ (I' : Nat → Nat → Int32) (J' : Nat → Nat → Int64) (x : Int32), KF m I I' J J' → RTo N SL S R m I0 J0 nw (L.st L.ne) (some (x, (N, SL, S, R, I', J'))) (x, L) := fun I' J' x f => ⟨I', J', rfl, f.rep hM, hB.congr (fun c a b => f.by.1 c (by omega) b) f.by.2, fun k hk => by
    have hk' : k < L.st L.ne := hk
    unfold nwU
    rw [f.by.1 (m + 19) (by omega) (by omega), if_pos hk']
    exact hD k hk', h0.trans f.of⟩
  obtain ⟨I1, J1, r1, r2, r3, r4⟩ := hr
  have rest : fX9_calls m (N, SL, S, R, I, J) = bd (fX9_byKey m 0 key (N, SL, S, R, I, J)) (fun v3 M2 => if v3 = (-1 : Int32) then (cV M2 9 m (fX9_refused m (0 : Int32) M2) fun v5 M4 => (if v5 = 0 then (cV M4 9 m (fX9_writes m M4) fun _u7 M6 => (cV M6 9 m (fX9_does m (0 : Int32) M6) fun v9 M8 => (gR M8 9 4 m fun r10 => (rI M8 .boolean r10 (0 : Int32) fun v11 => (if v11 = 0 then fX9_calls_76 v9 M8 else (cV M8 9 m (fX9_trial m (0 : Int32) M8) fun _u13 M12 => (cV M12 9 m (fX9_writes m M12) fun _u15 M14 => (cV M14 9 m (fX9_does m (0 : Int32) M14) fun v17 M16 => fX9_calls_76 v9 M16)))))))) else some (v5, M4))) else (cV M2 9 m (fX9_isSame m v3 M2) fun v19 M18 => (if v19 = 0 then fX9_calls_29 (-4 : Int32) M18 else fX9_calls_29 v3 M18))) := by
    unfold fX9_calls
    rw [md_gJ hA, h30, md_o hA]
  have bk : fX9_byKey m (0 : Int32) key (N, SL, S, R, I, J) = some (if key = 0 then -1 else keyI (fky L key L.ne 0), (N, SL, S, R, I, J)) := byKey_M hA I J 0 (by decide) L hM h1.2.1 key
  rw [rest, bk, bd_some]
  by_cases wk : key ≠ 0 ∧ ansB L key l ≠ -1
  · rw [if_pos wk, if_neg wk.1]
    cases hf : fky L key L.ne 0 with
    | none => exact absurd (show ansB L key l = -1 by unfold ansB; rw [hf]; rfl) wk.2
    | some i =>
      have hi := fky_lt L.ne 0 i hf
      have ea : ansB L key l = if sameB L i l then nI i else -4 := by unfold ansB; rw [hf]; rfl
      show RTo N SL S R m I0 J0 nw (L.st L.ne) (if nI i = (-1 : Int32) then _ else _) _
      rw [if_neg (nI_n1 i (by omega)), md_o hA]
      show RTo N SL S R m I0 J0 nw (L.st L.ne) (bd (fX9_isSame m (nI i) (N, SL, S, R, I, J)) _) _
      rw [isSame_M hA I J L hB hL l hrow hby.get hl i (by omega), bd_some, ea]
      unfold fX9_calls_29
      by_cases w : sameB L i l
      · rw [if_pos w, if_neg (show ¬ (1 : Int32) = 0 by decide), if_pos w]
        exact same I J _ KF.refl
      · rw [if_neg w, if_pos rfl, if_neg w]
        exact same I J _ KF.refl
  · rw [if_neg wk]
    have hm1 : (if key = 0 then -1 else keyI (fky L key L.ne 0)) = (-1 : Int32) := by
      by_cases w0 : key = 0
      · rw [if_pos w0]
      · rw [if_neg w0]
        cases hf : fky L key L.ne 0 with
        | none => rfl
        | some i =>
          refine absurd ⟨w0, ?_⟩ wk
          have hi := fky_lt L.ne 0 i hf
          have ea : ansB L key l = if sameB L i l then nI i else -4 := by unfold ansB; rw [hf]; rfl
          rw [ea]
          by_cases w : sameB L i l
          · rw [if_pos w]; exact nI_n1 i (by omega)
          · rw [if_neg w]; decide
    have r1' : fX9_refused m (0 : Int32) (N, SL, S, R, I, J) = some (r, (N, SL, S, R, I1, J1)) := r1
    rw [hm1, if_pos rfl, md_o hA, r1', bd_some]
    by_cases wr : ¬ r = 0
    · rw [if_neg wr, if_pos wr]
      exact same I1 J1 r r2
    have wr : r = 0 := Decidable.not_not.mp wr
    rw [if_pos wr, if_neg (fun q => q wr)]
    obtain ⟨i1, i2, i3, i4, i5⟩ := hL1 wr
    have m1 := r2.rep hM
    have b1 : MBy m I1 L := hB.congr (fun c a b => r2.by.1 c (by omega) b) r2.by.2
    have d1 : DaOk m I1 nw (L.st L.ne) := fun k hk => by rw [r2.by.1 (m + 19) (by omega) (by omega)]; exact hD k hk
    obtain ⟨I2, w1, w2, w3, w4⟩ := writes_M (SL := SL) hA I1 J1 L m1.1.2.1 b1 hL i2 l r3 hl nw d1
    obtain ⟨I3, J3, x1, x2, x3, x4⟩ := r4 wr I2 w2
    have x1' : fX9_does m (0 : Int32) (N, SL, S, R, I2, J1) = some (nI L.ne, (N, SL, S, R, I3, J3)) := x1
    have stn : L1.st L1.ne = L.st L.ne + l.length := by
      rw [i3, i5]
      show up L.st (L.ne + 1) (L.st L.ne + l.length) (L.ne + 1) = _
      rw [up_eq]
    have b3 : MBy m I3 L1 := ((w3 (0, 0, 0, noL, 0, 0, 0)).same (L' := L1) i3 i4 i5).congr (fun c a b => x2.by.1 c (by omega) b) x2.by.2
    have d3 : DaOk m I3 (nwU nw (L.st L.ne) L1) (L1.st L1.ne) := fun k hk => by
      rw [stn] at hk
      rw [x2.by.1 (m + 19) (by omega) (by omega), w4 (0, 0, 0, noL, 0, 0, 0) k hk]
      unfold nwU
      rw [i4]
    have f3 : OF m I0 I3 J0 J3 := ((h0.trans r2.of).trans w2.of).trans x2.of
    rw [md_o hA, w1, bd_some, md_o hA, x1', bd_some, md_f4 hA]
    show RTo N SL S R m I0 J0 nw (L.st L.ne) (rI _ .boolean _ (nI 0) _) _
    rw [md_r5 hA (by omega), x4]
    unfold mvT fX9_calls_76
    by_cases wd : Due L1
    · rw [if_pos wd, if_neg (show ¬ (1 : Int32) = 0 by decide), if_pos wd]
      have hn1 := i1.1
      obtain ⟨I4, J4, t1, t2, t3, t4⟩ := trial_M (SL := SL) (z := 0) hA (by decide) I3 J3 L1 x3 hn1.1
      have t1' : fX9_trial m (0 : Int32) (N, SL, S, R, I3, J3) = some ((), (N, SL, S, R, I4, J4)) := t1
      have m4 := t2.rep x3
      have b4 : MBy m I4 L1 := b3.congr (fun c a b => t2.by.1 c (by omega) b) t2.by.2
      have d4 : DaOk m I4 (nwU nw (L.st L.ne) L1) (L1.st L1.ne) := fun k hk => by rw [t2.by.1 (m + 19) (by omega) (by omega)]; exact d3 k hk
      obtain ⟨I5, u1, u2, u3, u4⟩ := writes_M (SL := SL) hA I4 J4 L1 m4.1.2.1 b4 i1 wd.2.2 _ t4 (by show 18 ≤ 82; decide) _ d4
      obtain ⟨I6, J6, v1, v2, v3, v4⟩ := does_trial (SL := SL) (z := 0) hA (by decide) I5 J4 L1 (u2.rep m4) i1 wd.2.2 noL (-1) (-1) 0 (u2.call (t3 noL))
      have v1' : fX9_does m (0 : Int32) (N, SL, S, R, I5, J4) = some (nI L1.ne, (N, SL, S, R, I6, J6)) := v1
      refine ⟨I6, J6, ?_, v3, ?_, ?_, (((f3.trans t2.of).trans u2.of).trans v2.of)⟩
      · rw [md_o hA, t1', bd_some, md_o hA, u1, bd_some, md_o hA, v1', bd_some]
      · exact ((u3 (7, 0, 0, (fun _ => (0, 0)), -1, 0, 0)).same (L' := trl L1) rfl rfl rfl).congr (fun c a b => v2.by.1 c (by omega) b) v2.by.2
      · intro k hk
        have hk' : k < L1.st L1.ne + (7 :: L1.na :: tbL (pS L1.ba L1.na)).length := by
          have e : (trl L1).st (trl L1).ne = L1.st L1.ne + (7 :: L1.na :: tbL (pS L1.ba L1.na)).length := up_eq
          rw [← e]; exact hk
        rw [v2.by.1 (m + 19) (by omega) (by omega), u4 (7, 0, 0, (fun _ => (0, 0)), -1, 0, 0) k hk']
        unfold nwU
        show nI (if k < L1.st L1.ne then (if k < L.st L.ne then nw k else L1.yb k) else (trl L1).yb k) = nI (if k < L.st L.ne then nw k else (trl L1).yb k)
        have yb : k < L1.st L1.ne → (trl L1).yb k = L1.yb k := fun q => if_neg (fun z => by omega)
        by_cases w5 : k < L1.st L1.ne
        · rw [if_pos w5, yb w5]
        · rw [if_neg w5, if_neg (by omega)]
    · rw [if_neg wd, if_pos rfl, if_neg wd]
      exact ⟨I3, J3, rfl, x3, b3, d3, f3⟩
end RefI
