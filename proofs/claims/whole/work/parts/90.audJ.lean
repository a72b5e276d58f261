-- P6: the audit: the reference's loop and its call
def auR (X : Int32) : Option Nat → Int32
  | some i => nI i
  | none => X
theorem trl_yb {A : Lg} {j : Nat} (h : j < 18) : (trl A).yb (A.st A.ne + j) = (trB A).getD j 0 := by
  show (if A.st A.ne ≤ A.st A.ne + j ∧ A.st A.ne + j < A.st A.ne + 18 then (trB A).getD (A.st A.ne + j - A.st A.ne) 0 else A.yb (A.st A.ne + j)) = _
  rw [if_pos ⟨by omega, by omega⟩, show A.st A.ne + j - A.st A.ne = j by omega]
theorem trl_nd {A : Lg} : ¬ Due (trl A) := fun q => by
  have a : 0 < A.ev := q.1
  have b : A.ev ≤ 0 := q.2.1
  omega
section AudJ
variable {N SL : Nat} {S : Nat → Shp} {R : Nat → Nat → Option Nat} {m : Nat}
theorem stp_all (hA : MdAt N S R m) (I : Nat → Nat → Int32) (J : Nat → Nat → Int64) (z : Nat → Nat) (hz : ∀ k, z k < 256) (T : Nat) (hT : T ≤ 16400) (A : Lg) (hs : A.st A.ne + szL z T (A.st A.ne) ≤ T) (h66 : I m 66 = nI (A.st A.ne)) (hD : DM m I z T) (hM : MRep m 1 I J A) (hL : LInv A) (hnd : ¬ Due A) (hne : A.ne < 200) (h7 : z (A.st A.ne) ≠ 7) (k46 : Nat → Int32 → Mem → Option (Int32 × Mem)) (l1 : Int32) :
    Out N SL S R m I J z A (A.st A.ne + szL z T (A.st A.ne)) k46 l1 (G46 k46 m l1 (nI (A.st A.ne + szL z T (A.st A.ne))) (N, SL, S, R, I, J)) (callL z A (A.st A.ne)).2 := by
  by_cases w1 : z (A.st A.ne) = 1
  · have e : szL z T (A.st A.ne) = 9 := by unfold szL; rw [if_pos w1]
    rw [e] at hs ⊢
    exact stp_open hA I J z hz T hT A hs h66 hD hM hL hnd hne w1
  by_cases w2 : z (A.st A.ne) = 2
  · by_cases v : T ≤ A.st A.ne + 9
    · exfalso
      have e : szL z T (A.st A.ne) = 17000 := by unfold szL; rw [if_neg w1, if_pos w2, if_pos v]
      omega
    · have e : szL z T (A.st A.ne) = 10 + 9 * z (A.st A.ne + 9) := by unfold szL; rw [if_neg w1, if_pos w2, if_neg v]
      rw [e] at hs ⊢
      exact stp_post hA I J z hz T hT A hs h66 hD hM hL w2
  by_cases w3 : z (A.st A.ne) = 3
  · have e : szL z T (A.st A.ne) = 18 := by unfold szL; rw [if_neg w1, if_neg w2, if_pos w3]
    rw [e] at hs ⊢
    exact stp_hold hA I J z hz T hT A hs h66 hD hM hL hnd w3
  by_cases w4 : z (A.st A.ne) = 4
  · have e : szL z T (A.st A.ne) = 3 := by unfold szL; rw [if_neg w1, if_neg w2, if_neg w3, if_pos w4]
    rw [e] at hs ⊢
    exact stp_rel hA I J z hz T hT A hs h66 hD hM hL hnd w4
  by_cases w5 : z (A.st A.ne) = 5
  · have e : szL z T (A.st A.ne) = 20 := by unfold szL; rw [if_neg w1, if_neg w2, if_neg w3, if_neg w4, if_pos w5]
    rw [e] at hs ⊢
    exact stp_cap hA I J z hz T hT A hs h66 hD hM hL w5
  by_cases w6 : z (A.st A.ne) = 6
  · have e : szL z T (A.st A.ne) = 11 := by unfold szL; rw [if_neg w1, if_neg w2, if_neg w3, if_neg w4, if_neg w5, if_pos w6]
    rw [e] at hs ⊢
    exact stp_rev hA I J z hz T hT A hs h66 hD hM hL w6
  · exfalso
    have e : szL z T (A.st A.ne) = 17000 := by unfold szL; rw [if_neg w1, if_neg w2, if_neg w3, if_neg w4, if_neg w5, if_neg w6, if_neg h7]
    omega
set_option maxHeartbeats 4000000 in
theorem audM_loop (hA : MdAt N S R m) {T : Nat} {D : Nat → Nat} (hT : T ≤ 16400) (hD : ∀ k, D k < 256) {n : Nat} {a v : Nat → Nat} {et : Nat → Option Nat} (hmo : ∀ k, k + 1 < n → a k < a (k + 1)) (h1 : ∀ k, k < n → et (a k) = some (v k)) (h2 : ∀ i, et i ≠ none → ∃ k, k < n ∧ a k = i) (hEt : ∀ i n, et i = some n → n ≤ 50) (I0 : Nat → Nat → Int32) (J0 : Nat → Nat → Int64) (X : Int32) (hfin : ∀ I' J', AF m I0 I' J0 J' → fX9_audit_224 FU m 0 (N, SL, S, R, I', J') = some (X, (N, SL, S, R, I', J'))) : ∀ (q i fuel t : Nat) (I : Nat → Nat → Int32) (J : Nat → Nat → Int64) (A C : Lg), i + q = 201 → q < fuel → AF m I0 I J0 J → DM m I (zD D T) T → TO m I n a v → MRep m 1 I J A → LInv A → A.ne = i → I m 66 = nI (A.st i) → I (m + 5) 1 = (if Due A then 1 else 0) → ((¬ Due A ∧ C.ne = i ∧ C.st i = A.st i ∧ A = tellL et C i ∧ TI n a t (i + 1)) ∨ (Due A ∧ C = trl A ∧ TI n a t i)) →
    ∃ (I' : Nat → Nat → Int32) (J' : Nat → Nat → Int64), fX9_audit_46 fuel m (nI t) (N, SL, S, R, I, J) = some (auR X (audL D T et q C i), (N, SL, S, R, I', J')) ∧ AF m I0 I' J0 J'
  | 0, i, fuel, t, I, J, A, C, hq, hf, haf, hdm, hto, hM, hL, hi, h66, h5, hc => by
    have := hL.1
    omega
  | q + 1, i, fuel, t, I, J, A, C, hq, hf, haf, hdm, hto, hM, hL, hi, h66, h5, hc => by
    obtain ⟨y, rfl⟩ : ∃ y, fuel = y + 1 := ⟨fuel - 1, by omega⟩
    have hne := hL.1.2.1
    have hz := zD_lt (T := T) hD
    have hst := hL.st_le i (by omega)
    obtain ⟨z, hzz⟩ : ∃ z, z = zD D T := ⟨_, rfl⟩
    have hzD : ∀ k, k < T → z k = D k := fun k hk => by rw [hzz]; exact zD_in hk
    have hsz := callL_sz (D := D) (T := T) A
    rw [← hzz] at hz hdm hsz
    subst hi
    rw [aud46 hA I J z hz T (A.st A.ne) hT (by omega) h66 hdm A hM hne y, audL]
    rcases hc with ⟨hnd, c1, c2, c3, c4⟩ | ⟨hdu, c1, c2⟩
    · rw [if_neg hnd] at h5
      have hnx : nxtL D T et C A.ne = (callL z A (A.st A.ne)).2 := by
        unfold nxtL
        rw [← c3, if_pos rfl, hzz]
      obtain ⟨k1, k2, k3⟩ := callL_keeps hz hL hnd (A.st A.ne)
      rw [hnx]
      by_cases w : T ≤ A.st A.ne
      · rw [if_pos w, if_pos h5, if_neg (show ¬ (A.ne < C.ne ∨ C.st A.ne < T) by omega)]
        exact ⟨I, J, hfin I J haf, haf⟩
      rw [if_neg w, if_pos (show A.ne < C.ne ∨ C.st A.ne < T from Or.inr (by omega))]
      by_cases v1 : T < A.st A.ne + szL z T (A.st A.ne) ∨ A.ne = 200
      · have bad : (callL z A (A.st A.ne)).2.ne = A.ne ∨ ¬ stdL D T (callL z A (A.st A.ne)).2 A.ne := by
          rcases v1 with v1 | v1
          · exact hsz.elim Or.inl (fun x => Or.inr (fun y => by have := y.1; omega))
          · have x1 := k1.1.2.1
            have x2 := k2.1
            exact Or.inl (by omega)
        rw [if_pos v1, if_pos bad]
        exact ⟨I, J, rfl, haf⟩
      rw [if_neg v1]
      have e1 : ¬ T < A.st A.ne + szL z T (A.st A.ne) := fun x => v1 (Or.inl x)
      have e2 : A.ne ≠ 200 := fun x => v1 (Or.inr x)
      by_cases w7 : z (A.st A.ne) = 7
      · rw [if_neg (fun x => x.2 w7), a121_no hA h5 hM, if_pos (show (callL z A (A.st A.ne)).2.ne = A.ne ∨ ¬ stdL D T (callL z A (A.st A.ne)).2 A.ne from Or.inl (by rw [callL_7 w7]))]
        exact ⟨I, J, rfl, haf⟩
      rw [if_pos ⟨h5, w7⟩]
      rcases stp_all (SL := SL) hA I J z hz T hT A (by omega) h66 hdm hM hL hnd (by omega) w7 (fX9_audit_46 y) (nI t) with ⟨o1, I', J', o2, o3⟩ | ⟨A1, I', J', ⟨o1, o2, o3, o4, o5⟩, o6, o7, o8, o9⟩
      · rw [o2, if_pos (show (callL z A (A.st A.ne)).2.ne = A.ne ∨ ¬ stdL D T (callL z A (A.st A.ne)).2 A.ne from Or.inl o1)]
        exact ⟨I', J', rfl, haf.trans o3⟩
      obtain ⟨ee, he⟩ : ∃ ee, ee = A.st A.ne + szL z T (A.st A.ne) := ⟨_, rfl⟩
      rw [← he] at o4 o5 o6 e1 ⊢
      have s1 : A1.st A1.ne = ee := by rw [o3, o4, up_eq]
      have s0 : A1.st A.ne = A.st A.ne := by rw [o4, up_ne (by omega)]
      have x1 := ext_mvT (L := A1) (L' := A1) Ext.refl
      have s2 : (mvT A1).st (A.ne + 1) = ee := by rw [← o3, mvT_st, s1]
      have s3 : (mvT A1).st A.ne = A.st A.ne := by rw [x1.2 A.ne (by omega), s0]
      have hstd : stdL D T (callL z A (A.st A.ne)).2 A.ne := by
        rw [o1]
        refine ⟨by rw [s2]; omega, fun k q1 q2 => ?_⟩
        rw [s2] at q1
        rw [s3] at q2
        rw [mvT_yb A1 (by rw [s1]; exact q1), o5 k q1 q2, hzD k (by omega)]
      have hn1 : (callL z A (A.st A.ne)).2.ne ≠ A.ne := by
        rw [o1]
        have := x1.1
        omega
      rw [o6, if_neg (show ¬ ((callL z A (A.st A.ne)).2.ne = A.ne ∨ ¬ stdL D T (callL z A (A.st A.ne)).2 A.ne) from fun x => x.elim hn1 (fun x => x hstd)), o1]
      have f1 : AF m I' (u2 I' m 66 (nI ee)) J' J' := (NP.set (m := m) (I := I') (x := nI ee)).af
      have m1 : MRep m 1 (u2 I' m 66 (nI ee)) J' A1 := (NP.set (m := m) (I := I') (x := nI ee)).rep o8
      have g5 : u2 I' m 66 (nI ee) (m + 5) 1 = (if Due A1 then 1 else 0) := by rw [u2_o (by omega)]; exact o9
      have af1 := (haf.trans o7).trans f1
      have to1 := (o7.trans f1).to hto
      have dm1 := (o7.trans f1).dm hdm
      by_cases dA : Due A1
      · rw [if_pos dA] at g5
        rw [T46_mk hA (tell0 hA t _ J' to1 A1 m1 o2.1.2.1 (Nat.le_trans c4.1 (Nat.le_refl _)) (Or.inr g5) 999999)]
        exact audM_loop hA hT hD hmo h1 h2 hEt I0 J0 X hfin q (A.ne + 1) y t _ J' A1 (mvT A1) (by omega) (by omega) af1 (by rw [← hzz]; exact dm1) to1 m1 o2 o3 (by rw [u2_i, ← s1, o3]) (by rw [g5, if_pos dA]) (Or.inr ⟨dA, mvT_due dA, c4⟩)
      · rw [if_neg dA] at g5
        obtain ⟨t', I2, b1, b2, b3, b4, b5, b6⟩ := tells_1 (SL := SL) hA hmo h1 h2 t (A.ne + 1) c4 _ J' to1 A1 m1 dA g5 o3.symm o2.1.2.1 999998
        obtain ⟨p1, p2, p3, p4, p5⟩ := tell_ok hEt o2 dA (A.ne + 1)
        rw [T46_mk hA b1, mvT_no dA]
        exact audM_loop hA hT hD hmo h1 h2 hEt I0 J0 X hfin q (A.ne + 1) y t' I2 J' (tellL et A1 (A.ne + 1)) A1 (by omega) (by omega) (af1.trans b3) (by rw [← hzz]; exact b3.dm dm1) (b3.to to1) b4 p1 (by rw [p3, o3]) (by rw [b6, u2_i, p4, ← s1, o3]) (by rw [b5, if_neg p2]) (Or.inl ⟨p2, o3, by rw [p4], rfl, b2⟩)
    · rw [if_pos hdu] at h5
      have h10 : ¬ I (m + 5) 1 = 0 := by rw [h5]; decide
      have hlt := hdu.2.2
      have hLt := trl_inv hL hlt
      obtain ⟨p1, p2, p3, p4, p5⟩ := tell_ok hEt hLt trl_nd A.ne
      have cn : (trl A).ne = A.ne + 1 := rfl
      have cs1 : (trl A).st (A.ne + 1) = A.st A.ne + 18 := by
        show up A.st (A.ne + 1) (A.st A.ne + 18) (A.ne + 1) = _
        rw [up_eq]
      have cs0 : (trl A).st A.ne = A.st A.ne := by
        show up A.st (A.ne + 1) (A.st A.ne + 18) A.ne = _
        rw [up_ne (by omega)]
      have hnx : nxtL D T et C A.ne = tellL et (trl A) A.ne := by
        unfold nxtL
        rw [c1, if_neg (by rw [p3, cn]; omega)]
      have hn1 : (tellL et (trl A) A.ne).ne ≠ A.ne := by rw [p3, cn]; omega
      have s1 : stdL D T (tellL et (trl A) A.ne) A.ne → A.st A.ne + 18 ≤ T ∧ ∀ j, j < 18 → z (A.st A.ne + j) = (trB A).getD j 0 := by
        intro x
        have x1 := x.1
        rw [p4, cs1] at x1
        refine ⟨x1, fun j hj => ?_⟩
        have x2 := x.2 (A.st A.ne + j)
        rw [p4, cs1, cs0, p5, trl_yb hj] at x2
        rw [x2 (by omega) (by omega), hzD _ (by omega)]
      have s2 : A.st A.ne + 18 ≤ T → (∀ j, j < 18 → z (A.st A.ne + j) = (trB A).getD j 0) → stdL D T (tellL et (trl A) A.ne) A.ne := by
        intro x1 x2
        refine ⟨by rw [p4, cs1]; exact x1, fun k q1 q2 => ?_⟩
        rw [p4, cs1] at q1
        rw [p4, cs0] at q2
        rw [p5, ← hzD k (by omega)]
        have x3 := x2 (k - A.st A.ne) (by omega)
        have x4 := trl_yb (A := A) (j := k - A.st A.ne) (by omega)
        rw [show A.st A.ne + (k - A.st A.ne) = k by omega] at x3 x4
        rw [x3, x4]
      have s7 : z (A.st A.ne) = 7 → szL z T (A.st A.ne) = 18 := fun x => by
        unfold szL
        rw [if_neg (by omega), if_neg (by omega), if_neg (by omega), if_neg (by omega), if_neg (by omega), if_neg (by omega), if_pos x]
      rw [hnx, if_pos (show A.ne < C.ne ∨ C.st A.ne < T from Or.inl (by rw [c1, cn]; omega))]
      have bad : ∀ (q : ¬ stdL D T (tellL et (trl A) A.ne) A.ne), (tellL et (trl A) A.ne).ne = A.ne ∨ ¬ stdL D T (tellL et (trl A) A.ne) A.ne := fun q => Or.inr q
      by_cases w : T ≤ A.st A.ne
      · rw [if_pos w, if_neg h10, if_pos (bad (fun x => by have := (s1 x).1; omega))]
        exact ⟨I, J, rfl, haf⟩
      rw [if_neg w]
      by_cases v1 : T < A.st A.ne + szL z T (A.st A.ne) ∨ A.ne = 200
      · rw [if_pos v1, if_pos (bad (fun x => by
          obtain ⟨x1, x2⟩ := s1 x
          have x3 : z (A.st A.ne) = 7 := x2 0 (by decide)
          have := s7 x3
          omega))]
        exact ⟨I, J, rfl, haf⟩
      rw [if_neg v1, if_neg (fun x => h10 x.1)]
      have e1 : ¬ T < A.st A.ne + szL z T (A.st A.ne) := fun x => v1 (Or.inl x)
      obtain ⟨I1, J1, i1, i2, i3, i4⟩ := isTrial_M (SL := SL) hA I J z hz T (A.st A.ne) hT (by omega) (fun x => by have := s7 x; omega) h66 hdm A hM hL.1.1
      by_cases b : ∀ j, j < (trB A).length → z (A.st A.ne + j) = (trB A).getD j 0
      · rw [if_pos b] at i1
        have x7 : z (A.st A.ne) = 7 := b 0 (by rw [trB_len]; decide)
        have e18 := s7 x7
        rw [e18] at e1 ⊢
        obtain ⟨I2, J2, d1, d2, d3, d4⟩ := does_trial (SL := SL) (z := 1) hA (by decide) I1 J1 A i3 hL hlt noL (-1) (-1) 0 i4
        have f1 : AF m I2 (u2 I2 m 66 (nI (A.st A.ne + 18))) J2 J2 := (NP.set (m := m) (I := I2) (x := nI (A.st A.ne + 18))).af
        have m1 : MRep m 1 (u2 I2 m 66 (nI (A.st A.ne + 18))) J2 (trl A) := (NP.set (m := m) (I := I2) (x := nI (A.st A.ne + 18))).rep d3
        have f2 := (i2.trans d2.af).trans f1
        have to1 := f2.to hto
        have dm1 := f2.dm hdm
        have g5 : u2 I2 m 66 (nI (A.st A.ne + 18)) (m + 5) 1 = 0 := by rw [u2_o (by omega)]; exact d4
        obtain ⟨t', I3, b1, b2, b3, b4, b5, b6⟩ := tells_2 (SL := SL) hA hmo h1 h2 hEt t A.ne c2 _ J2 to1 (trl A) m1 hLt trl_nd g5 cn.symm 999997
        obtain ⟨r1, r2, r3, r4, r5⟩ := tell_ok hEt p1 p2 (A.ne + 1)
        rw [a121_1 hA h5 i1 d1, T46_mk hA b1, if_neg (show ¬ ((tellL et (trl A) A.ne).ne = A.ne ∨ ¬ stdL D T (tellL et (trl A) A.ne) A.ne) from fun x => x.elim hn1 (fun x => x (s2 (by omega) b)))]
        exact audM_loop hA hT hD hmo h1 h2 hEt I0 J0 X hfin q (A.ne + 1) y t' I3 J2 (tellL et (tellL et (trl A) A.ne) (A.ne + 1)) (tellL et (trl A) A.ne) (by omega) (by omega) ((haf.trans f2).trans b3) (by rw [← hzz]; exact b3.dm dm1) (b3.to to1) b4 r1 (by rw [r3, p3, cn]) (by rw [b6, u2_i, r4, p4, cs1]) (by rw [b5, if_neg r2]) (Or.inl ⟨r2, by rw [p3, cn], by rw [r4], rfl, b2⟩)
      · rw [if_neg b] at i1
        rw [a121_0 hA h5 i1 i3, if_pos (bad (fun x => b (s1 x).2))]
        exact ⟨I1, J1, rfl, haf.trans i2⟩
theorem a236 (hA : MdAt N S R m) (I : Nat → Nat → Int32) (J : Nat → Nat → Int64) (L : Lg) (hL : LInv L) (nw : Nat → Nat) (hn : ∀ k, nw k < 256) (hB : MBy m I L) (hD : DaOk m I nw (L.st L.ne)) (i : Nat) (hi : i < L.ne) (k224 : Nat → Int32 → Mem → Option (Int32 × Mem)) : ∀ (q k fuel : Nat), L.st i + k + q = L.st (i + 1) → q < fuel → (∀ j, j < k → nw (L.st i + j) = L.yb (L.st i + j)) →
    fX9_audit_236 k224 fuel m (nI i) (nI k) (N, SL, S, R, I, J) = if (∀ k, k < L.st (i + 1) → L.st i ≤ k → nw k = L.yb k) then k224 m (nI (i + 1)) (N, SL, S, R, I, J) else some (nI i, (N, SL, S, R, I, J))
  | 0, k, fuel, hk, hf, h => by
    obtain ⟨y, rfl⟩ : ∃ y, fuel = y + 1 := ⟨fuel - 1, by omega⟩
    have h1 := hL.1
    have h2 := hL.st_in hi
    rw [fX9_audit_236, md_f22 hA, md_r22 hA (by omega), (hB.2.1 i hi).2, if_pos ((nI_leI (by omega) (by omega)).mpr (by omega)), nI_1, if_pos (fun j q1 q2 => by
      have := h (j - L.st i) (by omega)
      rw [show L.st i + (j - L.st i) = j by omega] at this
      exact this)]
  | q + 1, k, fuel, hk, hf, h => by
    obtain ⟨y, rfl⟩ : ∃ y, fuel = y + 1 := ⟨fuel - 1, by omega⟩
    have h1 := hL.1
    have h2 := hL.st_in hi
    rw [fX9_audit_236, md_f22 hA, md_r22 hA (by omega), (hB.2.1 i hi).2, if_neg (nI_lt_of (by omega) (by omega)), md_f18 hA, md_f21 hA, md_r21 hA (by omega), (hB.2.1 i hi).1, nI_add, md_r19 hA (by omega), hD _ (by omega), md_f19 hA, md_f21 hA, md_r21 hA (by omega), (hB.2.1 i hi).1, nI_add, md_r20 hA (by omega), hB.2.2 _ (by omega)]
    by_cases w : nw (L.st i + k) = L.yb (L.st i + k)
    · rw [if_pos (by rw [w]), nI_1]
      exact a236 hA I J L hL nw hn hB hD i hi k224 q (k + 1) y (by omega) (by omega) (fun j hj => by
        by_cases u : j = k
        · rw [u]; exact w
        · exact h j (by omega))
    · rw [if_neg (fun x => w ((nI_eq (by have := hn (L.st i + k); omega) (by have := hL.2.1.2.2 (L.st i + k); omega)).mp x)), if_neg (fun x : (∀ k, k < L.st (i + 1) → L.st i ≤ k → nw k = L.yb k) => w (x _ (by omega) (by omega)))]
theorem a224 (hA : MdAt N S R m) (I : Nat → Nat → Int32) (J : Nat → Nat → Int64) (L : Lg) (hL : LInv L) (nw : Nat → Nat) (hn : ∀ k, nw k < 256) (hM : MRep m 0 I J L) (hB : MBy m I L) (hD : DaOk m I nw (L.st L.ne)) : ∀ (q i fuel : Nat), i + q = L.ne → q < fuel →
    fX9_audit_224 fuel m (nI i) (N, SL, S, R, I, J) = some (etI (difI L nw q i), (N, SL, S, R, I, J))
  | 0, i, fuel, hq, hf => by
    obtain ⟨y, rfl⟩ : ∃ y, fuel = y + 1 := ⟨fuel - 1, by omega⟩
    have h1 := hL.1
    rw [fX9_audit_224, md_f1 hA, r20 hA, hM.1.2.1, if_pos ((nI_leI (by omega) (by omega)).mpr (by omega)), difI]
    rfl
  | q + 1, i, fuel, hq, hf => by
    obtain ⟨y, rfl⟩ : ∃ y, fuel = y + 1 := ⟨fuel - 1, by omega⟩
    have h1 := hL.1
    have h3 := hL.2.1.2.1 i (by omega)
    have e := a236 (SL := SL) hA I J L hL nw hn hB hD i (by omega) (fX9_audit_224 y) (L.st (i + 1) - L.st i) 0 FU (by omega) (by unfold FU; omega) (fun j hj => absurd hj (Nat.not_lt_zero _))
    rw [fX9_audit_224, md_f1 hA, r20 hA, hM.1.2.1, if_neg (nI_lt_of (by omega) (by omega)), show fX9_audit_236 (fX9_audit_224 y) FU m (nI i) (0 : Int32) (N, SL, S, R, I, J) = fX9_audit_236 (fX9_audit_224 y) FU m (nI i) (nI 0) (N, SL, S, R, I, J) from rfl, e, difI]
    by_cases w : ∀ k, k < L.st (i + 1) → L.st i ≤ k → nw k = L.yb k
    · rw [if_pos w, if_pos w]
      exact a224 hA I J L hL nw hn hM hB hD q (i + 1) y (by omega) (by omega)
    · rw [if_neg w, if_neg w]
      rfl
theorem AF.ma {I I' : Nat → Nat → Int32} {J J' : Nat → Nat → Int64} (f : AF 759 I I' J J') {L : Lg} (hL : LInv L) {tn : Nat} {tl : Nat → Nat × Int64} {nw : Nat → Nat} {et : Nat → Option Nat} (h : MA I J L tn tl nw et) : MA I' J' L tn tl nw et := by
  have h1 := hL.1
  obtain ⟨a1, a2, a3, a4, a5⟩ := h
  have fI : ∀ c j, ¬ Aw 759 c j → I' c j = I c j := f.1
  have fJ : ∀ c j, ¬ Aw 759 c j → J' c j = J c j := f.2
  unfold Aw Own Hf at fI fJ
  have st := hL.st_le L.ne (Nat.le_refl _)
  refine ⟨MRep.congr h1.1 h1.2.1 (fun i hi => (hL.2.2.1 i hi).1.2.2.2) (fun c j x => fI c j (by unfold Hf at x; omega)) (fun c j x => fJ c j (by unfold Hf at x; omega)) a1, ⟨?_, ?_, ?_⟩, ?_, ⟨?_, a4.2.1, ?_⟩, ?_⟩
  · rw [fI 759 20 (by omega)]; exact a2.1
  · intro i hi
    rw [fI (759 + 21) i (by omega), fI (759 + 22) i (by omega)]
    exact a2.2.1 i hi
  · intro k hk
    rw [fI (759 + 20) k (by omega)]
    exact a2.2.2 k hk
  · intro k hk
    rw [fI (759 + 19) k (by omega)]
    exact a3 k hk
  · rw [fI 759 37 (by omega)]; exact a4.1
  · intro k hk
    rw [fI (759 + 29) k (by omega), fJ (759 + 30) k (by omega)]
    exact a4.2.2 k hk
  · exact a5.congr (Nat.le_refl _) (fI _ _ (by omega)) (funext fun j => fI _ _ (by omega)) (funext fun j => fI _ _ (by omega))
end AudJ
