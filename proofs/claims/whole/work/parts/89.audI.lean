-- P6: the audit: what an entry that is called again has of bytes; the reference's loop, its pieces
def SzP (C : Lg) (w : Nat) (r : Int32 × Lg) : Prop := r.2.ne = C.ne ∨ r.2.st (C.ne + 1) = w
theorem SzP.ite {C : Lg} {w : Nat} {c : Prop} [Decidable c] {x y : Int32 × Lg} (h1 : c → SzP C w x) (h2 : ¬ c → SzP C w y) : SzP C w (if c then x else y) := by
  by_cases q : c
  · rw [if_pos q]; exact h1 q
  · rw [if_neg q]; exact h2 q
theorem SzP.same {C : Lg} {w : Nat} {x : Int32} : SzP C w (x, C) := Or.inl rfl
theorem SzP.mk {C : Lg} {w : Nat} {r : Int32 × Lg} (h : r.2.st = up C.st (C.ne + 1) (C.st C.ne + w)) : SzP C (C.st C.ne + w) r := Or.inr (by rw [h, up_eq])
theorem mvT_st (L : Lg) : (mvT L).st L.ne = L.st L.ne := by
  unfold mvT
  by_cases q : 0 < L.ev ∧ L.ev ≤ L.si ∧ L.ne < 200
  · rw [if_pos q]; exact up_ne (by omega)
  · rw [if_neg q]
theorem mvT_yb (L : Lg) {k : Nat} (h : k < L.st L.ne) : (mvT L).yb k = L.yb k := by
  unfold mvT
  by_cases q : 0 < L.ev ∧ L.ev ≤ L.si ∧ L.ne < 200
  · rw [if_pos q]
    exact if_neg (fun x => by omega)
  · rw [if_neg q]
theorem mvT_due {L : Lg} (h : Due L) : mvT L = trl L := if_pos h
theorem SzP.mv {C L1 : Lg} {w : Nat} {x : Int32} (h : L1.st = up C.st (C.ne + 1) (C.st C.ne + w)) (hn : L1.ne = C.ne + 1) : SzP C (C.st C.ne + w) (x, mvT L1) := by
  refine Or.inr ?_
  show (mvT L1).st (C.ne + 1) = _
  rw [← hn, mvT_st, h, hn, up_eq]
theorem lPost_len (key : Int64) (n : Nat) (lg : Nat → Nat × Int64) : (lPost key n lg).length = 10 + 9 * n := by
  unfold lPost
  simp [lB_len, lgB_len]
  omega
theorem callL_sz {D : Nat → Nat} {T : Nat} (C : Lg) : SzP C (C.st C.ne + szL (zD D T) T (C.st C.ne)) (callL (zD D T) C (C.st C.ne)) := by
  obtain ⟨z, hz⟩ : ∃ z, z = zD D T := ⟨_, rfl⟩
  have hz9 : T ≤ C.st C.ne + 9 → z (C.st C.ne + 9) = 0 := fun q => by rw [hz]; exact if_neg (by omega)
  rw [← hz]
  unfold callL szL
  by_cases w1 : z (C.st C.ne) = 1
  · rw [if_pos w1, if_pos w1]
    unfold aOpen
    exact SzP.ite (fun _ => SzP.same) (fun _ => SzP.ite (fun _ => SzP.same) (fun _ => SzP.ite (fun _ => SzP.same) (fun _ => SzP.mk (w := 9) rfl)))
  rw [if_neg w1, if_neg w1]
  by_cases w2 : z (C.st C.ne) = 2
  · rw [if_pos w2, if_pos w2]
    by_cases v : T ≤ C.st C.ne + 9
    · refine SzP.ite (fun _ => ?_) (fun _ => SzP.same)
      unfold cPost
      rw [if_pos (Or.inl (hz9 v))]
      exact SzP.same
    · rw [if_neg v]
      refine SzP.ite (fun _ => ?_) (fun _ => SzP.same)
      unfold cPost aPost
      refine SzP.ite (fun _ => SzP.same) (fun _ => SzP.ite (fun _ => SzP.same) (fun _ => SzP.ite (fun _ => SzP.same) (fun _ => SzP.ite (fun _ => SzP.same) (fun _ => SzP.ite (fun _ => SzP.same) (fun _ => ?_)))))
      refine SzP.mv ?_ rfl
      rw [← lPost_len (rd z (C.st C.ne + 1) 8) (z (C.st C.ne + 9)) (rLgs z (C.st C.ne + 9))]
      rfl
  rw [if_neg w2, if_neg w2]
  by_cases w3 : z (C.st C.ne) = 3
  · rw [if_pos w3, if_pos w3]
    unfold cHold aHold
    exact SzP.ite (fun _ => SzP.same) (fun _ => SzP.ite (fun _ => SzP.same) (fun _ => SzP.ite (fun _ => SzP.same) (fun _ => SzP.ite (fun _ => SzP.same) (fun _ => SzP.ite (fun _ => SzP.same) (fun _ => SzP.mk (w := 18) rfl)))))
  rw [if_neg w3, if_neg w3]
  by_cases w4 : z (C.st C.ne) = 4
  · rw [if_pos w4, if_pos w4]
    unfold cRel aRel
    exact SzP.ite (fun _ => SzP.same) (fun _ => SzP.ite (fun _ => SzP.same) (fun _ => SzP.ite (fun _ => SzP.same) (fun _ => SzP.mk (w := 3) rfl)))
  rw [if_neg w4, if_neg w4]
  by_cases w5 : z (C.st C.ne) = 5
  · rw [if_pos w5, if_pos w5]
    unfold cCap aCap
    exact SzP.ite (fun _ => SzP.same) (fun _ => SzP.ite (fun _ => SzP.same) (fun _ => SzP.ite (fun _ => SzP.same) (fun _ => SzP.ite (fun _ => SzP.same) (fun _ => SzP.mv (w := 20) rfl rfl))))
  rw [if_neg w5, if_neg w5]
  by_cases w6 : z (C.st C.ne) = 6
  · rw [if_pos w6, if_pos w6]
    unfold cRev aRev
    exact SzP.ite (fun _ => SzP.same) (fun _ => SzP.ite (fun _ => SzP.same) (fun _ => SzP.ite (fun _ => SzP.same) (fun _ => SzP.ite (fun _ => SzP.same) (fun _ => SzP.ite (fun _ => SzP.same) (fun _ => SzP.mv (w := 11) rfl rfl)))))
  rw [if_neg w6, if_neg w6]
  exact SzP.same
theorem szL_le {z : Nat → Nat} (hz : ∀ k, z k < 256) (T p : Nat) : szL z T p ≤ 17000 := by
  have := hz (p + 9)
  unfold szL
  repeat' split
  all_goals omega
theorem callL_7 {z : Nat → Nat} {C : Lg} {p : Nat} (h : z p = 7) : callL z C p = (-1, C) := by
  unfold callL
  rw [if_neg (by omega), if_neg (by omega), if_neg (by omega), if_neg (by omega), if_neg (by omega), if_neg (by omega)]
section AudI
variable {N SL : Nat} {S : Nat → Shp} {R : Nat → Nat → Option Nat} {m : Nat} {I I1 I2 : Nat → Nat → Int32} {J J1 J2 : Nat → Nat → Int64} {k46 : Nat → Int32 → Mem → Option (Int32 × Mem)} {l1 e : Int32} {A : Lg}
theorem r51 {β : Type} {k : Int32 → Option β} (hA : MdAt N S R m) : rI (N, SL, S, R, I, J) .boolean (m + 5) (1 : Int32) k = k (I (m + 5) 1) := md_r5 (j := 1) hA (by decide)
theorem r21 {β : Type} {k : Int32 → Option β} (hA : MdAt N S R m) : rI (N, SL, S, R, I, J) .int (m + 2) (1 : Int32) k = k (I (m + 2) 1) := md_r2 (j := 1) hA (by decide)
theorem r20 {β : Type} {k : Int32 → Option β} (hA : MdAt N S R m) : rI (N, SL, S, R, I, J) .int (m + 2) (0 : Int32) k = k (I (m + 2) 0) := md_r2 (j := 0) hA (by decide)
theorem a121_no (hA : MdAt N S R m) (h5 : I (m + 5) 1 = 0) (hM : MRep m 1 I J A) : fX9_audit_121 k46 m l1 e (N, SL, S, R, I, J) = some (nI A.ne, (N, SL, S, R, I, J)) := by
  unfold fX9_audit_121 fX9_audit_141 fX9_audit_142 fX9_audit_175
  rw [md_f4 hA, r51 hA, if_pos h5, if_pos rfl, md_f1 hA, r21 hA, hM.1.2.1]
theorem a121_0 (hA : MdAt N S R m) (h5 : I (m + 5) 1 = 1) (hi : fX9_isTrial m (N, SL, S, R, I, J) = some (0, (N, SL, S, R, I1, J1))) (hM : MRep m 1 I1 J1 A) : fX9_audit_121 k46 m l1 e (N, SL, S, R, I, J) = some (nI A.ne, (N, SL, S, R, I1, J1)) := by
  unfold fX9_audit_121 fX9_audit_141 fX9_audit_142 fX9_audit_175
  rw [md_f4 hA, r51 hA, h5, if_neg (by decide), md_o hA, hi, bd_some, if_pos rfl, if_pos rfl, md_f1 hA, r21 hA, hM.1.2.1]
theorem a121_1 (hA : MdAt N S R m) (h5 : I (m + 5) 1 = 1) (hi : fX9_isTrial m (N, SL, S, R, I, J) = some (1, (N, SL, S, R, I1, J1))) {x : Int32} (hd : fX9_does m (nI 1) (N, SL, S, R, I1, J1) = some (x, (N, SL, S, R, I2, J2))) : fX9_audit_121 k46 m l1 e (N, SL, S, R, I, J) = T46 k46 m l1 e (N, SL, S, R, I2, J2) := by
  have hd' : fX9_does m (1 : Int32) (N, SL, S, R, I1, J1) = some (x, (N, SL, S, R, I2, J2)) := hd
  unfold fX9_audit_121 fX9_audit_141 fX9_audit_142 fX9_audit_175
  rw [md_f4 hA, r51 hA, h5, if_neg (by decide), md_o hA, hi, bd_some, if_neg (by decide), if_neg (by decide), md_o hA, hd', bd_some]
theorem T46_mk (hA : MdAt N S R m) {t : Int32} {t' : Nat} (ht : fX9_tells_2 FU m t (N, SL, S, R, u2 I m 66 e, J) = some (nI t', (N, SL, S, R, I1, J))) : T46 k46 m t e (N, SL, S, R, I, J) = k46 m (nI t') (N, SL, S, R, I1, J) := by
  show pI (N, SL, S, R, I, J) 9 66 m e _ = _
  rw [md_p hA, md_o hA]
  unfold fX9_tells
  rw [ht, bd_some]
theorem aud46 (hA : MdAt N S R m) (I : Nat → Nat → Int32) (J : Nat → Nat → Int64) (z : Nat → Nat) (hz : ∀ k, z k < 256) (T p : Nat) (hT : T ≤ 16400) (hp : p ≤ 16400) (h66 : I m 66 = nI p) (hD : DM m I z T) (A : Lg) (hM : MRep m 1 I J A) (hne : A.ne ≤ 200) (y : Nat) (l1 : Int32) :
    fX9_audit_46 (y + 1) m l1 (N, SL, S, R, I, J) = (if T ≤ p then (if I (m + 5) 1 = 0 then fX9_audit_224 FU m 0 (N, SL, S, R, I, J) else some (nI A.ne, (N, SL, S, R, I, J))) else if T < p + szL z T p ∨ A.ne = 200 then some (nI A.ne, (N, SL, S, R, I, J)) else if I (m + 5) 1 = 0 ∧ z p ≠ 7 then G46 (fX9_audit_46 y) m l1 (nI (p + szL z T p)) (N, SL, S, R, I, J) else fX9_audit_121 (fX9_audit_46 y) m l1 (nI (p + szL z T p)) (N, SL, S, R, I, J)) := by
  have hs := szL_le hz T p
  rw [fX9_audit_46, md_g hA, h66, md_g hA, hD.1]
  by_cases w : T ≤ p
  · rw [if_pos ((nI_leI (by omega) (by omega)).mpr w), if_pos w, md_f4 hA, r51 hA]
    by_cases v : I (m + 5) 1 = 0
    · rw [if_pos v, if_pos v]
    · rw [if_neg v, if_neg v, md_f1 hA, r21 hA, hM.1.2.1]
  · rw [if_neg (nI_lt_of (by omega) (by omega)), if_neg w, md_g hA, h66, md_g hA, h66, md_o hA, sizeOf_M hA I J z hz T p hT (by omega) hD, bd_some, md_g hA, hD.1, nI_add]
    unfold fX9_audit_91
    by_cases v : T < p + szL z T p
    · rw [if_pos (nI_lt v (by omega)), if_pos (Or.inl v), md_f1 hA, r21 hA, hM.1.2.1]
    rw [if_neg (nI_nlt (by omega) (by omega)), md_f1 hA, r21 hA, hM.1.2.1]
    by_cases u : A.ne = 200
    · rw [if_pos (show nI A.ne = (200 : Int32) by rw [u]; rfl), if_pos (Or.inr u), md_f1 hA, r21 hA, hM.1.2.1]
    rw [if_neg (show ¬ nI A.ne = (200 : Int32) from fun q => u ((nI_eq (b := 200) (by omega) (by decide)).mp q)), if_neg (fun q => q.elim v u), md_f4 hA, r51 hA]
    by_cases f : I (m + 5) 1 = 0
    · rw [if_pos f, md_f18 hA, md_g hA, h66, md_r19 hA (by omega), hD.2 _ (by omega)]
      by_cases g : z p = 7
      · rw [if_pos (show nI (z p) = (7 : Int32) by rw [g]; rfl), if_neg (fun q => q.2 g)]
      · rw [if_neg (show ¬ nI (z p) = (7 : Int32) from fun q => g ((nI_eq (b := 7) (by have := hz p; omega) (by decide)).mp q)), if_pos ⟨f, g⟩]
        rfl
    · rw [if_neg f, if_neg (fun q => f q.1)]
theorem tells_1 (hA : MdAt N S R m) {n : Nat} {a v : Nat → Nat} {et : Nat → Option Nat} (hmo : ∀ k, k + 1 < n → a k < a (k + 1)) (h1 : ∀ k, k < n → et (a k) = some (v k)) (h2 : ∀ i, et i ≠ none → ∃ k, k < n ∧ a k = i) (t i : Nat) (hti : TI n a t i) (I : Nat → Nat → Int32) (J : Nat → Nat → Int64) (hto : TO m I n a v) (A : Lg) (hM : MRep m 1 I J A) (hnd : ¬ Due A) (h5 : I (m + 5) 1 = 0) (hi : i = A.ne) (hne : A.ne ≤ 200) (y : Nat) :
    ∃ (t' : Nat) (I' : Nat → Nat → Int32), fX9_tells_2 (y + 2) m (nI t) (N, SL, S, R, I, J) = some (nI t', (N, SL, S, R, I', J)) ∧ TI n a t' (i + 1) ∧ AF m I I' J J ∧ MRep m 1 I' J (tellL et A i) ∧ I' (m + 5) 1 = 0 ∧ I' m 66 = I m 66 := by
  obtain ⟨t', y', I', a1, a2, a3, a4, a5, a6, a7⟩ := tell1 (SL := SL) hA hmo h1 h2 t i hti I J hto A hM hnd h5 (by omega) hne y
  have en : (tellL et A i).ne = A.ne := by
    unfold tellL
    cases et i <;> rfl
  refine ⟨t', I', ?_, a3, a4, a5, a6, a7⟩
  rw [a1]
  exact tell0 hA t' I' J (a4.to hto) _ a5 (by omega) a3.1 (Or.inl (fun k hk hk' => by have := a3.2.2 k hk hk'; omega)) y'
theorem tells_2 (hA : MdAt N S R m) {n : Nat} {a v : Nat → Nat} {et : Nat → Option Nat} (hmo : ∀ k, k + 1 < n → a k < a (k + 1)) (h1 : ∀ k, k < n → et (a k) = some (v k)) (h2 : ∀ i, et i ≠ none → ∃ k, k < n ∧ a k = i) (hEt : ∀ i n, et i = some n → n ≤ 50) (t i : Nat) (hti : TI n a t i) (I : Nat → Nat → Int32) (J : Nat → Nat → Int64) (hto : TO m I n a v) (A : Lg) (hM : MRep m 1 I J A) (hL : LInv A) (hnd : ¬ Due A) (h5 : I (m + 5) 1 = 0) (hi : i + 1 = A.ne) (y : Nat) :
    ∃ (t' : Nat) (I' : Nat → Nat → Int32), fX9_tells_2 (y + 3) m (nI t) (N, SL, S, R, I, J) = some (nI t', (N, SL, S, R, I', J)) ∧ TI n a t' (i + 1 + 1) ∧ AF m I I' J J ∧ MRep m 1 I' J (tellL et (tellL et A i) (i + 1)) ∧ I' (m + 5) 1 = 0 ∧ I' m 66 = I m 66 := by
  have hne := hL.1.2.1
  obtain ⟨t1, y1, I1, a1, a2, a3, a4, a5, a6, a7⟩ := tell1 (SL := SL) hA hmo h1 h2 t i hti I J hto A hM hnd h5 (by omega) hne (y + 1)
  obtain ⟨t1', t2', t3', t4', t5'⟩ := tell_ok hEt hL hnd i
  obtain ⟨y2, rfl⟩ : ∃ y2, y1 = y2 + 1 := ⟨y1 - 1, by omega⟩
  obtain ⟨t2, I2, b1, b2, b3, b4, b5, b6⟩ := tells_1 (SL := SL) hA hmo h1 h2 t1 (i + 1) a3 I1 J (a4.to hto) (tellL et A i) a5 t2' a6 (by omega) (by omega) y2
  exact ⟨t2, I2, by rw [a1]; exact b1, b2, a4.trans b3, b4, b5, by rw [b6, a7]⟩
end AudI
