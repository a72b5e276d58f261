-- P6: the audit: one entry that the reference reads (open, hold, release)
abbrev T46 (k46 : Nat → Int32 → Mem → Option (Int32 × Mem)) (m : Nat) (l1 l2 : Int32) (M : Mem) : Option (Int32 × Mem) := pI M 9 66 m l2 fun M3 => (cV M3 9 m (fX9_tells m l1 M3) fun v5 M4 => k46 m v5 M4)
def G46 (k46 : Nat → Int32 → Mem → Option (Int32 × Mem)) (l0 : Nat) (l1 e : Int32) (M : Mem) : Option (Int32 × Mem) := (cV M 9 l0 (fX9_reads l0 M) fun v20 M19 => (if v20 = 0 then fX9_audit_173 k46 l0 l1 e M19 else (gI M19 9 26 l0 fun v21 => (if v21 = (1 : Int32) then fX9_audit_169 k46 l0 l1 e M19 else (cV M19 9 l0 (fX9_refused l0 (1 : Int32) M19) fun v23 M22 => (if v23 = 0 then fX9_audit_169 k46 l0 l1 e M22 else fX9_audit_173 k46 l0 l1 e M22))))))
/-- what a step of the reference comes to, against the ledger C that the class has then -/
def Out (N SL : Nat) (S : Nat → Shp) (R : Nat → Nat → Option Nat) (m : Nat) (I : Nat → Nat → Int32) (J : Nat → Nat → Int64) (z : Nat → Nat) (A : Lg) (e : Nat) (k46 : Nat → Int32 → Mem → Option (Int32 × Mem)) (l1 : Int32) (x : Option (Int32 × Mem)) (C : Lg) : Prop :=
  (C.ne = A.ne ∧ ∃ (I' : Nat → Nat → Int32) (J' : Nat → Nat → Int64), x = some (nI A.ne, (N, SL, S, R, I', J')) ∧ AF m I I' J J') ∨
  ∃ (A1 : Lg) (I' : Nat → Nat → Int32) (J' : Nat → Nat → Int64), (C = mvT A1 ∧ LInv A1 ∧ A1.ne = A.ne + 1 ∧ A1.st = up A.st (A.ne + 1) e ∧ ∀ k, k < e → A.st A.ne ≤ k → A1.yb k = z k) ∧ x = T46 k46 m l1 (nI e) (N, SL, S, R, I', J') ∧ AF m I I' J J' ∧ MRep m 1 I' J' A1 ∧ I' (m + 5) 1 = (if Due A1 then 1 else 0)
theorem made_ok {A A1 : Lg} {x : En} {l : List Nat} {z : Nat → Nat} {w e : Nat} (h2 : A1.yb = (app A x l).yb) (h3 : A1.st = (app A x l).st) (hl : l = lst z (A.st A.ne) w) (he : e = A.st A.ne + w) : A1.st = up A.st (A.ne + 1) e ∧ ∀ k, k < e → A.st A.ne ≤ k → A1.yb k = z k := by
  have hw : l.length = w := by rw [hl, lst_len]
  refine ⟨?_, fun k h1 h4 => ?_⟩
  · rw [h3, he, ← hw]; rfl
  · rw [h2]
    show (if A.st A.ne ≤ k ∧ k < A.st A.ne + l.length then l.getD (k - A.st A.ne) 0 else A.yb k) = z k
    rw [if_pos ⟨h4, by omega⟩, hl, lst_get z w _ _ (by omega), show A.st A.ne + (k - A.st A.ne) = k by omega]
theorem sh_n {n : Nat} (h : n < 65536) : (((nI n).toInt16.toInt32 < 0 ∨ 199 < (nI n).toInt16.toInt32) ↔ 200 ≤ n) ∧ (n < 200 → (nI n).toInt16.toInt32 = nI n) := by
  have e0 : (nI n).toInt = (n : Int) := by
    show (BitVec.ofNat 32 n).toInt = _
    rw [BitVec.toInt_eq_toNat_cond, BitVec.toNat_ofNat, Nat.mod_eq_of_lt (by omega), if_pos (by omega)]
  have e : (nI n).toInt16.toInt32.toInt = (n : Int).bmod 65536 := by
    rw [Int16.toInt_toInt32, Int32.toInt_toInt16, e0]
  have hb : (n : Int).bmod 65536 = if n < 32768 then (n : Int) else (n : Int) - 65536 := by
    rw [Int.bmod_def]
    split <;> split <;> omega
  refine ⟨?_, fun h2 => ?_⟩
  · rw [Int32.lt_iff_toInt_lt, Int32.lt_iff_toInt_lt, e, hb, show (0 : Int32).toInt = 0 from rfl, show (199 : Int32).toInt = 199 from rfl]
    split <;> omega
  · apply Int32.toInt_inj.mp
    rw [e, hb, e0, if_pos (by omega)]
theorem nI_200 {n : Nat} (h : n < 65536) : (nI n < 0 ∨ 200 ≤ nI n) ↔ 200 ≤ n := ⟨fun q => q.elim (fun q => absurd q (nI_ge0 (by omega))) (fun q => (nI_leI (a := 200) (by decide) (by omega)).mp q), fun q => Or.inr ((nI_leI (a := 200) (by decide) (by omega)).mpr q)⟩
theorem nm2_lt {z : Nat → Nat} (hz : ∀ k, z k < 256) (a : Nat) : nmN z a 2 < 65536 := nm_lt z hz a 2
section AudE
variable {N SL : Nat} {S : Nat → Shp} {R : Nat → Nat → Option Nat} {m : Nat} {I I1 I2 I3 : Nat → Nat → Int32} {J J1 J2 J3 : Nat → Nat → Int64} {A : Lg} {k46 : Nat → Int32 → Mem → Option (Int32 × Mem)} {l1 e : Int32}
theorem no_M (hA : MdAt N S R m) (hM : MRep m 1 I J A) : fX9_audit_173 k46 m l1 e (N, SL, S, R, I, J) = some (nI A.ne, (N, SL, S, R, I, J)) := by
  unfold fX9_audit_173 fX9_audit_174 fX9_audit_175
  rw [if_pos rfl, md_f1 hA, show rI (N, SL, S, R, I, J) .int (m + 2) (1 : Int32) = rI (N, SL, S, R, I, J) .int (m + 2) (nI 1) from rfl, md_r2 hA (by decide), hM.1.2.1]
theorem yes_M (hA : MdAt N S R m) {x : Int32} (h : fX9_does m (nI 1) (N, SL, S, R, I, J) = some (x, (N, SL, S, R, I1, J1))) : fX9_audit_169 k46 m l1 e (N, SL, S, R, I, J) = T46 k46 m l1 e (N, SL, S, R, I1, J1) := by
  have h' : fX9_does m (1 : Int32) (N, SL, S, R, I, J) = some (x, (N, SL, S, R, I1, J1)) := h
  unfold fX9_audit_169 fX9_audit_174 fX9_audit_175
  rw [if_neg (by decide), md_o hA, h', bd_some]
theorem G_no (hA : MdAt N S R m) (h : fX9_reads m (N, SL, S, R, I, J) = some (0, (N, SL, S, R, I1, J1))) (hM : MRep m 1 I1 J1 A) : G46 k46 m l1 e (N, SL, S, R, I, J) = some (nI A.ne, (N, SL, S, R, I1, J1)) := by
  unfold G46
  rw [md_o hA, h, bd_some, if_pos rfl, no_M hA hM]
theorem G_open (hA : MdAt N S R m) (h : fX9_reads m (N, SL, S, R, I, J) = some (1, (N, SL, S, R, I1, J1))) (h26 : I1 m 26 = nI 1) {x : Int32} (hd : fX9_does m (nI 1) (N, SL, S, R, I1, J1) = some (x, (N, SL, S, R, I2, J2))) : G46 k46 m l1 e (N, SL, S, R, I, J) = T46 k46 m l1 e (N, SL, S, R, I2, J2) := by
  unfold G46
  rw [md_o hA, h, bd_some, if_neg (by decide), md_g hA, h26, if_pos (show nI 1 = (1 : Int32) from rfl), yes_M hA hd]
theorem G_ref (hA : MdAt N S R m) (h : fX9_reads m (N, SL, S, R, I, J) = some (1, (N, SL, S, R, I1, J1))) {kd : Nat} (hk : kd < 10) (hk1 : kd ≠ 1) (h26 : I1 m 26 = nI kd) {r : Int32} (hr : fX9_refused m (nI 1) (N, SL, S, R, I1, J1) = some (r, (N, SL, S, R, I2, J2))) (r0 : r ≠ 0) (hM : MRep m 1 I2 J2 A) : G46 k46 m l1 e (N, SL, S, R, I, J) = some (nI A.ne, (N, SL, S, R, I2, J2)) := by
  have hr' : fX9_refused m (1 : Int32) (N, SL, S, R, I1, J1) = some (r, (N, SL, S, R, I2, J2)) := hr
  unfold G46
  rw [md_o hA, h, bd_some, if_neg (by decide), md_g hA, h26, if_neg (show ¬ nI kd = (1 : Int32) from fun q => hk1 ((kd_is hk (by decide)).mp q)), md_o hA, hr', bd_some, if_neg r0, no_M hA hM]
theorem G_yes (hA : MdAt N S R m) (h : fX9_reads m (N, SL, S, R, I, J) = some (1, (N, SL, S, R, I1, J1))) {kd : Nat} (hk : kd < 10) (hk1 : kd ≠ 1) (h26 : I1 m 26 = nI kd) {r : Int32} (hr : fX9_refused m (nI 1) (N, SL, S, R, I1, J1) = some (r, (N, SL, S, R, I2, J2))) (r0 : r = 0) {x : Int32} (hd : fX9_does m (nI 1) (N, SL, S, R, I2, J2) = some (x, (N, SL, S, R, I3, J3))) : G46 k46 m l1 e (N, SL, S, R, I, J) = T46 k46 m l1 e (N, SL, S, R, I3, J3) := by
  have hr' : fX9_refused m (1 : Int32) (N, SL, S, R, I1, J1) = some (r, (N, SL, S, R, I2, J2)) := hr
  unfold G46
  rw [md_o hA, h, bd_some, if_neg (by decide), md_g hA, h26, if_neg (show ¬ nI kd = (1 : Int32) from fun q => hk1 ((kd_is hk (by decide)).mp q)), md_o hA, hr', bd_some, if_pos r0, yes_M hA hd]
theorem NP.kf66 {I' : Nat → Nat → Int32} (h : KF m I I' J J1) : I' m 66 = I m 66 := h.2.1 66 (by omega)
theorem reads_open (hA : MdAt N S R m) (I : Nat → Nat → Int32) (J : Nat → Nat → Int64) (z : Nat → Nat) (hz : ∀ k, z k < 256) (T p : Nat) (hT : T ≤ 16400) (hp : p + 9 ≤ T) (h66 : I m 66 = nI p) (hD : DM m I z T) (A : Lg) (hM : MRep m 1 I J A) (hL : LInv A) (hk : z p = 1) :
    ∃ (I' : Nat → Nat → Int32) (J' : Nat → Nat → Int64), fX9_reads m (N, SL, S, R, I, J) = some (if 0 < rd z (p + 1) 8 ∨ 40 ≤ A.na then 0 else 1, (N, SL, S, R, I', J')) ∧ AF m I I' J J' ∧ MRep m 1 I' J' A ∧ CallOk I' J' m 1 0 0 noL (-1) (-1) (rd z (p + 1) 8) := by
  have h1 := hL.1
  have n0 : NP m I (u2 I m 66 (nI (p + 1))) := NP.set
  obtain ⟨I1, J1, a1, a2, a3, a4⟩ := begins_M (SL := SL) hA (u2 I m 66 (nI (p + 1))) J 1 (by decide) 0
  have m1 := a2.rep (n0.rep hM)
  have f1 := (n0.af (J := J)).trans a2.af
  obtain ⟨I2, b1, b2, b3⟩ := num_M (SL := SL) hA I1 J1 z hz T (p + 1) 8 hT (by decide) (by omega) (by rw [NP.kf66 a2, u2_i]) (f1.dm hD)
  have kJ : KF m I2 I2 J1 (u2 J1 m 31 (rd z (p + 1) 8)) := ⟨fun _ _ _ => rfl, fun _ _ => rfl, fun c q _ _ => u2_ne q, fun j hj => by rw [u2_at, up_ne (by omega)]⟩
  refine ⟨I2, u2 J1 m 31 (rd z (p + 1) 8), ?_, (f1.trans b2.af).trans kJ.af, kJ.rep (b2.rep m1), ?_⟩
  · rw [np_M hA I J z T p hT (by omega) h66 hD 1 hk (Or.inl rfl)]
    unfold fX9_reads_84
    rw [md_o hA, a1, bd_some, if_neg (by decide), if_neg (by decide), if_neg (by decide)]
    unfold fX9_reads_117
    rw [if_neg (by decide), if_neg (by decide), if_neg (by decide)]
    unfold fX9_reads_149
    rw [if_neg (by decide), if_neg (by decide)]
    unfold fX9_reads_169
    rw [if_neg (by decide), if_neg (by decide), if_pos (by decide)]
    unfold fX9_reads_184
    rw [md_o hA, show (8 : Int32) = nI 8 from rfl, b1, bd_some, md_pJ hA]
    unfold fX9_reads_194 fX9_reads_223 fX9_reads_224
    rw [if_pos (by decide), md_gJ hA, u2_i]
    by_cases w : 0 < rd z (p + 1) 8
    · rw [if_pos w, if_pos (Or.inl w), retZ_0]
    · rw [if_neg w, md_f0 hA, show rI (N, SL, S, R, I2, u2 J1 m 31 (rd z (p + 1) 8)) .int (m + 1) (1 : Int32) = rI (N, SL, S, R, I2, u2 J1 m 31 (rd z (p + 1) 8)) .int (m + 1) (nI 1) from rfl, md_r1 hA (by decide), (b2.rep m1).1.1]
      by_cases v : 40 ≤ A.na
      · rw [if_pos (show (40 : Int32) ≤ nI A.na from (nI_leI (a := 40) (by decide) (by omega)).mpr v), if_pos (Or.inr v), retZ_0]
      · rw [if_neg (show ¬ (40 : Int32) ≤ nI A.na from nI_lt_of (k := 40) (by decide) (by omega)), if_neg (fun q => q.elim w v), retZ_1]
  · obtain ⟨q1, q2, q3, q4, q5, q6⟩ := b2.call (a3 noL)
    exact ⟨q1, by rw [u2_at, up_ne (by decide)]; exact q2, ⟨q3.1, q3.2.1, fun k hk => absurd hk (by omega)⟩, q4, q5, u2_i⟩
theorem stp_open (hA : MdAt N S R m) (I : Nat → Nat → Int32) (J : Nat → Nat → Int64) (z : Nat → Nat) (hz : ∀ k, z k < 256) (T : Nat) (hT : T ≤ 16400) (A : Lg) (hp : A.st A.ne + 9 ≤ T) (h66 : I m 66 = nI (A.st A.ne)) (hD : DM m I z T) (hM : MRep m 1 I J A) (hL : LInv A) (hnd : ¬ Due A) (hne : A.ne < 200) (hk : z (A.st A.ne) = 1) :
    Out N SL S R m I J z A (A.st A.ne + 9) k46 l1 (G46 k46 m l1 (nI (A.st A.ne + 9)) (N, SL, S, R, I, J)) (callL z A (A.st A.ne)).2 := by
  obtain ⟨I1, J1, a1, a2, a3, a4⟩ := reads_open (SL := SL) hA I J z hz T (A.st A.ne) hT hp h66 hD A hM hL hk
  unfold callL
  rw [if_pos hk]
  unfold aOpen
  by_cases w : 0 < rd z (A.st A.ne + 1) 8 ∨ 40 ≤ A.na
  · rw [if_pos w] at a1
    refine Or.inl ⟨?_, I1, J1, G_no hA a1 a3, a2⟩
    rcases w with w | w
    · rw [if_pos w]
    · split
      · rfl
      · rw [if_neg (show ¬ 200 ≤ A.ne by omega)]
  · rw [if_neg w] at a1
    obtain ⟨I2, J2, b1, b2, b3, b4⟩ := does_open (SL := SL) (z := 1) hA (by decide) I1 J1 A a3 hL hne (by
      have : ¬ 40 ≤ A.na := fun q => w (Or.inr q)
      omega) (rd z (A.st A.ne + 1) 8) (-1) (-1) a4
    have hna : A.na < 40 := by
      have : ¬ 40 ≤ A.na := fun q => w (Or.inr q)
      omega
    refine Or.inr ⟨openL A (rd z (A.st A.ne + 1) 8), I2, J2, ⟨?_, open_inv hL hne hna (fun q => w (Or.inl q)), rfl, ?_⟩, G_open hA a1 a4.1 b1, a2.trans b2.af, b3, b4⟩
    · rw [if_neg (fun q => w (Or.inl q)), if_neg (by omega), if_neg (by omega), mvT_no (show ¬ Due (openL A (rd z (A.st A.ne + 1) 8)) from nd_next hnd rfl rfl rfl)]
    · refine made_ok (A := A) (x := (0, 0, 0, noL, 0, 0, 0)) (l := lOpen (rd z (A.st A.ne + 1) 8)) (w := 9) rfl rfl ?_ rfl
      unfold lOpen
      rw [lB_rd z hz]
      show 1 :: lst z (A.st A.ne + 1) 8 = z (A.st A.ne) :: lst z (A.st A.ne + 1) 8
      rw [hk]
theorem e106 (hA : MdAt N S R m) (I : Nat → Nat → Int32) (J : Nat → Nat → Int64) (z : Nat → Nat) (hz : ∀ k, z k < 256) (T a : Nat) (hT : T ≤ 16400) (ha : a + 2 ≤ T) (h66 : I m 66 = nI a) (hD : DM m I z T) (kd : Nat) (key : Int64) (hc : ∀ lg, CallOk I J m kd key 0 lg (-1) (-1) 0) :
    ∃ I1 : Nat → Nat → Int32, fX9_reads_106 m (nI kd) (N, SL, S, R, I, J) = fX9_reads_117 m (nI kd) (N, SL, S, R, I1, J) ∧ AF m I I1 J J ∧ I1 m 66 = nI (a + 2) ∧ (∀ lg, CallOk I1 J m kd key 0 lg ((nI (nmN z a 2)).toInt16.toInt32) (-1) 0) ∧ ∀ zz L, MRep m zz I J L → MRep m zz I1 J L := by
  obtain ⟨I1, b1, b2, b3⟩ := num_M (SL := SL) hA I J z hz T a 2 hT (by decide) ha h66 hD
  have kI : KF m I1 (u2 I1 m 28 ((nI (nmN z a 2)).toInt16.toInt32)) J J := ⟨fun c q _ => u2_ne q, fun j hj => by rw [u2_at, up_ne (by omega)], fun _ _ _ _ => rfl, fun _ _ => rfl⟩
  refine ⟨u2 I1 m 28 ((nI (nmN z a 2)).toInt16.toInt32), ?_, (b2.af (J := J)).trans kI.af, by rw [u2_at, up_ne (by decide)]; exact b3, fun lg => ?_, fun zz L h => kI.rep (b2.rep h)⟩
  · unfold fX9_reads_106
    rw [md_o hA, show (2 : Int32) = nI 2 from rfl, b1, bd_some, md_p hA, l2i_n]
  · obtain ⟨q1, q2, q3, q4, q5, q6⟩ := b2.call (hc lg)
    exact ⟨by rw [u2_at, up_ne (by decide)]; exact q1, q2, ⟨by rw [u2_at, up_ne (by decide)]; exact q3.1, q3.2.1, fun k hk => absurd hk (by omega)⟩, u2_i, by rw [u2_at, up_ne (by decide)]; exact q5, q6⟩
theorem e117 (hA : MdAt N S R m) (I : Nat → Nat → Int32) (J : Nat → Nat → Int64) (n : Nat) (hn : n < 65536) (h28 : I m 28 = (nI n).toInt16.toInt32) (kd : Nat) (hk : kd = 4 ∨ kd = 5 ∨ kd = 6) : fX9_reads_117 m (nI kd) (N, SL, S, R, I, J) = if 200 ≤ n then some (0, (N, SL, S, R, I, J)) else fX9_reads_149 m (nI kd) (N, SL, S, R, I, J) := by
  have e : fX9_reads_133 m (nI kd) (N, SL, S, R, I, J) = if 200 ≤ n then some (0, (N, SL, S, R, I, J)) else fX9_reads_149 m (nI kd) (N, SL, S, R, I, J) := by
    unfold fX9_reads_133
    rw [md_g hA, h28, in_mk, bd_some]
    by_cases w : 200 ≤ n
    · rw [if_pos ((sh_n hn).1.mpr w), if_pos rfl, if_pos w, retZ_0]
    · rw [if_neg (fun q => w ((sh_n hn).1.mp q)), if_neg (by decide), if_neg w]
  unfold fX9_reads_117
  rcases hk with rfl | rfl | rfl
  · rw [if_neg (by decide), if_pos (by decide), e]
  · rw [if_pos (by decide), e]
  · rw [if_neg (by decide), if_neg (by decide), if_pos (by decide), e]
theorem reads_rel (hA : MdAt N S R m) (I : Nat → Nat → Int32) (J : Nat → Nat → Int64) (z : Nat → Nat) (hz : ∀ k, z k < 256) (T p : Nat) (hT : T ≤ 16400) (hp : p + 3 ≤ T) (h66 : I m 66 = nI p) (hD : DM m I z T) (A : Lg) (hM : MRep m 1 I J A) (hk : z p = 4) :
    ∃ (I' : Nat → Nat → Int32) (J' : Nat → Nat → Int64), fX9_reads m (N, SL, S, R, I, J) = some (if 200 ≤ nmN z (p + 1) 2 then 0 else 1, (N, SL, S, R, I', J')) ∧ AF m I I' J J' ∧ MRep m 1 I' J' A ∧ (nmN z (p + 1) 2 < 200 → CallOk I' J' m 4 0 0 noL (nI (nmN z (p + 1) 2)) (-1) 0) := by
  have n0 : NP m I (u2 I m 66 (nI (p + 1))) := NP.set
  obtain ⟨I1, J1, a1, a2, a3, a4⟩ := begins_M (SL := SL) hA (u2 I m 66 (nI (p + 1))) J 4 (by decide) 0
  have f1 := (n0.af (J := J)).trans a2.af
  obtain ⟨I2, b1, b2, b3, b4, b5⟩ := e106 (SL := SL) hA I1 J1 z hz T (p + 1) hT (by omega) (by rw [NP.kf66 a2, u2_i]) (f1.dm hD) 4 0 a3
  have hn := nm2_lt hz (p + 1)
  refine ⟨I2, J1, ?_, f1.trans b2, b5 1 A (a2.rep (n0.rep hM)), fun q => ?_⟩
  · rw [np_M hA I J z T p hT (by omega) h66 hD 4 hk (Or.inr rfl)]
    unfold fX9_reads_84
    rw [md_o hA, a1, bd_some, if_neg (by decide), if_pos (by decide), b1, e117 hA I2 J1 _ hn (b4 noL).2.2.2.1 4 (Or.inl rfl)]
    by_cases w : 200 ≤ nmN z (p + 1) 2
    · rw [if_pos w, if_pos w]
    · rw [if_neg w, if_neg w]
      unfold fX9_reads_149
      rw [if_neg (by decide), if_neg (by decide)]
      unfold fX9_reads_169
      rw [if_neg (by decide), if_neg (by decide), if_neg (by decide)]
      unfold fX9_reads_194 fX9_reads_262 fX9_reads_267
      rw [if_neg (by decide), if_neg (by decide), if_neg (by decide), if_neg (by decide), retZ_1]
  · rw [← (sh_n hn).2 q]
    exact b4 noL
theorem lRel_rd {z : Nat → Nat} {p : Nat} (hk : z p = 4) (h : nmN z (p + 1) 2 < 200) : lRel (nmN z (p + 1) 2) = lst z p 3 := by
  rw [nm_2] at h ⊢
  have e1 : z (p + 1) = 0 := by omega
  unfold lRel
  rw [e1, Nat.zero_mul, Nat.zero_add]
  show [4, 0, z (p + 1 + 1)] = [z p, z (p + 1), z (p + 1 + 1)]
  rw [hk, e1]
theorem stp_rel (hA : MdAt N S R m) (I : Nat → Nat → Int32) (J : Nat → Nat → Int64) (z : Nat → Nat) (hz : ∀ k, z k < 256) (T : Nat) (hT : T ≤ 16400) (A : Lg) (hp : A.st A.ne + 3 ≤ T) (h66 : I m 66 = nI (A.st A.ne)) (hD : DM m I z T) (hM : MRep m 1 I J A) (hL : LInv A) (hnd : ¬ Due A) (hk : z (A.st A.ne) = 4) :
    Out N SL S R m I J z A (A.st A.ne + 3) k46 l1 (G46 k46 m l1 (nI (A.st A.ne + 3)) (N, SL, S, R, I, J)) (callL z A (A.st A.ne)).2 := by
  obtain ⟨I1, J1, a1, a2, a3, a4⟩ := reads_rel (SL := SL) hA I J z hz T (A.st A.ne) hT hp h66 hD A hM hk
  have hn := nm2_lt hz (A.st A.ne + 1)
  unfold callL
  rw [if_neg (by omega), if_neg (by omega), if_neg (by omega), if_pos hk]
  unfold cRel
  by_cases w : 200 ≤ nmN z (A.st A.ne + 1) 2
  · rw [if_pos w] at a1
    rw [if_pos ((nI_200 hn).mpr w)]
    exact Or.inl ⟨rfl, I1, J1, G_no hA a1 a3, a2⟩
  rw [if_neg w] at a1
  rw [if_neg (fun q => w ((nI_200 hn).mp q)), nI_clamp (by omega)]
  obtain ⟨e, he⟩ : ∃ e, e = nmN z (A.st A.ne + 1) 2 := ⟨_, rfl⟩
  have cc := a4 (by omega)
  have hl := lRel_rd (p := A.st A.ne) hk (by omega)
  rw [← he] at cc hl w ⊢
  have hby : ByL (lRel e) := (ByL.one (by decide)).app (ByL.two (by decide) (by omega))
  obtain ⟨J2, e1, e2⟩ := refused_rel (SL := SL) hA I1 J1 1 (by decide) A a3 hL 0 noL e (by omega) (-1) 0 cc
  rw [← aRel_eq e hnd, if_neg (fun q => q.1 rfl)]
  by_cases r0 : rRel A e = 0
  · have r1 : (e < A.ne ∧ thB (A.es e) = true) ∧ A.ne < 200 := by
      unfold rRel at r0
      by_cases w1 : ¬ (e < A.ne ∧ thB (A.es e) = true)
      · rw [if_pos w1] at r0; exact absurd r0 (by decide)
      rw [if_neg w1] at r0
      by_cases w3 : 200 ≤ A.ne
      · rw [if_pos w3] at r0; exact absurd r0 (by decide)
      exact ⟨Decidable.not_not.mp w1, by omega⟩
    obtain ⟨I6, J6, g1, g2, g3, g4⟩ := does_rel (SL := SL) (z := 1) hA (by decide) I1 J2 A (a3.j28 e2) hL r1.2 e r1.1.1 r1.1.2 (-1) 0 (cc.j28 e2)
    rw [if_neg (fun q => q r0)]
    refine Or.inr ⟨app (A.ends e (nI A.ne)) (4, 0, 0, noL, -1, 0, 0) (lRel e), I6, J6, ⟨rfl, ?_, rfl, ?_⟩, G_yes hA a1 (kd := 4) (by decide) (by decide) cc.1 e1 r0 g1, (a2.trans (KF.j28 e2).af).trans g2.af, g3 _, g4⟩
    · exact app_plain (ends_inv hL r1.1.1 r1.1.2) r1.2 (new_plain (by show 3 ≤ 3; decide) (by show 3 ≤ 82; decide) hby rfl (by decide) (by decide) (by decide)) (show 4 ≠ 3 by decide)
    · exact made_ok (A := A) (x := (0, 0, 0, noL, 0, 0, 0)) (l := lRel e) (w := 3) rfl rfl hl rfl
  · rw [if_pos r0]
    exact Or.inl ⟨rfl, I1, J2, G_ref hA a1 (kd := 4) (by decide) (by decide) cc.1 e1 r0 (a3.j28 e2), a2.trans (KF.j28 e2).af⟩
end AudE
