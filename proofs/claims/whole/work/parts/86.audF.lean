-- P6: the audit: one entry that the reference reads (hold, capture, reversal)
section AudF
variable {N SL : Nat} {S : Nat → Shp} {R : Nat → Nat → Option Nat} {m : Nat} {k46 : Nat → Int32 → Mem → Option (Int32 × Mem)} {l1 : Int32}
theorem a149 (hA : MdAt N S R m) (I : Nat → Nat → Int32) (J : Nat → Nat → Int64) (z : Nat → Nat) (hz : ∀ k, z k < 256) (T a : Nat) (hT : T ≤ 16400) (ha : a + 9 ≤ T) (h66 : I m 66 = nI a) (hD : DM m I z T) (kd : Nat) (hk : kd = 3 ∨ kd = 5) (key : Int64) (e : Int32) (hc : CallOk I J m kd key 0 noL e (-1) 0) :
    ∃ (I' : Nat → Nat → Int32) (J' : Nat → Nat → Int64), fX9_reads_149 m (nI kd) (N, SL, S, R, I, J) = some (if 0 < rd z (a + 1) 8 then 1 else 0, (N, SL, S, R, I', J')) ∧ AF m I I' J J' ∧ CallOk I' J' m kd key 0 noL e (nI (z a)) (rd z (a + 1) 8) ∧ ∀ zz L, MRep m zz I J L → MRep m zz I' J' L := by
  obtain ⟨I1, b1, b2, b3⟩ := num_M (SL := SL) hA I J z hz T a 1 hT (by decide) (by omega) h66 hD
  have kI : KF m I1 (u2 I1 m 29 (nI (z a))) J J := ⟨fun c q _ => u2_ne q, fun j hj => by rw [u2_at, up_ne (by omega)], fun _ _ _ _ => rfl, fun _ _ => rfl⟩
  have f1 := (b2.af (J := J)).trans kI.af
  obtain ⟨I2, c1, c2, c3⟩ := num_M (SL := SL) hA (u2 I1 m 29 (nI (z a))) J z hz T (a + 1) 8 hT (by decide) (by omega) (by rw [u2_at, up_ne (by decide)]; exact b3) (f1.dm hD)
  have kJ : KF m I2 I2 J (u2 J m 31 (rd z (a + 1) 8)) := ⟨fun _ _ _ => rfl, fun _ _ => rfl, fun c q _ _ => u2_ne q, fun j hj => by rw [u2_at, up_ne (by omega)]⟩
  refine ⟨I2, u2 J m 31 (rd z (a + 1) 8), ?_, (f1.trans (c2.af (J := J))).trans kJ.af, ?_, fun zz L h => kJ.rep (c2.rep (kI.rep (b2.rep h)))⟩
  · have e235 : fX9_reads_235 m (N, SL, S, R, I2, u2 J m 31 (rd z (a + 1) 8)) = some (if 0 < rd z (a + 1) 8 then 1 else 0, (N, SL, S, R, I2, u2 J m 31 (rd z (a + 1) 8))) := by
      unfold fX9_reads_235 fX9_reads_249
      rw [md_gJ hA, u2_i]
      by_cases w : 0 < rd z (a + 1) 8
      · rw [if_neg (Int64.not_le.mpr w), if_pos w, retZ_1]
      · rw [if_pos (Int64.not_lt.mp w), if_neg w, retZ_0]
    have e184 : fX9_reads_184 m (nI kd) (N, SL, S, R, u2 I1 m 29 (nI (z a)), J) = some (if 0 < rd z (a + 1) 8 then 1 else 0, (N, SL, S, R, I2, u2 J m 31 (rd z (a + 1) 8))) := by
      unfold fX9_reads_184
      rw [md_o hA, show (8 : Int32) = nI 8 from rfl, c1, bd_some, md_pJ hA]
      unfold fX9_reads_194
      rcases hk with rfl | rfl
      · rw [if_neg (by decide), if_pos (by decide), e235]
      · rw [if_neg (by decide), if_neg (by decide), if_pos (by decide), e235]
    have e159 : fX9_reads_159 m (nI kd) (N, SL, S, R, I, J) = some (if 0 < rd z (a + 1) 8 then 1 else 0, (N, SL, S, R, I2, u2 J m 31 (rd z (a + 1) 8))) := by
      unfold fX9_reads_159
      rw [md_o hA, show fX9_number m (1 : Int32) = fX9_number m (nI 1) from rfl, b1, bd_some, md_p hA, l2i_n, nm_1]
      unfold fX9_reads_169
      rcases hk with rfl | rfl
      · rw [if_pos (by decide), e184]
      · rw [if_neg (by decide), if_pos (by decide), e184]
    unfold fX9_reads_149
    rcases hk with rfl | rfl
    · rw [if_pos (by decide), e159]
    · rw [if_neg (by decide), if_pos (by decide), e159]
  · obtain ⟨q1, q2, q3, q4, q5, q6⟩ := b2.call hc
    have hc2 : CallOk (u2 I1 m 29 (nI (z a))) J m kd key 0 noL e (nI (z a)) 0 := ⟨by rw [u2_at, up_ne (by decide)]; exact q1, q2, ⟨by rw [u2_at, up_ne (by decide)]; exact q3.1, q3.2.1, fun k hk => absurd hk (by omega)⟩, by rw [u2_at, up_ne (by decide)]; exact q4, u2_i, q6⟩
    obtain ⟨q1, q2, q3, q4, q5, q6⟩ := c2.call hc2
    exact ⟨q1, by rw [u2_at, up_ne (by decide)]; exact q2, ⟨q3.1, q3.2.1, fun k hk => absurd hk (by omega)⟩, q4, q5, u2_i⟩
theorem reads_hold (hA : MdAt N S R m) (I : Nat → Nat → Int32) (J : Nat → Nat → Int64) (z : Nat → Nat) (hz : ∀ k, z k < 256) (T p : Nat) (hT : T ≤ 16400) (hp : p + 18 ≤ T) (h66 : I m 66 = nI p) (hD : DM m I z T) (A : Lg) (hM : MRep m 1 I J A) (hne : A.ne ≤ 200) (hk : z p = 3) :
    ∃ (I' : Nat → Nat → Int32) (J' : Nat → Nat → Int64), fX9_reads m (N, SL, S, R, I, J) = some (if rd z (p + 1) 8 = 0 ∨ fky A (rd z (p + 1) 8) A.ne 0 ≠ none ∨ ¬ 0 < rd z (p + 10) 8 then 0 else 1, (N, SL, S, R, I', J')) ∧ AF m I I' J J' ∧ MRep m 1 I' J' A ∧ (¬ (rd z (p + 1) 8 = 0 ∨ fky A (rd z (p + 1) 8) A.ne 0 ≠ none) → CallOk I' J' m 3 (rd z (p + 1) 8) 0 noL (-1) (nI (z (p + 9))) (rd z (p + 10) 8)) := by
  obtain ⟨I0, a1, a2, a3⟩ := kp_M (SL := SL) hA I J z hz T p hT (by omega) h66 hD A hM hne (Or.inr (Or.inl hk))
  by_cases w : rd z (p + 1) 8 = 0 ∨ fky A (rd z (p + 1) 8) A.ne 0 ≠ none
  · rw [if_pos w] at a1
    exact ⟨I0, J, by rw [a1, if_pos (w.elim Or.inl (fun q => Or.inr (Or.inl q)))], a2.af, a2.rep hM, fun q => absurd w q⟩
  rw [if_neg w, hk] at a1
  obtain ⟨I1, J1, b1, b2, b3, b4⟩ := begins_M (SL := SL) hA I0 J 3 (by decide) (rd z (p + 1) 8)
  have f1 := (a2.af (J := J)).trans b2.af
  obtain ⟨I2, J2, c1, c2, c3, c4⟩ := a149 (SL := SL) hA I1 J1 z hz T (p + 9) hT (by omega) (by rw [NP.kf66 b2]; exact a3) (f1.dm hD) 3 (Or.inl rfl) _ _ (b3 noL)
  refine ⟨I2, J2, ?_, f1.trans c2, c4 1 A (b2.rep (a2.rep hM)), fun _ => c3⟩
  rw [a1]
  unfold fX9_reads_84
  rw [md_o hA, b1, bd_some, if_neg (by decide), if_neg (by decide), if_neg (by decide)]
  unfold fX9_reads_117
  rw [if_neg (by decide), if_neg (by decide), if_neg (by decide), c1]
  by_cases v : 0 < rd z (p + 10) 8
  · rw [if_pos v, if_neg (fun q => q.elim (fun q => w (Or.inl q)) (fun q => q.elim (fun q => w (Or.inr q)) (fun q => q v)))]
  · rw [if_neg v, if_pos (Or.inr (Or.inr v))]
theorem of_pos' {v : Int64} (h : 0 < v) : Int64.ofNat v.toInt.toNat = v := (of_pos h).symm
theorem stp_hold (hA : MdAt N S R m) (I : Nat → Nat → Int32) (J : Nat → Nat → Int64) (z : Nat → Nat) (hz : ∀ k, z k < 256) (T : Nat) (hT : T ≤ 16400) (A : Lg) (hp : A.st A.ne + 18 ≤ T) (h66 : I m 66 = nI (A.st A.ne)) (hD : DM m I z T) (hM : MRep m 1 I J A) (hL : LInv A) (hnd : ¬ Due A) (hk : z (A.st A.ne) = 3) :
    Out N SL S R m I J z A (A.st A.ne + 18) k46 l1 (G46 k46 m l1 (nI (A.st A.ne + 18)) (N, SL, S, R, I, J)) (callL z A (A.st A.ne)).2 := by
  have h1 := hL.1
  obtain ⟨I1, J1, a1, a2, a3, a4⟩ := reads_hold (SL := SL) hA I J z hz T (A.st A.ne) hT hp h66 hD A hM h1.2.1 hk
  obtain ⟨key, hkey⟩ : ∃ key, key = rd z (A.st A.ne + 1) 8 := ⟨_, rfl⟩
  obtain ⟨v, hv⟩ : ∃ v, v = rd z (A.st A.ne + 10) 8 := ⟨_, rfl⟩
  obtain ⟨a, hae⟩ : ∃ a, a = z (A.st A.ne + 9) := ⟨_, rfl⟩
  have ha : a < 256 := by rw [hae]; exact hz _
  unfold callL
  rw [if_neg (by omega), if_neg (by omega), if_pos hk]
  unfold cHold
  have hl : lHold key a v = lst z (A.st A.ne) 18 := by
    unfold lHold
    rw [hkey, hv, hae, lB_rd z hz, lB_rd z hz]
    show 3 :: (lst z (A.st A.ne + 1) 8 ++ lst z (A.st A.ne + 9) 1 ++ lst z (A.st A.ne + 10) 8) = z (A.st A.ne) :: lst z (A.st A.ne + 1) 17
    rw [hk, show lst z (A.st A.ne + 1) 17 = lst z (A.st A.ne + 1) (8 + 1 + 8) from rfl, ← lst_app, ← lst_app]
  rw [← hkey, ← hv, ← hae] at a4 ⊢
  rw [← hkey, ← hv] at a1
  by_cases w : key = 0 ∨ ¬ 0 < v
  · rw [if_pos (w.elim Or.inl (fun q => Or.inr (Or.inr q)))] at a1
    rw [if_pos (w.elim Or.inl (fun q => Or.inr (Or.inr q)))]
    exact Or.inl ⟨rfl, I1, J1, G_no hA a1 a3, a2⟩
  have w0 : key ≠ 0 := fun q => w (Or.inl q)
  have wv : 0 < v := Decidable.not_not.mp (fun q => w (Or.inr q))
  rw [if_neg (fun q => q.elim w0 (fun q => q.elim (nI_byte ha) (fun q => q wv))), nI_clamp (by omega)]
  obtain ⟨V, hV⟩ : ∃ V, V = v.toInt.toNat := ⟨_, rfl⟩
  have hvI := tI_hi v
  have hv0 : 0 < v.toInt := Int64.lt_iff_toInt_lt.mp wv
  have ev : v = Int64.ofNat V := by rw [hV]; exact of_pos wv
  have hV2 : V < 9223372036854775808 := by omega
  rw [← hV, ← aHold_eq key a V w0 hnd]
  rw [ev] at a4 hl
  by_cases wk : fky A key A.ne 0 ≠ none
  · rw [if_pos (Or.inr (Or.inl wk))] at a1
    rw [if_pos ⟨w0, (ansB_k h1.2.1).mpr wk⟩]
    exact Or.inl ⟨rfl, I1, J1, G_no hA a1 a3, a2⟩
  rw [if_neg (fun q => q.elim w0 (fun q => q.elim wk (fun q => q wv)))] at a1
  rw [if_neg (fun q => wk ((ansB_k h1.2.1).mp q.2))]
  have cc := a4 (fun q => q.elim w0 wk)
  obtain ⟨J2, e1, e2⟩ := refused_hold (SL := SL) hA I1 J1 1 (by decide) A a3 hL key noL (-1) a V ha hV2 cc
  by_cases r0 : rHold A a V = 0
  · have r1 : a < A.na ∧ ¬ (A.ba a).toInt < (A.fl a).toInt + ((A.he a + V : Nat) : Int) ∧ A.ne < 200 := by
      unfold rHold at r0
      by_cases w1 : A.na ≤ a
      · rw [if_pos w1] at r0; exact absurd r0 (by decide)
      rw [if_neg w1] at r0
      by_cases w2 : (A.ba a).toInt < (A.fl a).toInt + ((A.he a + V : Nat) : Int)
      · rw [if_pos w2] at r0; exact absurd r0 (by decide)
      rw [if_neg w2] at r0
      by_cases w3 : 200 ≤ A.ne
      · rw [if_pos w3] at r0; exact absurd r0 (by decide)
      exact ⟨by omega, w2, by omega⟩
    have t1 := tI_lo (A.fl a)
    have t2 := tI_hi (A.ba a)
    obtain ⟨I6, J6, g1, g2, g3, g4⟩ := does_hold (SL := SL) (z := 1) hA (by decide) I1 J2 A (a3.j28 e2) hL r1.2.2 key (-1) a V hV2 r1.1 (by omega) (cc.j28 e2)
    rw [if_neg (fun q => q r0)]
    exact Or.inr ⟨holdL A key a V, I6, J6, ⟨rfl, hold_inv hL r1.2.2 r1.1 (by omega) hV2 r1.2.1, rfl, made_ok (A := A) (x := (0, 0, 0, noL, 0, 0, 0)) (l := lHold key a (Int64.ofNat V)) (w := 18) rfl rfl hl rfl⟩, G_yes hA a1 (kd := 3) (by decide) (by decide) cc.1 e1 r0 g1, (a2.trans (KF.j28 e2).af).trans g2.af, g3, g4⟩
  · rw [if_pos r0]
    exact Or.inl ⟨rfl, I1, J2, G_ref hA a1 (kd := 3) (by decide) (by decide) cc.1 e1 r0 (a3.j28 e2), a2.trans (KF.j28 e2).af⟩
theorem reads_ent (hA : MdAt N S R m) (I : Nat → Nat → Int32) (J : Nat → Nat → Int64) (z : Nat → Nat) (hz : ∀ k, z k < 256) (T p : Nat) (hT : T ≤ 16400) (hp : p + 11 ≤ T) (h66 : I m 66 = nI p) (hD : DM m I z T) (A : Lg) (hM : MRep m 1 I J A) (hne : A.ne ≤ 200) (kd : Nat) (hk : z p = kd) (hk' : kd = 5 ∨ kd = 6) :
    ∃ (I' : Nat → Nat → Int32) (J' : Nat → Nat → Int64), fX9_reads m (N, SL, S, R, I, J) = (if rd z (p + 1) 8 = 0 ∨ fky A (rd z (p + 1) 8) A.ne 0 ≠ none ∨ 200 ≤ nmN z (p + 9) 2 then some (0, (N, SL, S, R, I', J')) else fX9_reads_149 m (nI kd) (N, SL, S, R, I', J')) ∧ AF m I I' J J' ∧ MRep m 1 I' J' A ∧ (¬ (rd z (p + 1) 8 = 0 ∨ fky A (rd z (p + 1) 8) A.ne 0 ≠ none ∨ 200 ≤ nmN z (p + 9) 2) → (∀ lg, CallOk I' J' m kd (rd z (p + 1) 8) 0 lg (nI (nmN z (p + 9) 2)) (-1) 0) ∧ I' m 66 = nI (p + 11)) := by
  obtain ⟨I0, a1, a2, a3⟩ := kp_M (SL := SL) hA I J z hz T p hT (by omega) h66 hD A hM hne (by omega)
  by_cases w : rd z (p + 1) 8 = 0 ∨ fky A (rd z (p + 1) 8) A.ne 0 ≠ none
  · rw [if_pos w] at a1
    have w' : rd z (p + 1) 8 = 0 ∨ fky A (rd z (p + 1) 8) A.ne 0 ≠ none ∨ 200 ≤ nmN z (p + 9) 2 := w.elim Or.inl (fun q => Or.inr (Or.inl q))
    exact ⟨I0, J, by rw [a1, if_pos w'], a2.af, a2.rep hM, fun q => absurd w' q⟩
  rw [if_neg w, hk] at a1
  obtain ⟨I1, J1, b1, b2, b3, b4⟩ := begins_M (SL := SL) hA I0 J kd (by omega) (rd z (p + 1) 8)
  have f1 := (a2.af (J := J)).trans b2.af
  obtain ⟨I2, c1, c2, c3, c4, c5⟩ := e106 (SL := SL) hA I1 J1 z hz T (p + 9) hT (by omega) (by rw [NP.kf66 b2]; exact a3) (f1.dm hD) kd (rd z (p + 1) 8) b3
  have hn := nm2_lt hz (p + 9)
  refine ⟨I2, J1, ?_, f1.trans c2, c5 1 A (b2.rep (a2.rep hM)), fun q => ⟨fun lg => ?_, c3⟩⟩
  · have e84 : fX9_reads_84 m (nI kd) (rd z (p + 1) 8) (N, SL, S, R, I0, J) = fX9_reads_106 m (nI kd) (N, SL, S, R, I1, J1) := by
      unfold fX9_reads_84
      rw [md_o hA, b1, bd_some]
      rcases hk' with rfl | rfl
      · rw [if_pos (by decide)]
      · rw [if_neg (by decide), if_neg (by decide), if_pos (by decide)]
    rw [a1, e84, c1, e117 hA I2 J1 _ hn (c4 noL).2.2.2.1 kd (by omega)]
    by_cases v : 200 ≤ nmN z (p + 9) 2
    · rw [if_pos v, if_pos (Or.inr (Or.inr v))]
    · rw [if_neg v, if_neg (fun q => q.elim (fun q => w (Or.inl q)) (fun q => q.elim (fun q => w (Or.inr q)) v))]
  · have := c4 lg
    rw [(sh_n hn).2 (by
      have : ¬ 200 ≤ nmN z (p + 9) 2 := fun x => q (Or.inr (Or.inr x))
      omega)] at this
    exact this
theorem ent_rd {z : Nat → Nat} {a : Nat} (h : nmN z a 2 < 200) : [0, nmN z a 2] = lst z a 2 := by
  rw [nm_2] at h ⊢
  have e1 : z a = 0 := by omega
  show _ = [z a, z (a + 1)]
  rw [e1, Nat.zero_mul, Nat.zero_add]
theorem stp_rev (hA : MdAt N S R m) (I : Nat → Nat → Int32) (J : Nat → Nat → Int64) (z : Nat → Nat) (hz : ∀ k, z k < 256) (T : Nat) (hT : T ≤ 16400) (A : Lg) (hp : A.st A.ne + 11 ≤ T) (h66 : I m 66 = nI (A.st A.ne)) (hD : DM m I z T) (hM : MRep m 1 I J A) (hL : LInv A) (hk : z (A.st A.ne) = 6) :
    Out N SL S R m I J z A (A.st A.ne + 11) k46 l1 (G46 k46 m l1 (nI (A.st A.ne + 11)) (N, SL, S, R, I, J)) (callL z A (A.st A.ne)).2 := by
  have h1 := hL.1
  obtain ⟨I1, J1, a1, a2, a3, a4⟩ := reads_ent (SL := SL) hA I J z hz T (A.st A.ne) hT hp h66 hD A hM h1.2.1 6 hk (Or.inr rfl)
  have hn := nm2_lt hz (A.st A.ne + 9)
  obtain ⟨key, hkey⟩ : ∃ key, key = rd z (A.st A.ne + 1) 8 := ⟨_, rfl⟩
  obtain ⟨e, hee⟩ : ∃ e, e = nmN z (A.st A.ne + 9) 2 := ⟨_, rfl⟩
  unfold callL
  rw [if_neg (by omega), if_neg (by omega), if_neg (by omega), if_neg (by omega), if_neg (by omega), if_pos hk]
  unfold cRev
  have hl : e < 200 → lRev key e = lst z (A.st A.ne) 11 := by
    intro q
    rw [hee] at q
    unfold lRev
    rw [hkey, hee, lB_rd z hz, ent_rd q]
    show 6 :: (lst z (A.st A.ne + 1) 8 ++ lst z (A.st A.ne + 9) 2) = z (A.st A.ne) :: lst z (A.st A.ne + 1) 10
    rw [hk, show lst z (A.st A.ne + 1) 10 = lst z (A.st A.ne + 1) (8 + 2) from rfl, ← lst_app]
  rw [← hkey, ← hee] at a1 a4 ⊢
  rw [← hee] at hn
  by_cases w : key = 0 ∨ 200 ≤ e
  · rw [if_pos (w.elim Or.inl (fun q => Or.inr (Or.inr q)))] at a1
    rw [if_pos (w.elim Or.inl (fun q => Or.inr ((nI_200 hn).mpr q)))]
    exact Or.inl ⟨rfl, I1, J1, G_no hA a1 a3, a2⟩
  have w0 : key ≠ 0 := fun q => w (Or.inl q)
  have we : ¬ 200 ≤ e := fun q => w (Or.inr q)
  rw [if_neg (fun q => q.elim w0 (fun q => we ((nI_200 hn).mp q))), nI_clamp (by omega), ← aRev_eq key e w0]
  by_cases wk : fky A key A.ne 0 ≠ none
  · rw [if_pos (Or.inr (Or.inl wk))] at a1
    rw [if_pos ⟨w0, (ansB_k h1.2.1).mpr wk⟩]
    exact Or.inl ⟨rfl, I1, J1, G_no hA a1 a3, a2⟩
  have wn : ¬ (key = 0 ∨ fky A key A.ne 0 ≠ none ∨ 200 ≤ e) := fun q => q.elim w0 (fun q => q.elim wk we)
  rw [if_neg wn] at a1
  rw [if_neg (fun q => wk ((ansB_k h1.2.1).mp q.2))]
  have a1' : fX9_reads m (N, SL, S, R, I, J) = some (1, (N, SL, S, R, I1, J1)) := by
    rw [a1]
    unfold fX9_reads_149
    rw [if_neg (by decide), if_neg (by decide)]
    unfold fX9_reads_169
    rw [if_neg (by decide), if_neg (by decide), if_neg (by decide)]
    unfold fX9_reads_194 fX9_reads_262 fX9_reads_267
    rw [if_neg (by decide), if_neg (by decide), if_neg (by decide), if_neg (by decide), retZ_1]
  have cc := (a4 wn).1
  obtain ⟨I6, J6, e1, e2, e3, e4, e5⟩ := refused_rev (SL := SL) hA I1 J1 1 (by decide) A a3 hL key e (by omega) (-1) 0 cc
  by_cases r0 : rRev A e = 0
  · have r1 : (e < A.ne ∧ (A.es e).nl ≠ 0) ∧ wgh A A.he (A.es e).nl (rLg (A.es e).lg) = 0 := by
      unfold rRev at r0
      by_cases w1 : ¬ (e < A.ne ∧ (A.es e).nl ≠ 0)
      · rw [if_pos w1] at r0; exact absurd r0 (by decide)
      rw [if_neg w1] at r0
      by_cases w2 : (A.es e).en ≠ -1
      · rw [if_pos w2] at r0; exact absurd r0 (by decide)
      rw [if_neg w2] at r0
      exact ⟨Decidable.not_not.mp w1, r0⟩
    obtain ⟨w1, w2⟩ := r1
    obtain ⟨bb, v1, v2, v3, v4⟩ := wgh_0 w2
    obtain ⟨I8, J8, t1, t2, t3, t4⟩ := does_rev (SL := SL) (z := 1) hA (by decide) I6 J6 A (e2.rep a3) hL v4 key (A.es e).nl (rLg (A.es e).lg) e w1.1 w1.2 (-1) 0 (e3 w1) (fun k hk => ((hL.2.2.1 e w1.1).2.1 k hk).1) bb v1
    have hE := hL.2.2.1 e w1.1
    have hby : ByL (lRev key e) := ((ByL.one (by decide)).app (lB_by _ _)).app (ByL.two (by decide) (by omega))
    have hlen : (lRev key e).length = 11 := by unfold lRev; simp [lB_len]
    have hN : NewOk ((A.revd e (nI A.ne)).wba bb).na (6, key, (A.es e).nl, rLg (A.es e).lg, -1, 0, 0) (lRev key e) := ⟨⟨by omega, by omega, hby⟩, ⟨rfl, (show 1 ≤ 6 by decide), (show 6 ≤ 7 by decide), hE.1.2.2.2⟩, fun k hk => ⟨(hE.2.1 k hk).1, neg_ne (hE.2.1 k hk).2.1 (hE.2.1 k hk).2.2⟩, fun q => absurd (show 6 = 3 from q) (by decide)⟩
    have hs := h1.2.2.2
    rw [if_neg (fun q => q r0), v2]
    exact Or.inr ⟨mvE (A.revd e (nI A.ne)) bb (6, key, (A.es e).nl, rLg (A.es e).lg, -1, 0, 0) (lRev key e), I8, J8, ⟨rfl, LInv.si (app_plain (wba_inv (revd_inv hL w1.1 w1.2) v1 v3) v4 hN (show 6 ≠ 3 by decide)) (by show A.si + 1 ≤ A.ne + 1; omega), rfl, made_ok (A := A) (x := (0, 0, 0, noL, 0, 0, 0)) (l := lRev key e) (w := 11) rfl rfl (hl (by omega)) rfl⟩, G_yes hA a1' (kd := 6) (by decide) (by decide) (cc noL).1 e1 r0 t1, (a2.trans e2.af).trans t2.af, t3 _, t4⟩
  · rw [if_pos r0]
    exact Or.inl ⟨rfl, I6, J6, G_ref hA a1' (kd := 6) (by decide) (by decide) (cc noL).1 e1 r0 (e2.rep a3), a2.trans e2.af⟩
end AudF
