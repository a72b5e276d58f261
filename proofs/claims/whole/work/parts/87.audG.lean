-- P6: the audit: one entry that the reference reads (capture, post)
section AudG
variable {N SL : Nat} {S : Nat → Shp} {R : Nat → Nat → Option Nat} {m : Nat} {k46 : Nat → Int32 → Mem → Option (Int32 × Mem)} {l1 : Int32}
theorem stp_cap (hA : MdAt N S R m) (I : Nat → Nat → Int32) (J : Nat → Nat → Int64) (z : Nat → Nat) (hz : ∀ k, z k < 256) (T : Nat) (hT : T ≤ 16400) (A : Lg) (hp : A.st A.ne + 20 ≤ T) (h66 : I m 66 = nI (A.st A.ne)) (hD : DM m I z T) (hM : MRep m 1 I J A) (hL : LInv A) (hk : z (A.st A.ne) = 5) :
    Out N SL S R m I J z A (A.st A.ne + 20) k46 l1 (G46 k46 m l1 (nI (A.st A.ne + 20)) (N, SL, S, R, I, J)) (callL z A (A.st A.ne)).2 := by
  have h1 := hL.1
  obtain ⟨I1, J1, a1, a2, a3, a4⟩ := reads_ent (SL := SL) hA I J z hz T (A.st A.ne) hT (by omega) h66 hD A hM h1.2.1 5 hk (Or.inl rfl)
  have hn := nm2_lt hz (A.st A.ne + 9)
  obtain ⟨key, hkey⟩ : ∃ key, key = rd z (A.st A.ne + 1) 8 := ⟨_, rfl⟩
  obtain ⟨e, hee⟩ : ∃ e, e = nmN z (A.st A.ne + 9) 2 := ⟨_, rfl⟩
  obtain ⟨v, hv⟩ : ∃ v, v = rd z (A.st A.ne + 12) 8 := ⟨_, rfl⟩
  obtain ⟨a, hae⟩ : ∃ a, a = z (A.st A.ne + 11) := ⟨_, rfl⟩
  have ha : a < 256 := by rw [hae]; exact hz _
  unfold callL
  rw [if_neg (by omega), if_neg (by omega), if_neg (by omega), if_neg (by omega), if_pos hk]
  unfold cCap
  have hl : e < 200 → lCap key e a v = lst z (A.st A.ne) 20 := by
    intro q
    rw [hee] at q
    unfold lCap
    rw [hkey, hee, hv, hae, lB_rd z hz, lB_rd z hz, ent_rd q]
    show 5 :: (lst z (A.st A.ne + 1) 8 ++ lst z (A.st A.ne + 9) 2 ++ lst z (A.st A.ne + 11) 1 ++ lst z (A.st A.ne + 12) 8) = z (A.st A.ne) :: lst z (A.st A.ne + 1) 19
    rw [hk, show lst z (A.st A.ne + 1) 19 = lst z (A.st A.ne + 1) (8 + 2 + 1 + 8) from rfl, ← lst_app, ← lst_app, ← lst_app]
  rw [← hkey, ← hee] at a1 a4
  rw [← hkey, ← hee, ← hv, ← hae]
  rw [← hee] at hn
  by_cases w : key = 0 ∨ 200 ≤ e
  · rw [if_pos (w.elim Or.inl (fun q => Or.inr (Or.inr q)))] at a1
    rw [if_pos (w.elim Or.inl (fun q => Or.inr (Or.inl ((nI_200 hn).mpr q))))]
    exact Or.inl ⟨rfl, I1, J1, G_no hA a1 a3, a2⟩
  have w0 : key ≠ 0 := fun q => w (Or.inl q)
  have we : ¬ 200 ≤ e := fun q => w (Or.inr q)
  by_cases wk : fky A key A.ne 0 ≠ none
  · rw [if_pos (Or.inr (Or.inl wk))] at a1
    refine Or.inl ⟨?_, I1, J1, G_no hA a1 a3, a2⟩
    by_cases wv : 0 < v
    · rw [if_neg (fun q => q.elim w0 (fun q => q.elim (fun q => we ((nI_200 hn).mp q)) (fun q => q.elim (nI_byte ha) (fun q => q wv)))), ← aCap_eq _ _ _ _ w0, if_pos ⟨w0, (ansB_k h1.2.1).mpr wk⟩]
    · rw [if_pos (Or.inr (Or.inr (Or.inr wv)))]
  have wn : ¬ (key = 0 ∨ fky A key A.ne 0 ≠ none ∨ 200 ≤ e) := fun q => q.elim w0 (fun q => q.elim wk we)
  rw [if_neg wn] at a1
  obtain ⟨b1, b2⟩ := a4 wn
  obtain ⟨I2, J2, c1, c2, c3, c4⟩ := a149 (SL := SL) hA I1 J1 z hz T (A.st A.ne + 11) hT (by omega) b2 (a2.dm hD) 5 (Or.inr rfl) _ _ (b1 noL)
  have c1 : fX9_reads_149 m (nI 5) (N, SL, S, R, I1, J1) = some (if 0 < v then 1 else 0, (N, SL, S, R, I2, J2)) := by rw [hv]; exact c1
  have c3 : CallOk I2 J2 m 5 key 0 noL (nI e) (nI a) v := by rw [hv, hae]; exact c3
  have m2 := c4 1 A a3
  have f2 := a2.trans c2
  rw [c1] at a1
  by_cases wv : ¬ 0 < v
  · rw [if_neg wv] at a1
    rw [if_pos (Or.inr (Or.inr (Or.inr wv)))]
    exact Or.inl ⟨rfl, I2, J2, G_no hA a1 m2, f2⟩
  have wv : 0 < v := Decidable.not_not.mp wv
  rw [if_pos wv] at a1
  rw [if_neg (fun q => q.elim w0 (fun q => q.elim (fun q => we ((nI_200 hn).mp q)) (fun q => q.elim (nI_byte ha) (fun q => q wv)))), nI_clamp (by omega), nI_clamp (by omega)]
  obtain ⟨V, hV⟩ : ∃ V, V = v.toInt.toNat := ⟨_, rfl⟩
  have hvI := tI_hi v
  have hv0 : 0 < v.toInt := Int64.lt_iff_toInt_lt.mp wv
  have ev : v = Int64.ofNat V := by rw [hV]; exact of_pos wv
  have hV2 : V < 9223372036854775808 := by omega
  have hV0 : 0 < V := by omega
  rw [← hV, ← aCap_eq key e a V w0, if_neg (fun q => wk ((ansB_k h1.2.1).mp q.2))]
  rw [ev] at c3 hl
  have cc := c3
  obtain ⟨I6, J6, e1, e2, e3, e4, e5⟩ := refused_cap (SL := SL) hA I2 J2 1 (by decide) A m2 hL key noL e (by omega) a V ha hV2 cc
  by_cases r0 : rCap A e a V = 0
  · have r1 : (e < A.ne ∧ thB (A.es e) = true ∧ a < A.na ∧ V ≤ (A.es e).hm) ∧ wgh A (up A.he (A.es e).ha (A.he (A.es e).ha - (A.es e).hm)) 2 (cLg (A.es e).ha a (Int64.ofNat V)) = 0 := by
      unfold rCap at r0
      by_cases w1 : ¬ (e < A.ne ∧ thB (A.es e) = true ∧ a < A.na ∧ V ≤ (A.es e).hm)
      · rw [if_pos w1] at r0; exact absurd r0 (by decide)
      rw [if_neg w1] at r0
      exact ⟨Decidable.not_not.mp w1, r0⟩
    obtain ⟨w1, w2⟩ := r1
    obtain ⟨bb, v1, v2, v3, v4⟩ := wgh_0 w2
    have hE := (hL.2.2.1 e w1.1).2.2 (thB_kd w1.2.1).1
    have lac : ∀ k, k < 2 → (cLg (A.es e).ha a (Int64.ofNat V) k).1 < A.na := fun k hk => by
      unfold cLg
      by_cases t : k = 0
      · rw [if_pos t]; exact hE.2.2.1
      · rw [if_neg t]; exact w1.2.2.1
    obtain ⟨I8, J8, t1, t2, t3, t4⟩ := does_cap (SL := SL) (z := 1) hA (by decide) I6 J6 A (e2.rep m2) hL v4 key 2 (cLg (A.es e).ha a (Int64.ofNat V)) e w1.1 w1.2.1 (nI a) (Int64.ofNat V) (e3 w1) lac bb v1
    have vn := of_ne hV0 hV2
    have hby : ByL (lCap key e a (Int64.ofNat V)) := ((((ByL.one (by decide)).app (lB_by _ _)).app (ByL.two (by decide) (by omega))).app (ByL.one ha)).app (lB_by _ _)
    have hlen : (lCap key e a (Int64.ofNat V)).length = 20 := by unfold lCap; simp [lB_len]
    have hN : NewOk ((A.ends e (nI A.ne)).wba bb).na (5, key, 2, cLg (A.es e).ha a (Int64.ofNat V), -1, 0, 0) (lCap key e a (Int64.ofNat V)) := ⟨⟨by omega, by omega, hby⟩, ⟨rfl, (show 1 ≤ 5 by decide), (show 5 ≤ 7 by decide), (show 2 ≤ 8 by decide)⟩, fun k hk => ⟨lac k hk, by
      show (cLg (A.es e).ha a (Int64.ofNat V) k).2 ≠ 0 ∧ (cLg (A.es e).ha a (Int64.ofNat V) k).2 ≠ _
      unfold cLg
      by_cases t : k = 0
      · rw [if_pos t]; exact ⟨vn.2.2.1, vn.2.2.2⟩
      · rw [if_neg t]; exact ⟨vn.1, vn.2.1⟩⟩, fun q => absurd (show 5 = 3 from q) (by decide)⟩
    have hs := h1.2.2.2
    rw [if_neg (fun q => q r0), v2]
    exact Or.inr ⟨mvE (A.ends e (nI A.ne)) bb (5, key, 2, cLg (A.es e).ha a (Int64.ofNat V), -1, 0, 0) (lCap key e a (Int64.ofNat V)), I8, J8, ⟨rfl, LInv.si (app_plain (wba_inv (ends_inv hL w1.1 w1.2.1) v1 v3) v4 hN (show 5 ≠ 3 by decide)) (by show A.si + 1 ≤ A.ne + 1; omega), rfl, made_ok (A := A) (x := (0, 0, 0, noL, 0, 0, 0)) (l := lCap key e a (Int64.ofNat V)) (w := 20) rfl rfl (hl (by omega)) rfl⟩, G_yes hA a1 (kd := 5) (by decide) (by decide) cc.1 e1 r0 t1, (f2.trans e2.af).trans t2.af, t3 _, t4⟩
  · rw [if_pos r0]
    exact Or.inl ⟨rfl, I6, J6, G_ref hA a1 (kd := 5) (by decide) (by decide) cc.1 e1 r0 (e2.rep m2), f2.trans e2.af⟩
abbrev gdL (z : Nat → Nat) (a n : Nat) : Prop := ∀ k, k < n → (rLgs z a k).2 ≠ 0 ∧ (rLgs z a k).2 ≠ -9223372036854775808
theorem rl23 (hA : MdAt N S R m) (z : Nat → Nat) (hz : ∀ k, z k < 256) (T a n : Nat) (hT : T ≤ 16400) (h8 : n ≤ 8) (ha : a + 1 + 9 * n ≤ T) (key : Int64) : ∀ (q k fuel : Nat) (I : Nat → Nat → Int32) (J : Nat → Nat → Int64), k + q = n → q < fuel → I m 66 = nI (a + 1 + 9 * k) → DM m I z T → CallOk I J m 2 key k (rLgs z a) (-1) (-1) 0 →
    ∃ (I' : Nat → Nat → Int32) (J' : Nat → Nat → Int64), fX9_readsLegs_23 fuel m (nI n) (if gdL z a k then 1 else 0) (nI k) (N, SL, S, R, I, J) = some (if gdL z a n then 1 else 0, (N, SL, S, R, I', J')) ∧ AF m I I' J J' ∧ CallOk I' J' m 2 key n (rLgs z a) (-1) (-1) 0 ∧ ∀ zz L, MRep m zz I J L → MRep m zz I' J' L
  | 0, k, fuel, I, J, hk, hf, h66, hD, hc => by
    obtain ⟨y, rfl⟩ : ∃ y, fuel = y + 1 := ⟨fuel - 1, by omega⟩
    have e : k = n := by omega
    subst e
    refine ⟨I, J, ?_, AF.refl, hc, fun _ _ h => h⟩
    rw [fX9_readsLegs_23, if_pos ((nI_leI (by omega) (by omega)).mpr (Nat.le_refl _))]
    split
    · rw [retZ_1]
    · rw [retZ_0]
  | q + 1, k, fuel, I, J, hk, hf, h66, hD, hc => by
    obtain ⟨y, rfl⟩ : ∃ y, fuel = y + 1 := ⟨fuel - 1, by omega⟩
    obtain ⟨I1, b1, b2, b3⟩ := num_M (SL := SL) hA I J z hz T (a + 1 + 9 * k) 1 hT (by decide) (by omega) h66 hD
    obtain ⟨I2, c1, c2, c3⟩ := num_M (SL := SL) hA I1 J z hz T (a + 1 + 9 * k + 1) 8 hT (by decide) (by omega) b3 ((b2.af (J := J)).dm hD)
    obtain ⟨I3, J3, d1, d2, d3, d4, d5⟩ := leg_M (SL := SL) hA I2 J 2 key k (rLgs z a) (rLgs z a) (-1) (-1) 0 (c2.call (b2.call hc)) (by omega) (z (a + 1 + 9 * k)) (rd z (a + 1 + 9 * k + 1) 8) (fun _ _ => rfl) rfl
    have f3 : AF m I I3 J J3 := ((b2.af (J := J)).trans c2.af).trans d3.af
    obtain ⟨I4, J4, g1, g2, g3, g4⟩ := rl23 hA z hz T a n hT h8 ha key q (k + 1) y I3 J3 (by omega) (by omega) (by rw [NP.kf66 d3, c3, show a + 1 + 9 * k + 1 + 8 = a + 1 + 9 * (k + 1) by omega]) (f3.dm hD) d2
    refine ⟨I4, J4, ?_, f3.trans g2, g3, fun zz L h => g4 zz L (d3.rep (c2.rep (b2.rep h)))⟩
    have st : ∀ s : Int32, fX9_readsLegs_69 (fX9_readsLegs_23 y) m (nI n) (nI k) (nI (z (a + 1 + 9 * k))) (rd z (a + 1 + 9 * k + 1) 8) s (N, SL, S, R, I2, J) = fX9_readsLegs_23 y m (nI n) s (nI (k + 1)) (N, SL, S, R, I3, J3) := by
      intro s
      unfold fX9_readsLegs_69
      rw [md_o hA, d1, bd_some, nI_1]
    rw [fX9_readsLegs_23, if_neg (nI_lt_of (by omega) (by omega)), md_o hA, show fX9_number m (1 : Int32) = fX9_number m (nI 1) from rfl, b1, bd_some, md_o hA, show fX9_number m (8 : Int32) = fX9_number m (nI 8) from rfl, c1, bd_some, l2i_n, nm_1]
    unfold fX9_readsLegs_68
    rw [st, st]
    by_cases w1 : gdL z a k
    · rw [if_pos w1, if_neg (by decide)]
      by_cases w2 : rd z (a + 1 + 9 * k + 1) 8 = 0
      · rw [if_neg (show ¬ gdL z a (k + 1) from fun q => (q k (by omega)).1 w2)] at g1
        rw [if_pos w2, g1]
      rw [if_neg w2]
      by_cases w3 : rd z (a + 1 + 9 * k + 1) 8 = -9223372036854775808
      · rw [if_neg (show ¬ gdL z a (k + 1) from fun q => (q k (by omega)).2 w3)] at g1
        rw [if_pos w3, g1]
      rw [if_pos (show gdL z a (k + 1) from fun j hj => by
        by_cases u : j = k
        · rw [u]; exact ⟨w2, w3⟩
        · exact w1 j (by omega))] at g1
      rw [if_neg w3, g1]
    · rw [if_neg (show ¬ gdL z a (k + 1) from fun q => w1 (fun j hj => q j (by omega)))] at g1
      rw [if_neg w1, if_pos rfl, g1]
theorem reads_post (hA : MdAt N S R m) (I : Nat → Nat → Int32) (J : Nat → Nat → Int64) (z : Nat → Nat) (hz : ∀ k, z k < 256) (T p : Nat) (hT : T ≤ 16400) (hp : p + 10 + 9 * z (p + 9) ≤ T) (h66 : I m 66 = nI p) (hD : DM m I z T) (A : Lg) (hM : MRep m 1 I J A) (hne : A.ne ≤ 200) (hk : z p = 2) :
    ∃ (I' : Nat → Nat → Int32) (J' : Nat → Nat → Int64), fX9_reads m (N, SL, S, R, I, J) = some (if rd z (p + 1) 8 = 0 ∨ fky A (rd z (p + 1) 8) A.ne 0 ≠ none ∨ z (p + 9) = 0 ∨ ¬ rOk z (p + 9) then 0 else 1, (N, SL, S, R, I', J')) ∧ AF m I I' J J' ∧ MRep m 1 I' J' A ∧ (¬ (rd z (p + 1) 8 = 0 ∨ fky A (rd z (p + 1) 8) A.ne 0 ≠ none ∨ z (p + 9) = 0 ∨ ¬ rOk z (p + 9)) → CallOk I' J' m 2 (rd z (p + 1) 8) (z (p + 9)) (rLgs z (p + 9)) (-1) (-1) 0) := by
  obtain ⟨I0, a1, a2, a3⟩ := kp_M (SL := SL) hA I J z hz T p hT (by omega) h66 hD A hM hne (Or.inl hk)
  by_cases w : rd z (p + 1) 8 = 0 ∨ fky A (rd z (p + 1) 8) A.ne 0 ≠ none
  · rw [if_pos w] at a1
    have w' : rd z (p + 1) 8 = 0 ∨ fky A (rd z (p + 1) 8) A.ne 0 ≠ none ∨ z (p + 9) = 0 ∨ ¬ rOk z (p + 9) := w.elim Or.inl (fun q => Or.inr (Or.inl q))
    exact ⟨I0, J, by rw [a1, if_pos w'], a2.af, a2.rep hM, fun q => absurd w' q⟩
  rw [if_neg w, hk] at a1
  obtain ⟨I1, J1, b1, b2, b3, b4⟩ := begins_M (SL := SL) hA I0 J 2 (by decide) (rd z (p + 1) 8)
  have f1 := (a2.af (J := J)).trans b2.af
  obtain ⟨I2, c1, c2, c3⟩ := num_M (SL := SL) hA I1 J1 z hz T (p + 9) 1 hT (by decide) (by omega) (by rw [NP.kf66 b2]; exact a3) (f1.dm hD)
  have f2 := f1.trans (c2.af (J := J1))
  have m2 := c2.rep (b2.rep (a2.rep hM))
  have h256 := hz (p + 9)
  have e84 : fX9_reads m (N, SL, S, R, I, J) = bd (fX9_readsLegs m (N, SL, S, R, I1, J1)) fun v2 M1 => (if v2 = 0 then fX9_reads_267 (0 : Int32) M1 else fX9_reads_262 M1) := by
    rw [a1]
    unfold fX9_reads_84
    rw [md_o hA, b1, bd_some, if_neg (by decide), if_neg (by decide), if_neg (by decide)]
    unfold fX9_reads_117
    rw [if_neg (by decide), if_neg (by decide), if_neg (by decide)]
    unfold fX9_reads_149
    rw [if_neg (by decide), if_neg (by decide)]
    unfold fX9_reads_169
    rw [if_neg (by decide), if_neg (by decide), if_neg (by decide)]
    unfold fX9_reads_194
    rw [if_neg (by decide), if_neg (by decide), if_neg (by decide), if_pos (by decide), md_o hA]
  by_cases v : z (p + 9) = 0 ∨ 8 < z (p + 9)
  · have w' : rd z (p + 1) 8 = 0 ∨ fky A (rd z (p + 1) 8) A.ne 0 ≠ none ∨ z (p + 9) = 0 ∨ ¬ rOk z (p + 9) := v.elim (fun q => Or.inr (Or.inr (Or.inl q))) (fun q => Or.inr (Or.inr (Or.inr (fun r => by have := r.1; omega))))
    refine ⟨I2, J1, ?_, f2, m2, fun q => absurd w' q⟩
    rw [e84]
    unfold fX9_readsLegs
    rw [md_o hA, show fX9_number m (1 : Int32) = fX9_number m (nI 1) from rfl, c1, bd_some, l2i_n, nm_1, in_mk, bd_some, if_pos (show nI (z (p + 9)) < 1 ∨ 8 < nI (z (p + 9)) from v.elim (fun q => Or.inl (by rw [q]; decide)) (fun q => Or.inr (nI_lt (a := 8) q (by omega)))), if_pos rfl, retZ_0, bd_some, if_pos rfl, if_pos w']
    rfl
  · obtain ⟨I3, J3, d1, d2, d3, d4⟩ := rl23 (SL := SL) hA z hz T (p + 9) (z (p + 9)) hT (by omega) (by omega) (rd z (p + 1) 8) (z (p + 9)) 0 FU I2 J1 (by omega) (by unfold FU; omega) (by rw [c3]) (f2.dm hD) (c2.call (b3 _))
    refine ⟨I3, J3, ?_, f2.trans d2, d4 1 A m2, fun _ => d3⟩
    rw [if_pos (show gdL z (p + 9) 0 from fun j hj => absurd hj (Nat.not_lt_zero _)), show nI 0 = (0 : Int32) from rfl] at d1
    rw [e84]
    unfold fX9_readsLegs
    rw [md_o hA, show fX9_number m (1 : Int32) = fX9_number m (nI 1) from rfl, c1, bd_some, l2i_n, nm_1, in_mk, bd_some, if_neg (show ¬ (nI (z (p + 9)) < 1 ∨ 8 < nI (z (p + 9))) from fun q => q.elim (nI_nlt (b := 1) (by omega) (by omega)) (nI_nlt (a := 8) (by omega) (by decide))), if_neg (by decide), d1, bd_some]
    by_cases u : gdL z (p + 9) (z (p + 9))
    · rw [if_pos u, if_neg (by decide), if_neg (fun q => q.elim (fun q => w (Or.inl q)) (fun q => q.elim (fun q => w (Or.inr q)) (fun q => q.elim (fun q => v (Or.inl q)) (fun q => q ⟨by omega, u⟩))))]
      rfl
    · rw [if_neg u, if_pos rfl, if_pos (Or.inr (Or.inr (Or.inr (fun q => u q.2))))]
      rfl
theorem stp_post (hA : MdAt N S R m) (I : Nat → Nat → Int32) (J : Nat → Nat → Int64) (z : Nat → Nat) (hz : ∀ k, z k < 256) (T : Nat) (hT : T ≤ 16400) (A : Lg) (hp : A.st A.ne + (10 + 9 * z (A.st A.ne + 9)) ≤ T) (h66 : I m 66 = nI (A.st A.ne)) (hD : DM m I z T) (hM : MRep m 1 I J A) (hL : LInv A) (hk : z (A.st A.ne) = 2) :
    Out N SL S R m I J z A (A.st A.ne + (10 + 9 * z (A.st A.ne + 9))) k46 l1 (G46 k46 m l1 (nI (A.st A.ne + (10 + 9 * z (A.st A.ne + 9)))) (N, SL, S, R, I, J)) (callL z A (A.st A.ne)).2 := by
  have h1 := hL.1
  obtain ⟨I1, J1, a1, a2, a3, a4⟩ := reads_post (SL := SL) hA I J z hz T (A.st A.ne) hT (by omega) h66 hD A hM h1.2.1 hk
  obtain ⟨key, hkey⟩ : ∃ key, key = rd z (A.st A.ne + 1) 8 := ⟨_, rfl⟩
  obtain ⟨n, hnn⟩ : ∃ n, n = z (A.st A.ne + 9) := ⟨_, rfl⟩
  obtain ⟨lg, hlg⟩ : ∃ lg, lg = rLgs z (A.st A.ne + 9) := ⟨_, rfl⟩
  unfold callL
  rw [if_neg (by omega), if_pos hk]
  unfold cPost
  have hl : lPost key n lg = lst z (A.st A.ne) (10 + 9 * n) := by
    unfold lPost
    rw [hkey, hlg, hnn, lB_rd z hz, lgB_rd z hz, show A.st A.ne + 9 + 1 + 9 * 0 = A.st A.ne + 10 by omega]
    show 2 :: (lst z (A.st A.ne + 1) 8 ++ lst z (A.st A.ne + 9) 1 ++ lst z (A.st A.ne + 10) (9 * z (A.st A.ne + 9))) = _
    rw [show 10 + 9 * z (A.st A.ne + 9) = (8 + 1 + 9 * z (A.st A.ne + 9)) + 1 by omega]
    show _ = z (A.st A.ne) :: lst z (A.st A.ne + 1) (8 + 1 + 9 * z (A.st A.ne + 9))
    rw [hk, ← lst_app, ← lst_app]
  have bad : (rd z (A.st A.ne + 1) 8 = 0 ∨ fky A (rd z (A.st A.ne + 1) 8) A.ne 0 ≠ none ∨ z (A.st A.ne + 9) = 0 ∨ ¬ rOk z (A.st A.ne + 9)) → fX9_reads m (N, SL, S, R, I, J) = some (0, (N, SL, S, R, I1, J1)) := fun q => by rw [a1, if_pos q]
  have good : ¬ (rd z (A.st A.ne + 1) 8 = 0 ∨ fky A (rd z (A.st A.ne + 1) 8) A.ne 0 ≠ none ∨ z (A.st A.ne + 9) = 0 ∨ ¬ rOk z (A.st A.ne + 9)) → fX9_reads m (N, SL, S, R, I, J) = some (1, (N, SL, S, R, I1, J1)) := fun q => by rw [a1, if_neg q]
  clear a1
  by_cases wr : ¬ rOk z (A.st A.ne + 9)
  · rw [if_neg wr]
    exact Or.inl ⟨rfl, I1, J1, G_no hA (bad (Or.inr (Or.inr (Or.inr wr)))) a3, a2⟩
  have wr : rOk z (A.st A.ne + 9) := Decidable.not_not.mp wr
  rw [if_pos wr]
  rw [← hkey, ← hnn, ← hlg] at a4
  rw [← hkey, ← hnn] at bad good
  rw [← hkey, ← hnn, ← hlg]
  by_cases w : n = 0 ∨ key = 0
  · rw [if_pos w]
    exact Or.inl ⟨rfl, I1, J1, G_no hA (bad (w.elim (fun q => Or.inr (Or.inr (Or.inl q))) Or.inl)) a3, a2⟩
  have wn : n ≠ 0 := fun q => w (Or.inl q)
  have w0 : key ≠ 0 := fun q => w (Or.inr q)
  have h8 : n ≤ 8 := by rw [hnn]; exact wr.1
  have hgd : ∀ k, k < n → (lg k).1 < 256 ∧ (lg k).2 ≠ 0 ∧ (lg k).2 ≠ -9223372036854775808 := by
    rw [hlg, hnn]
    exact fun k hk => ⟨hz _, wr.2 k hk⟩
  rw [if_neg w, ← aPost_eq key n lg w0]
  by_cases wk : fky A key A.ne 0 ≠ none
  · rw [if_pos ⟨w0, (ansB_k h1.2.1).mpr wk⟩]
    exact Or.inl ⟨rfl, I1, J1, G_no hA (bad (Or.inr (Or.inl wk))) a3, a2⟩
  have wb : ¬ (key = 0 ∨ fky A key A.ne 0 ≠ none ∨ n = 0 ∨ ¬ rOk z (A.st A.ne + 9)) := fun q => q.elim w0 (fun q => q.elim wk (fun q => q.elim wn (fun q => q wr)))
  have a1 := good wb
  rw [if_neg (fun q => wk ((ansB_k h1.2.1).mp q.2))]
  have cc := a4 wb
  obtain ⟨J4, e1, e2⟩ := refused_post (SL := SL) hA I1 J1 1 (by decide) A a3 hL key n lg (-1) (-1) 0 cc (fun k hk => (hgd k hk).1)
  by_cases r0 : rPost A n lg = 0
  · have r1 : (∀ j, j < n → (lg j).1 < A.na) ∧ wgh A A.he n lg = 0 := by
      unfold rPost at r0
      by_cases w1 : ¬ (∀ j, j < n → (lg j).1 < A.na)
      · rw [if_pos w1] at r0; exact absurd r0 (by decide)
      rw [if_neg w1] at r0
      by_cases w2 : ¬ evenL n lg
      · rw [if_pos w2] at r0; exact absurd r0 (by decide)
      rw [if_neg w2] at r0
      exact ⟨Decidable.not_not.mp w1, r0⟩
    obtain ⟨w1, w2⟩ := r1
    obtain ⟨bb, v1, v2, v3, v4⟩ := wgh_0 w2
    obtain ⟨I8, J8, t1, t2, t3, t4⟩ := does_post (SL := SL) (z := 1) hA (by decide) I1 J4 A (a3.j28 e2) hL v4 key n lg (-1) (-1) 0 (cc.j28 e2) w1 bb v1
    have hby : ByL (lPost key n lg) := (((ByL.one (by decide)).app (lB_by _ _)).app (ByL.one (by omega))).app (lgB_by lg n 0 (fun j _ hj => (hgd j (by omega)).1))
    have hlen : (lPost key n lg).length = 10 + 9 * n := by unfold lPost; simp [lB_len, lgB_len]; omega
    have hN : NewOk (A.wba bb).na (2, key, n, lg, -1, 0, 0) (lPost key n lg) := ⟨⟨by omega, by omega, hby⟩, ⟨rfl, (show 1 ≤ 2 by decide), (show 2 ≤ 7 by decide), h8⟩, fun k hk => ⟨w1 k hk, (hgd k hk).2⟩, fun q => absurd (show 2 = 3 from q) (by decide)⟩
    have hs := h1.2.2.2
    rw [if_neg (fun q => q r0), v2]
    exact Or.inr ⟨mvE A bb (2, key, n, lg, -1, 0, 0) (lPost key n lg), I8, J8, ⟨rfl, LInv.si (app_plain (wba_inv hL v1 v3) v4 hN (show 2 ≠ 3 by decide)) (by show A.si + 1 ≤ A.ne + 1; omega), rfl, made_ok (A := A) (x := (0, 0, 0, noL, 0, 0, 0)) (l := lPost key n lg) (w := 10 + 9 * n) rfl rfl hl rfl⟩, G_yes hA a1 (kd := 2) (by decide) (by decide) cc.1 e1 r0 t1, (a2.trans (KF.j28 e2).af).trans t2.af, t3 _, t4⟩
  · rw [if_pos r0]
    exact Or.inl ⟨rfl, I1, J4, G_ref hA a1 (kd := 2) (by decide) (by decide) cc.1 e1 r0 (a3.j28 e2), a2.trans (KF.j28 e2).af⟩
end AudG
