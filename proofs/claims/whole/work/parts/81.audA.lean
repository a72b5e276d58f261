-- P6: the audit: reading the bytes anew (class)
/-- the bytes as the class reads them: nothing behind the last -/
def zD (D : Nat → Nat) (T : Nat) : Nat → Nat := fun k => if k < T then D k else 0
theorem zD_lt {D : Nat → Nat} {T : Nat} (h : ∀ k, D k < 256) (k : Nat) : zD D T k < 256 := by
  unfold zD
  split
  · exact h k
  · decide
theorem zD_in {D : Nat → Nat} {T k : Nat} (h : k < T) : zD D T k = D k := if_pos h
theorem nm_1 (z : Nat → Nat) (a : Nat) : nmN z a 1 = z a := by
  show 0 * 256 + z (a + 0) = z a
  rw [Nat.add_zero]
  omega
theorem nm_2 (z : Nat → Nat) (a : Nat) : nmN z a 2 = z a * 256 + z (a + 1) := by
  show (0 * 256 + z (a + 0)) * 256 + z (a + 1) = _
  rw [Nat.add_zero]
  omega
theorem l2i_n (n : Nat) : (Int64.ofNat n).toInt32 = nI n := by
  apply Int32.toBitVec_inj.mp
  apply BitVec.eq_of_toNat_eq
  rw [l2i_N]
  show (BitVec.ofNat 64 n).toNat % 2 ^ 32 = (BitVec.ofNat 32 n).toNat
  rw [BitVec.toNat_ofNat, BitVec.toNat_ofNat]
  omega
/-- what the audit asks of the pages -/
def PN (I : Nat → Nat → Int32) (ne T : Nat) (D : Nat → Nat) : Prop := I 25 2 = nI ne ∧ I (25 + 2) ne = nI T ∧ ∀ k, k < T → I (25 + 1) k = nb (nI (D k))
theorem PN.congr {I I' : Nat → Nat → Int32} {ne T : Nat} {D : Nat → Nat} (h : PN I ne T D) (f : ∀ c, 25 ≤ c → c ≤ 27 → I' c = I c) : PN I' ne T D := by
  unfold PN
  rw [f 25 (by decide) (by decide), f (25 + 2) (by decide) (by decide), f (25 + 1) (by decide) (by decide)]
  exact h
theorem PgOk.pn {I : Nat → Nat → Int32} {ne : Nat} {st D : Nat → Nat} (h : PgOk 25 I ne st D) : PN I ne (st ne) D := ⟨h.1, h.2.2.1.1.1 ne (Nat.le_refl _), h.2.1⟩
abbrev rLgs (z : Nat → Nat) (a : Nat) : Nat → Nat × Int64 := fun k => (z (a + 1 + 9 * k), Int64.ofNat (nmN z (a + 1 + 9 * k + 1) 8))
abbrev rOk (z : Nat → Nat) (a : Nat) : Prop := z a ≤ 8 ∧ ∀ k, k < z a → (rLgs z a k).2 ≠ 0 ∧ (rLgs z a k).2 ≠ -9223372036854775808
abbrev rd (z : Nat → Nat) (a w : Nat) : Int64 := Int64.ofNat (nmN z a w)
/-- the call that is written at p, made again -/
def callL (z : Nat → Nat) (C : Lg) (p : Nat) : Int32 × Lg :=
  if z p = 1 then aOpen C (rd z (p + 1) 8)
  else if z p = 2 then (if rOk z (p + 9) then cPost C (rd z (p + 1) 8) (z (p + 9)) (rLgs z (p + 9)) else (-1, C))
  else if z p = 3 then cHold C (rd z (p + 1) 8) (nI (z (p + 9))) (rd z (p + 10) 8)
  else if z p = 4 then cRel C (nI (nmN z (p + 1) 2))
  else if z p = 5 then cCap C (rd z (p + 1) 8) (nI (nmN z (p + 9) 2)) (nI (z (p + 11))) (rd z (p + 12) 8)
  else if z p = 6 then cRev C (rd z (p + 1) 8) (nI (nmN z (p + 9) 2))
  else (-1, C)
section AudA
variable {N SL : Nat} {S : Nat → Shp} {R : Nat → Nat → Option Nat}
theorem size_N (hT : TopAt N S R) (I : Nat → Nat → Int32) (J : Nat → Nat → Int64) {ne T : Nat} {D : Nat → Nat} (h : PN I ne T D) (hne : ne ≤ 200) : fX5_size 25 (N, SL, S, R, I, J) = some (nI T, (N, SL, S, R, I, J)) := by
  obtain ⟨⟨ho, hlN, hsha⟩, ⟨r0, r1, r3, r4, r6, r7⟩, ⟨s1, s2, s7, s209, s666⟩, hch, hnd⟩ := hT.pg
  unfold fX5_size
  rw [gR_mk ho r1, gI_mk ho, h.1, rI_mk (by omega) s2 (by omega) (by decide), h.2.1]
theorem number_loop (hT : TopAt N S R) (I : Nat → Nat → Int32) (J : Nat → Nat → Int64) {ne T : Nat} {D : Nat → Nat} (h : PN I ne T D) (hne : ne ≤ 200) (hTT : T ≤ 16400) (hD : ∀ k, D k < 256) (a w : Nat) (ha : a ≤ 20000) (hw : w ≤ 8) : ∀ (q k fuel : Nat), k + q = w → q < fuel → fX5_number_5 fuel 25 (nI a) (nI w) (rd (zD D T) a k) (nI (a + k)) (N, SL, S, R, I, J) = some (rd (zD D T) a w, (N, SL, S, R, I, J))
  | 0, k, fuel, hk, hf => by
    obtain ⟨y, rfl⟩ : ∃ y, fuel = y + 1 := ⟨fuel - 1, by omega⟩
    rw [fX5_number_5, nI_add, if_pos ((nI_leI (by omega) (by omega)).mpr (by omega)), show k = w by omega]
  | q + 1, k, fuel, hk, hf => by
    obtain ⟨y, rfl⟩ : ∃ y, fuel = y + 1 := ⟨fuel - 1, by omega⟩
    obtain ⟨⟨ho, hlN, hsha⟩, ⟨r0, r1, r3, r4, r6, r7⟩, ⟨s1, s2, s7, s209, s666⟩, hch, hnd⟩ := hT.pg
    have ih := number_loop hT I J h hne hTT hD a w ha hw q (k + 1) y (by omega) (by omega)
    rw [show rd (zD D T) a (k + 1) = Int64.ofNat (nmN (zD D T) a k * 256 + zD D T (a + k)) from rfl, ← shl8 _ _ (zD_lt hD _)] at ih
    rw [fX5_number_5, nI_add, if_neg (nI_lt_of (by omega) (by omega)), cV_mk ho, size_N hT I J h hne, bd_some]
    unfold fX5_number_41
    rw [nI_1]
    by_cases z : a + k < T
    · rw [if_neg (nI_lt_of (by omega) (by omega)), gR_mk ho r0, rI_mk (by omega) s1 (by omega) (by decide), h.2.2 _ z, nb_255 (hD _)]
      rw [zD_in z] at ih
      exact ih
    · rw [if_pos ((nI_leI (by omega) (by omega)).mpr (by omega))]
      rw [show zD D T (a + k) = 0 from if_neg z] at ih
      exact ih
theorem number_C (hT : TopAt N S R) (I : Nat → Nat → Int32) (J : Nat → Nat → Int64) {ne T : Nat} {D : Nat → Nat} (h : PN I ne T D) (hne : ne ≤ 200) (hTT : T ≤ 16400) (hD : ∀ k, D k < 256) (a w : Nat) (ha : a ≤ 20000) (hw : w ≤ 8) : fX5_number 25 (nI a) (nI w) (N, SL, S, R, I, J) = some (rd (zD D T) a w, (N, SL, S, R, I, J)) :=
  number_loop hT I J h hne hTT hD a w ha hw w 0 FU (by omega) (by unfold FU; omega)
theorem add_no {g : Nat} (hG : LgAt N S R g) (I : Nat → Nat → Int32) (J : Nat → Nat → Int64) (tn : Nat) (h8 : tn ≤ 8) (hg : I g 2 = nI tn) (x : Int32) (v : Int64) (w : lNo tn x v) : fX4_add g x v (N, SL, S, R, I, J) = some (0, (N, SL, S, R, I, J)) := by
  unfold fX4_add fX4_add_30
  rw [lg_g hG, hg]
  by_cases w1 : 8 ≤ tn
  · rw [if_pos (show (8 : Int32) ≤ nI tn from (nI_leI (a := 8) (by decide) (by omega)).mpr w1), retZ_0]
  rw [if_neg (show ¬ (8 : Int32) ≤ nI tn from nI_lt_of (k := 8) (by decide) (by omega)), isByte_mk, bd_some]
  by_cases w2 : x < 0 ∨ 255 < x
  · rw [if_pos w2, if_pos rfl, retZ_0]
  rw [if_neg w2, if_neg (by decide)]
  by_cases w3 : v = 0
  · rw [if_pos w3, retZ_0]
  rw [if_neg w3]
  by_cases w4 : v = -9223372036854775808
  · rw [if_pos w4, retZ_0]
  · exact absurd w (fun q => q.elim w1 (fun q => q.elim w2 (fun q => q.elim w3 w4)))
theorem nI_byte {a : Nat} (ha : a < 256) : ¬ (nI a < 0 ∨ 255 < nI a) := fun q => q.elim (nI_ge0 (by omega)) (nI_nlt (b := a) (a := 255) (by omega) (by decide))
theorem readLegs_loop (hT : TopAt N S R) {ne T : Nat} {D : Nat → Nat} (hne : ne ≤ 200) (hTT : T ≤ 16400) (hD : ∀ k, D k < 256) (a : Nat) (ha : a ≤ 17000) : ∀ (q k fuel : Nat) (I : Nat → Nat → Int32) (J : Nat → Nat → Int64), PN I ne T D → k + q = zD D T a → q < fuel → LegsOk I J 755 k (rLgs (zD D T) a) → (∀ j, j < k → (rLgs (zD D T) a j).2 ≠ 0 ∧ (rLgs (zD D T) a j).2 ≠ -9223372036854775808) →
    ∃ (I' : Nat → Nat → Int32) (J' : Nat → Nat → Int64), fX0_readLegs_19 fuel 737 25 (nI a) (nI (zD D T a)) (nI k) (N, SL, S, R, I, J) = some (if rOk (zD D T) a then 1 else 0, (N, SL, S, R, I', J')) ∧ (rOk (zD D T) a → LegsOk I' J' 755 (zD D T a) (rLgs (zD D T) a)) ∧ (∀ c, (c < 755 ∨ 757 < c) → I' c = I c) ∧ ∀ c, (c < 755 ∨ 757 < c) → J' c = J c
  | 0, k, fuel, I, J, hP, hk, hf, hl, hg => by
    obtain ⟨y, rfl⟩ : ∃ y, fuel = y + 1 := ⟨fuel - 1, by omega⟩
    have e : k = zD D T a := by omega
    have hlt := zD_lt (T := T) hD a
    refine ⟨I, J, ?_, fun _ => by rw [← e]; exact hl, fun _ _ => rfl, fun _ _ => rfl⟩
    rw [fX0_readLegs_19, if_pos ((nI_leI (by omega) (by omega)).mpr (by omega)), retZ_1, if_pos (show rOk (zD D T) a from ⟨by rw [← e]; exact hl.2.1, fun j hj => hg j (by omega)⟩)]
  | q + 1, k, fuel, I, J, hP, hk, hf, hl, hg => by
    obtain ⟨y, rfl⟩ : ∃ y, fuel = y + 1 := ⟨fuel - 1, by omega⟩
    obtain ⟨ho, r0, r1, hLe, hLg⟩ := hT.2.2.2.2.2
    have hlt := zD_lt (T := T) hD a
    have h8 := hl.2.1
    rw [fX0_readLegs_19, if_neg (nI_lt_of (by omega) (by omega)), gR_mk ho r1, show nI a + (1 : Int32) + (9 : Int32) * nI k = nI (a + 1 + 9 * k) by rw [nI_1, show (9 : Int32) = nI 9 from rfl, nI_mul, nI_add]]
    rw [cV_mk hT.pg.1.1, show (1 : Int32) = nI 1 from rfl, number_C hT I J hP hne hTT hD _ _ (by omega) (by omega), bd_some, nI_add, cV_mk hT.pg.1.1, show (8 : Int32) = nI 8 from rfl, number_C hT I J hP hne hTT hD _ _ (by omega) (by omega), bd_some, lg_o hLg, l2i_n, nm_1]
    by_cases w : lNo k (nI (zD D T (a + 1 + 9 * k))) (rd (zD D T) (a + 1 + 9 * k + 1) 8)
    · refine ⟨I, J, ?_, fun r => ?_, fun _ _ => rfl, fun _ _ => rfl⟩
      · rw [add_no hLg I J k h8 hl.1 _ _ w, bd_some, if_pos rfl, retZ_0, if_neg (fun r : rOk (zD D T) a => ?_)]
        exact w.elim (fun x => by have := r.1; omega) (fun x => x.elim (nI_byte (zD_lt hD _)) (fun x => x.elim (r.2 k (by omega)).1 (r.2 k (by omega)).2))
      · exact absurd w (fun w => w.elim (fun x => by have := r.1; omega) (fun x => x.elim (nI_byte (zD_lt hD _)) (fun x => x.elim (r.2 k (by omega)).1 (r.2 k (by omega)).2)))
    · obtain ⟨I1, J1, g1, g2, g3, g4⟩ := legAdd (SL := SL) hLg I J k (rLgs (zD D T) a) (rLgs (zD D T) a) hl (by
        have : ¬ 8 ≤ k := fun q => w (Or.inl q)
        omega) (zD D T (a + 1 + 9 * k)) (zD_lt hD _) (rd (zD D T) (a + 1 + 9 * k + 1) 8) (fun q => w (Or.inr (Or.inr (Or.inl q)))) (fun q => w (Or.inr (Or.inr (Or.inr q)))) (fun k hk => rfl) rfl
      obtain ⟨I2, J2, b1, b2, b3, b4⟩ := readLegs_loop hT hne hTT hD a ha q (k + 1) y I1 J1 (hP.congr (fun c h1 h2 => g3 c (by omega) (by omega))) (by omega) (by omega) g2 (fun j hj => by
        by_cases z : j = k
        · rw [z]
          exact ⟨fun q => w (Or.inr (Or.inr (Or.inl q))), fun q => w (Or.inr (Or.inr (Or.inr q)))⟩
        · exact hg j (by omega))
      refine ⟨I2, J2, ?_, b2, fun c hc => by rw [b3 c hc, g3 c (by omega) (by omega)], fun c hc => by rw [b4 c hc, g4 c (by omega)]⟩
      rw [g1, bd_some, if_neg (by decide), show nI 1 = (1 : Int32) from rfl, nI_1]
      exact b1
theorem readLegs_C (hT : TopAt N S R) {ne T : Nat} {D : Nat → Nat} (hne : ne ≤ 200) (hTT : T ≤ 16400) (hD : ∀ k, D k < 256) (a : Nat) (ha : a ≤ 17000) (I : Nat → Nat → Int32) (J : Nat → Nat → Int64) (hP : PN I ne T D) :
    ∃ (I' : Nat → Nat → Int32) (J' : Nat → Nat → Int64), fX0_readLegs 737 25 (nI a) (N, SL, S, R, I, J) = some (if rOk (zD D T) a then 1 else 0, (N, SL, S, R, I', J')) ∧ (rOk (zD D T) a → LegsOk I' J' 755 (zD D T a) (rLgs (zD D T) a)) ∧ (∀ c, (c < 755 ∨ 757 < c) → I' c = I c) ∧ ∀ c, (c < 755 ∨ 757 < c) → J' c = J c := by
  obtain ⟨ho, r0, r1, hLe, hLg⟩ := hT.2.2.2.2.2
  have hP' : PN (u2 I 755 2 (nI 0)) ne T D := hP.congr (fun c h1 h2 => u2_ne (by omega))
  have hlt := zD_lt (T := T) hD a
  obtain ⟨I2, J2, b1, b2, b3, b4⟩ := readLegs_loop (SL := SL) hT hne hTT hD a ha (zD D T a) 0 FU _ J hP' (by omega) (by unfold FU; omega) ⟨by rw [u2_at, up_eq], by omega, fun k hk => absurd hk (Nat.not_lt_zero _)⟩ (fun j hj => absurd hj (Nat.not_lt_zero _))
  refine ⟨I2, J2, ?_, b2, fun c hc => by rw [b3 c hc, u2_ne (by omega)], b4⟩
  unfold fX0_readLegs
  rw [gR_mk ho r1, lg_p hLg, cV_mk hT.pg.1.1, show (1 : Int32) = nI 1 from rfl, show (0 : Int32) = nI 0 from rfl, number_C hT _ J hP' hne hTT hD _ _ (by omega) (by omega), bd_some, l2i_n, nm_1]
  exact b1
set_option maxHeartbeats 4000000 in
/-- callAgain(): the mirror makes the call again that is written at p -/
theorem callAgain_C (hT : TopAt N S R) {ne T : Nat} {D : Nat → Nat} (hne : ne ≤ 200) (hTT : T ≤ 16400) (hD : ∀ k, D k < 256) (p : Nat) (hp : p ≤ 16400) (I : Nat → Nat → Int32) (J : Nat → Nat → Int64) (hP : PN I ne T D) (C : Lg) (hC : CRep 738 I J C) (hL : LInv C) :
    ∃ (I' : Nat → Nat → Int32) (J' : Nat → Nat → Int64), fX0_callAgain 737 25 (nI p) (N, SL, S, R, I, J) = some ((), (N, SL, S, R, I', J')) ∧ CRep 738 I' J' (callL (zD D T) C p).2 ∧ (∀ c, (c < 738 ∨ 757 < c) → I' c = I c) ∧ ∀ c, (c < 738 ∨ 757 < c) → J' c = J c := by
  obtain ⟨ho, r0, r1, hLe, hLg⟩ := hT.2.2.2.2.2
  have hz := zD_lt (T := T) hD
  obtain ⟨z, hzz⟩ : ∃ z, z = zD D T := ⟨_, rfl⟩
  have nm := fun a w (ha : a ≤ 20000) (hw : w ≤ 8) => number_C (SL := SL) hT I J hP hne hTT hD a w ha hw
  rw [← hzz] at nm hz ⊢
  have kd : ∀ {c : Nat}, c < 256 → (nI (z p) = nI c ↔ z p = c) := fun hc => nI_eq (by have := hz p; omega) (by omega)
  unfold fX0_callAgain fX0_callAgain_212
  rw [nI_1, show (8 : Int32) = nI 8 from rfl, show (9 : Int32) = nI 9 from rfl, show (10 : Int32) = nI 10 from rfl, show (11 : Int32) = nI 11 from rfl, show (12 : Int32) = nI 12 from rfl, show (1 : Int32) = nI 1 from rfl, show (2 : Int32) = nI 2 from rfl, show (3 : Int32) = nI 3 from rfl, show (4 : Int32) = nI 4 from rfl, show (5 : Int32) = nI 5 from rfl, show (6 : Int32) = nI 6 from rfl, nI_add, nI_add, nI_add, nI_add]
  rw [cV_mk hT.pg.1.1, nm _ _ (by omega) (by omega), bd_some, cV_mk hT.pg.1.1, nm _ _ (by omega) (by omega), bd_some, cV_mk hT.pg.1.1, nm _ _ (by omega) (by omega), bd_some, cV_mk hT.pg.1.1, nm _ _ (by omega) (by omega), bd_some, l2i_n, l2i_n, l2i_n, nm_1, nm_1]
  unfold callL
  by_cases w1 : z p = 1
  · rw [if_pos ((kd (c := 1) (by decide)).mpr w1), if_pos w1, gR_mk ho r0, le_o hLe]
    obtain ⟨I', J', a1, a2, a3, a4⟩ := open_C (SL := SL) hLe I J C hC hL (rd z (p + 1) 8)
    exact ⟨I', J', by rw [a1, bd_some], a2, fun c hc => a3 c (by omega), fun c hc => a4 c (by omega)⟩
  rw [if_neg (fun x => w1 ((kd (c := 1) (by decide)).mp x)), if_neg w1]
  by_cases w2 : z p = 2
  · rw [if_pos ((kd (c := 2) (by decide)).mpr w2), if_pos w2, cV_mk ho]
    obtain ⟨I1, J1, b1, b2, b3, b4⟩ := readLegs_C (SL := SL) hT hne hTT hD (p + 9) (by omega) I J hP
    rw [← hzz] at b1 b2
    rw [b1, bd_some]
    by_cases w : rOk z (p + 9)
    · rw [if_pos w, if_pos w, if_neg (by decide), gR_mk ho r0, gR_mk ho r1, le_o hLe]
      obtain ⟨I', J', a1, a2, a3, a4⟩ := post_C (SL := SL) hLe hLg (by omega) I1 J1 C (CRep.congr (fun c q1 q2 => b3 c (by omega)) (fun c q1 q2 _ => b4 c (by omega)) hC) hL (rd z (p + 1) 8) (z (p + 9)) (rLgs z (p + 9)) (b2 w) (fun k _ => hz _)
      exact ⟨I', J', by rw [a1, bd_some], a2, fun c hc => by rw [a3 c (by omega), b3 c (by omega)], fun c hc => by rw [a4 c (by omega), b4 c (by omega)]⟩
    · rw [if_neg w, if_neg w, if_pos rfl]
      exact ⟨I1, J1, rfl, CRep.congr (fun c q1 q2 => b3 c (by omega)) (fun c q1 q2 _ => b4 c (by omega)) hC, fun c hc => b3 c (by omega), fun c hc => b4 c (by omega)⟩
  rw [if_neg (fun x => w2 ((kd (c := 2) (by decide)).mp x)), if_neg w2]
  by_cases w3 : z p = 3
  · rw [if_pos ((kd (c := 3) (by decide)).mpr w3), if_pos w3, gR_mk ho r0, cV_mk hT.pg.1.1, nm _ _ (by omega) (by omega), bd_some, le_o hLe]
    obtain ⟨I', J', a1, a2, a3, a4⟩ := hold_C (SL := SL) hLe I J C hC hL (rd z (p + 1) 8) (nI (z (p + 9))) (rd z (p + 10) 8)
    exact ⟨I', J', by rw [a1, bd_some], a2, fun c hc => a3 c (by omega), fun c hc => a4 c (by omega)⟩
  rw [if_neg (fun x => w3 ((kd (c := 3) (by decide)).mp x)), if_neg w3]
  by_cases w4 : z p = 4
  · rw [if_pos ((kd (c := 4) (by decide)).mpr w4), if_pos w4, gR_mk ho r0, cV_mk hT.pg.1.1, nm _ _ (by omega) (by omega), bd_some, le_o hLe, l2i_n]
    obtain ⟨I', J', a1, a2, a3, a4⟩ := rel_C (SL := SL) hLe I J C hC hL (nI (nmN z (p + 1) 2))
    exact ⟨I', J', by rw [a1, bd_some], a2, fun c hc => a3 c (by omega), fun c hc => a4 c (by omega)⟩
  rw [if_neg (fun x => w4 ((kd (c := 4) (by decide)).mp x)), if_neg w4]
  by_cases w5 : z p = 5
  · rw [if_pos ((kd (c := 5) (by decide)).mpr w5), if_pos w5, gR_mk ho r0, cV_mk hT.pg.1.1, nm _ _ (by omega) (by omega), bd_some, cV_mk hT.pg.1.1, nm _ _ (by omega) (by omega), bd_some, le_o hLe, l2i_n, nm_1]
    obtain ⟨I', J', a1, a2, a3, a4⟩ := cap_C (SL := SL) hLe I J C hC hL (rd z (p + 1) 8) (nI (nmN z (p + 9) 2)) (nI (z (p + 11))) (rd z (p + 12) 8)
    exact ⟨I', J', by rw [a1, bd_some], a2, fun c hc => a3 c (by omega), fun c hc => a4 c (by omega)⟩
  rw [if_neg (fun x => w5 ((kd (c := 5) (by decide)).mp x)), if_neg w5]
  by_cases w6 : z p = 6
  · rw [if_pos ((kd (c := 6) (by decide)).mpr w6), if_pos w6, gR_mk ho r0, le_o hLe]
    obtain ⟨I', J', a1, a2, a3, a4⟩ := rev_C (SL := SL) hLe I J C hC hL (rd z (p + 1) 8) (nI (nmN z (p + 9) 2))
    exact ⟨I', J', by rw [a1, bd_some], a2, fun c hc => a3 c (by omega), fun c hc => a4 c (by omega)⟩
  rw [if_neg (fun x => w6 ((kd (c := 6) (by decide)).mp x)), if_neg w6]
  exact ⟨I, J, rfl, hC, fun _ _ => rfl, fun _ _ => rfl⟩
end AudA
