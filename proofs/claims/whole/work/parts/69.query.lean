-- P6: clear, every, account, entry, data, alter, count
theorem in_nI {x : Int32} {n : Nat} (hn : n < 2 ^ 31) : ¬ (x < 0 ∨ ¬ x < nI n) → ∃ a, x = nI a ∧ a < n := fun h => by
  have h0 : ¬ x < 0 := fun q => h (Or.inl q)
  have h1 : x < nI n := Decidable.not_not.mp (fun q => h (Or.inr q))
  obtain ⟨a, e, ha⟩ := nI_sm h0 (Or.inl h1) hn
  refine ⟨a, e, ?_⟩
  by_cases w : a = n
  · rw [e, w] at h1
    exact absurd h1 (nI_nlt (Nat.le_refl _) hn)
  · omega
theorem in_m1 {x : Int32} {n : Nat} (hn : n < 2 ^ 31) : (x < 0 ∨ nI n - 1 < x) ↔ (x < 0 ∨ ¬ x < nI n) := by
  have e : (nI n).toInt = n := Int32.toInt_ofNat_of_lt hn
  have e1 : (nI n - 1).toInt = (n : Int) - 1 := by
    rw [Int32.toInt_sub, e, show (1 : Int32).toInt = 1 from rfl, Int.bmod_eq_of_le (by omega) (by omega)]
  rw [Int32.lt_iff_toInt_lt (x := nI n - 1), Int32.lt_iff_toInt_lt (y := nI n), e, e1]
  constructor
  · rintro (h | h)
    · exact Or.inl h
    · exact Or.inr (by omega)
  · rintro (h | h)
    · exact Or.inl h
    · exact Or.inr (by omega)
def aAcc (L : Lg) (x w : Int32) : Int64 := if x < 0 ∨ ¬ x < nI L.na then -9223372036854775808 else if w = 0 then L.ba x.toNatClampNeg else if w = 1 then Int64.ofNat (L.he x.toNatClampNeg) else if w = 2 then L.fl x.toNatClampNeg else -9223372036854775808
/-- the leg that what tells -/
def aLeg (e : En) (w : Int32) : Int64 := if ¬ (w < 10 ∨ nI (10 + e.nl) ≤ w) then (nI (e.lg (w.toNatClampNeg - 10)).1).toInt64 else if ¬ (w < 30 ∨ nI (30 + e.nl) ≤ w) then (e.lg (w.toNatClampNeg - 30)).2 else -9223372036854775808
def aEnt (L : Lg) (x w : Int32) : Int64 := if x < 0 ∨ ¬ x < nI L.ne then -9223372036854775808 else if w = 0 then (nI (L.es x.toNatClampNeg).kd).toInt64 else if w = 1 then (nI (L.st (x.toNatClampNeg + 1) - L.st x.toNatClampNeg)).toInt64 else if w = 2 then (nI (L.st x.toNatClampNeg)).toInt64 else if w = 3 then (L.es x.toNatClampNeg).ky else if w = 4 then (nI (L.es x.toNatClampNeg).nl).toInt64 else if w = 5 then (L.es x.toNatClampNeg).en.toInt64 else aLeg (L.es x.toNatClampNeg) w
def aData (L : Lg) (nw : Nat → Nat) (x : Int32) : Int32 := if x < 0 ∨ ¬ x < nI (L.st L.ne) then -1 else nI (nw x.toNatClampNeg)
theorem w_in {w : Int32} {c n : Nat} (hc : c + n < 2 ^ 31) (h : ¬ (w < nI c ∨ nI (c + n) ≤ w)) : ∃ k, w = nI (c + k) ∧ k < n := by
  have e1 : (nI c).toInt = c := Int32.toInt_ofNat_of_lt (by omega)
  have e2 : (nI (c + n)).toInt = (c + n : Nat) := Int32.toInt_ofNat_of_lt hc
  have h1 : (c : Int) ≤ w.toInt := by
    have := Int.not_lt.mp (fun z => h (Or.inl (Int32.lt_iff_toInt_lt.mpr z)))
    omega
  have h2 : w.toInt < (c + n : Nat) := by
    have := Int.not_le.mp (fun z => h (Or.inr (Int32.le_iff_toInt_le.mpr z)))
    omega
  refine ⟨w.toInt.toNat - c, ?_, by omega⟩
  apply Int32.toInt_inj.mp
  show _ = (Int32.ofNat (c + (w.toInt.toNat - c))).toInt
  rw [Int32.toInt_ofNat_of_lt (by omega)]
  omega
theorem le_pred {w : Int32} {c : Nat} (hc : c + 1 < 2 ^ 31) : nI c < w ↔ nI (c + 1) ≤ w := by
  have e1 : (nI c).toInt = c := Int32.toInt_ofNat_of_lt (by omega)
  have e2 : (nI (c + 1)).toInt = (c + 1 : Nat) := Int32.toInt_ofNat_of_lt hc
  rw [Int32.lt_iff_toInt_lt, Int32.le_iff_toInt_le, e1, e2]
  omega
section Query
variable {N SL : Nat} {S : Nat → Shp} {R : Nat → Nat → Option Nat}
theorem c_clear (hT : TopAt N S R) (I : Nat → Nat → Int32) (J : Nat → Nat → Int64) (L : Lg) (tn : Nat) (tl : Nat → Nat × Int64) (nw : Nat → Nat) (et : Nat → Option Nat) (hne : L.ne ≤ 200) (h : CA I J L tn tl nw et) :
    ∃ (I' : Nat → Nat → Int32) (J' : Nat → Nat → Int64), fX8_clear 3 (N, SL, S, R, I, J) = some (nI tn, (N, SL, S, R, I', J')) ∧ CA I' J' L 0 tl nw et ∧ FA I I' J J' := by
  refine ⟨u2 I 21 2 0, J, ?_, ⟨CRep.congr (fun c q1 q2 => u2_ne (by omega)) (fun _ _ _ _ => rfl) h.1, ⟨u2_i, by omega, fun k hk => absurd hk (by omega)⟩, fun i hi => by rw [u2_ne (by omega)]; exact h.2.2.1 i hi, h.2.2.2.congr (by decide) hne (fun c hc => u2_ne (by have : nS = 3 := rfl; omega))⟩, fun c hc => u2_ne (by omega), fun _ _ => rfl⟩
  unfold fX8_clear
  rw [tp_f1 hT, lg_g hT.lg, h.2.1.1, tp_f1 hT, lg_p hT.lg]
theorem MRep.f759 {I : Nat → Nat → Int32} {J : Nat → Nat → Int64} {L : Lg} {I' : Nat → Nat → Int32} (h : MRep 759 0 I J L) (f : ∀ c, c ≠ 759 → I' c = I c) : MRep 759 0 I' J L := by
  unfold MRep MEnt
  rw [f (759 + 1) (by omega), f (759 + 2) (by omega), f (759 + 3) (by omega), f (759 + 4) (by omega), f (759 + 10) (by omega), f (759 + 12) (by omega), f (759 + 13) (by omega), f (759 + 15) (by omega), f (759 + 17) (by omega), f (759 + 18) (by omega)]
  exact h
theorem m_clear (hT : TopAt N S R) (I : Nat → Nat → Int32) (J : Nat → Nat → Int64) (L : Lg) (tn : Nat) (tl : Nat → Nat × Int64) (nw : Nat → Nat) (et : Nat → Option Nat) (h : MA I J L tn tl nw et) :
    ∃ (I' : Nat → Nat → Int32) (J' : Nat → Nat → Int64), fX9_clear 759 (N, SL, S, R, I, J) = some (nI tn, (N, SL, S, R, I', J')) ∧ MA I' J' L 0 tl nw et ∧ MFr I I' J J' := by
  obtain ⟨m1, m2, m3, m4, m5⟩ := h
  have f1 : ∀ c, c ≠ 759 → u2 I 759 37 0 c = I c := fun c q => u2_ne q
  have f2 : ∀ j, j ≠ 37 → u2 I 759 37 0 759 j = I 759 j := fun j q => by rw [u2_at, up_ne q]
  refine ⟨u2 I 759 37 0, J, ?_, ⟨m1.f759 f1, m2.congr (fun c q1 q2 => f1 c (by omega)) (f2 20 (by decide)), fun k hk => by rw [f1 _ (by omega)]; exact m3 k hk, ⟨u2_i, by omega, fun k hk => absurd hk (by omega)⟩, m5.congr (Nat.le_refl _) (f2 25 (by decide)) (f1 _ (by omega)) (f1 _ (by omega))⟩, fun c hc => f1 c (by omega), fun _ _ => rfl, fun j hj => f2 j (by omega)⟩
  unfold fX9_clear
  rw [md_g hT.md, m4.1, md_p hT.md]
theorem c_account (hT : TopAt N S R) (I : Nat → Nat → Int32) (J : Nat → Nat → Int64) (L : Lg) (hL : LInv L) (h : CRep 4 I J L) (x w : Int32) : fX8_account 3 x w (N, SL, S, R, I, J) = some (aAcc L x w, (N, SL, S, R, I, J)) := by
  have h1 := hL.1
  unfold fX8_account fX8_account_15 aAcc
  by_cases q : x < 0 ∨ ¬ x < nI L.na
  · rw [if_pos q]
    by_cases q1 : x < 0
    · rw [if_pos q1]
    · rw [if_neg q1, tp_f0 hT, le_g hT.le, h.1.1, if_neg (fun z => q.elim q1 (fun t => t z))]
  · obtain ⟨a, rfl, ha⟩ := in_nI (by omega) q
    have hB := h.2.1 a ha
    rw [if_neg q, if_neg (nI_ge0 (by omega)), tp_f0 hT, le_g hT.le, h.1.1, if_pos (nI_lt ha (by omega)), nI_clamp (by omega)]
    by_cases w0 : w = 0
    · rw [if_pos w0, if_pos w0, tp_f0 hT, le_f1 hT.le, le_r2 hT.le (by omega), hB.2.1]
    rw [if_neg w0, if_neg w0]
    by_cases w1 : w = 1
    · rw [if_pos w1, if_pos w1, tp_f0 hT, le_f2 hT.le, le_r3 hT.le (by omega), hB.2.2]
    rw [if_neg w1, if_neg w1]
    by_cases w2 : w = 2
    · rw [if_pos w2, if_pos w2, tp_f0 hT, le_f0 hT.le, le_r1 hT.le (by omega), hB.1]
    rw [if_neg w2, if_neg w2]
theorem m_account (hT : TopAt N S R) (I : Nat → Nat → Int32) (J : Nat → Nat → Int64) (L : Lg) (hL : LInv L) (h : MRep 759 0 I J L) (x w : Int32) : fX9_account 759 x w (N, SL, S, R, I, J) = some (aAcc L x w, (N, SL, S, R, I, J)) := by
  have h1 := hL.1
  have hA := hT.md
  unfold fX9_account fX9_account_74 aAcc
  rw [md_f0 hA]
  show rI _ .int _ (nI 0) _ = _
  rw [md_r1 hA (by omega), h.1.1, in_mk, bd_some]
  by_cases q : x < 0 ∨ ¬ x < nI L.na
  · rw [if_pos ((in_m1 (by omega)).mpr q), if_pos rfl, if_pos q]
  · obtain ⟨a, rfl, ha⟩ := in_nI (by omega) q
    obtain ⟨g1, g2, g3, g4, g5, g6, g7⟩ := h.2.1 a ha
    rw [show 40 * 0 + a = a by omega] at g1 g2 g3 g4 g5 g6 g7
    rw [if_neg (fun z => q ((in_m1 (by omega)).mp z)), if_neg (show ¬ (1 : Int32) = 0 by decide), if_neg q, nI_clamp (by omega)]
    by_cases w0 : w = 0
    · rw [if_pos w0, if_pos w0, md_f6 hA, md_r7 hA (by omega), g2]
    rw [if_neg w0, if_neg w0]
    by_cases w1 : w = 1
    · rw [if_pos w1, if_pos w1, md_f7 hA, md_r8 hA (by omega), md_f8 hA, md_r9 hA (by omega), held_pair g3 g4 g5 g6 g7]
    rw [if_neg w1, if_neg w1]
    by_cases w2 : w = 2
    · rw [if_pos w2, if_pos w2, md_f5 hA, md_r6 hA (by omega), g1]
    rw [if_neg w2, if_neg w2]
theorem c_leg_of (hT : TopAt N S R) (I : Nat → Nat → Int32) (J : Nat → Nat → Int64) (L : Lg) (hL : LInv L) (h : CRep 4 I J L) (i : Nat) (hi : i < L.ne) (w : Int32) : fX8_legOf 3 (nI i) w (N, SL, S, R, I, J) = some (aLeg (L.es i) w, (N, SL, S, R, I, J)) := by
  have h1 := hL.1
  have hE := h.2.2.2.1 i hi
  have h8 := (hL.2.2.1 i hi).1.2.2.2
  have second : ¬ ¬ (w < 10 ∨ nI (10 + (L.es i).nl) ≤ w) → fX8_legOf_43 3 (nI i) w (nI (L.es i).nl) (N, SL, S, R, I, J) = some (aLeg (L.es i) w, (N, SL, S, R, I, J)) := by
    intro q
    unfold fX8_legOf_43 fX8_legOf_75 aLeg
    rw [if_neg q, show (30 : Int32) = nI 30 from rfl, nI_add]
    by_cases z : w < nI 30 ∨ nI (30 + (L.es i).nl) ≤ w
    · rw [if_neg (show ¬ ¬ (w < nI 30 ∨ nI (30 + (L.es i).nl) ≤ w) from fun t => t z)]
      by_cases z1 : w < nI 30
      · rw [if_pos z1]
      · rw [if_neg z1, if_pos (z.resolve_left z1)]
    · obtain ⟨k, rfl, hk⟩ := w_in (by omega) z
      rw [if_pos z, if_neg (fun t => z (Or.inl t)), if_neg (fun t => z (Or.inr t)), tp_f0 hT, le_f11 hT.le, show (8 : Int32) = nI 8 from rfl, nI_mul, nI_add, pk_sub (by omega), show i * 8 + (30 + k) - 30 = 8 * i + k by omega, le_r11 hT.le (by omega), (hE.2.2.2 k hk).2, nI_clamp (by omega), show 30 + k - 30 = k by omega]
  unfold fX8_legOf
  rw [tp_f0 hT, le_f9 hT.le, le_r9 hT.le (by omega), hE.2.2.1]
  by_cases q : w < 10 ∨ nI (10 + (L.es i).nl) ≤ w
  · have s := second (fun t => t q)
    by_cases z1 : w < 10
    · rw [if_pos z1]; exact s
    · rw [if_neg z1, show (10 : Int32) = nI 10 from rfl, nI_add, if_pos (q.resolve_left z1)]; exact s
  · obtain ⟨k, rfl, hk⟩ := w_in (c := 10) (by omega) q
    unfold aLeg
    rw [if_pos q, if_neg (fun t => q (Or.inl t)), show (10 : Int32) = nI 10 from rfl, nI_add, if_neg (fun t => q (Or.inr t)), tp_f0 hT, le_f10 hT.le, show (8 : Int32) = nI 8 from rfl, nI_mul, nI_add, pk_sub (by omega), show i * 8 + (10 + k) - 10 = 8 * i + k by omega, le_r10 hT.le (by omega), (hE.2.2.2 k hk).1, nI_clamp (by omega), show 10 + k - 10 = k by omega]
theorem c_entry (hT : TopAt N S R) (I : Nat → Nat → Int32) (J : Nat → Nat → Int64) (L : Lg) (hL : LInv L) (h : CRep 4 I J L) (x w : Int32) : fX8_entry 3 x w (N, SL, S, R, I, J) = some (aEnt L x w, (N, SL, S, R, I, J)) := by
  have h1 := hL.1
  unfold fX8_entry fX8_entry_15 aEnt
  by_cases q : x < 0 ∨ ¬ x < nI L.ne
  · rw [if_pos q]
    by_cases q1 : x < 0
    · rw [if_pos q1]
    · rw [if_neg q1, tp_f0 hT, le_g hT.le, h.1.2.1, if_neg (fun z => q.elim q1 (fun t => t z))]
  · obtain ⟨i, rfl, hi⟩ := in_nI (by omega) q
    have hE := h.2.2.2.1 i hi
    have hs := hL.2.1.2.1 i hi
    rw [if_neg q, if_neg (nI_ge0 (by omega)), tp_f0 hT, le_g hT.le, h.1.2.1, if_pos (nI_lt hi (by omega)), nI_clamp (by omega)]
    by_cases w0 : w = 0
    · rw [if_pos w0, if_pos w0, tp_f0 hT, le_o hT.le, kindOf_spec hT.le I J L h hL i hi, bd_some]
    rw [if_neg w0, if_neg w0]
    by_cases w1 : w = 1
    · rw [if_pos w1, if_pos w1, tp_f0 hT, le_f6 hT.le, nI_1, le_r6 hT.le (by omega), h.2.2.1 (i + 1) (by omega), tp_f0 hT, le_f6 hT.le, le_r6 hT.le (by omega), h.2.2.1 i (by omega), pk_sub (by omega)]
    rw [if_neg w1, if_neg w1]
    by_cases w2 : w = 2
    · rw [if_pos w2, if_pos w2, tp_f0 hT, le_f6 hT.le, le_r6 hT.le (by omega), h.2.2.1 i (by omega)]
    rw [if_neg w2, if_neg w2]
    by_cases w3 : w = 3
    · rw [if_pos w3, if_pos w3, tp_f0 hT, le_f7 hT.le, le_r7 hT.le (by omega), hE.1]
    rw [if_neg w3, if_neg w3]
    by_cases w4 : w = 4
    · rw [if_pos w4, if_pos w4, tp_f0 hT, le_f9 hT.le, le_r9 hT.le (by omega), hE.2.2.1]
    rw [if_neg w4, if_neg w4]
    by_cases w5 : w = 5
    · rw [if_pos w5, if_pos w5, tp_f0 hT, le_f8 hT.le, le_r8 hT.le (by omega), hE.2.1]
    rw [if_neg w5, if_neg w5, tp_o hT, c_leg_of hT I J L hL h i hi w, bd_some]
theorem m_entry (hT : TopAt N S R) (I : Nat → Nat → Int32) (J : Nat → Nat → Int64) (L : Lg) (hL : LInv L) (h : MRep 759 0 I J L) (hB : MBy 759 I L) (x w : Int32) : fX9_entry 759 x w (N, SL, S, R, I, J) = some (aEnt L x w, (N, SL, S, R, I, J)) := by
  have h1 := hL.1
  have hA := hT.md
  unfold fX9_entry fX9_entry_179 aEnt
  rw [md_f1 hA]
  show rI _ .int _ (nI 0) _ = _
  rw [md_r2 hA (by omega), h.1.2.1, in_mk, bd_some]
  by_cases q : x < 0 ∨ ¬ x < nI L.ne
  · rw [if_pos ((in_m1 (by omega)).mpr q), if_pos rfl, if_pos q]
  · obtain ⟨i, rfl, hi⟩ := in_nI (by omega) q
    have o := h.2.2 i hi
    have h8 := (hL.2.2.1 i hi).1.2.2.2
    unfold MEnt at o
    rw [show 200 * 0 + i = i by omega] at o
    rw [if_neg (fun z => q ((in_m1 (by omega)).mp z)), if_neg (show ¬ (1 : Int32) = 0 by decide), if_neg q, nI_clamp (by omega)]
    by_cases w0 : w = 0
    · rw [if_pos w0, if_pos w0, md_f9 hA, md_r10 hA (by omega), o.1.1]
    rw [if_neg w0, if_neg w0]
    by_cases w1 : w = 1
    · rw [if_pos w1, if_pos w1, md_f22 hA, md_r22 hA (by omega), (hB.2.1 i hi).2]
    rw [if_neg w1, if_neg w1]
    by_cases w2 : w = 2
    · rw [if_pos w2, if_pos w2, md_f21 hA, md_r21 hA (by omega), (hB.2.1 i hi).1]
    rw [if_neg w2, if_neg w2]
    by_cases w3 : w = 3
    · rw [if_pos w3, if_pos w3, md_f10 hA, md_r11 hA (by omega), o.1.2.1]
    rw [if_neg w3, if_neg w3]
    by_cases w4 : w = 4
    · rw [if_pos w4, if_pos w4, md_f11 hA, md_r12 hA (by omega), o.1.2.2]
    rw [if_neg w4, if_neg w4]
    by_cases w5 : w = 5
    · rw [if_pos w5, if_pos w5, md_f17 hA, md_r18 hA (by omega), o.2.2.2.2]
    rw [if_neg w5, if_neg w5, md_f11 hA, md_r12 hA (by omega), o.1.2.2, in_mk, bd_some]
    unfold aLeg
    have c10 : (w < 10 ∨ (9 : Int32) + nI (L.es i).nl < w) ↔ (w < 10 ∨ nI (10 + (L.es i).nl) ≤ w) := by
      rw [show (9 : Int32) = nI 9 from rfl, nI_add, le_pred (by omega), show 9 + (L.es i).nl + 1 = 10 + (L.es i).nl by omega]
    have c30 : (w < 30 ∨ (29 : Int32) + nI (L.es i).nl < w) ↔ (w < 30 ∨ nI (30 + (L.es i).nl) ≤ w) := by
      rw [show (29 : Int32) = nI 29 from rfl, nI_add, le_pred (by omega), show 29 + (L.es i).nl + 1 = 30 + (L.es i).nl by omega]
    by_cases z : w < 10 ∨ nI (10 + (L.es i).nl) ≤ w
    · rw [if_pos (c10.mpr z), if_pos rfl, if_neg (fun t => t z), md_f11 hA, md_r12 hA (by omega), o.1.2.2, in_mk, bd_some]
      by_cases z2 : w < 30 ∨ nI (30 + (L.es i).nl) ≤ w
      · rw [if_pos (c30.mpr z2), if_pos rfl, if_neg (fun t => t z2)]
      · rw [if_neg (fun t => z2 (c30.mp t)), if_neg (show ¬ (1 : Int32) = 0 by decide), if_pos z2]
        obtain ⟨k, rfl, hk⟩ := w_in (c := 30) (by omega) z2
        rw [md_f13 hA, show (8 : Int32) = nI 8 from rfl, nI_mul, nI_add, show (30 : Int32) = nI 30 from rfl, pk_sub (by omega), show 8 * i + (30 + k) - 30 = 8 * i + k by omega, md_r14 hA (by omega), (o.2.1 k hk).2, nI_clamp (by omega), show 30 + k - 30 = k by omega]
    · rw [if_neg (fun t => z (c10.mp t)), if_neg (show ¬ (1 : Int32) = 0 by decide), if_pos z]
      obtain ⟨k, rfl, hk⟩ := w_in (c := 10) (by omega) z
      rw [md_f12 hA, show (8 : Int32) = nI 8 from rfl, nI_mul, nI_add, show (10 : Int32) = nI 10 from rfl, pk_sub (by omega), show 8 * i + (10 + k) - 10 = 8 * i + k by omega, md_r13 hA (by omega), (o.2.1 k hk).1, nI_clamp (by omega), show 10 + k - 10 = k by omega]
theorem c_data (hT : TopAt N S R) (I : Nat → Nat → Int32) (J : Nat → Nat → Int64) (L : Lg) (hL : LInv L) (nw : Nat → Nat) (hn : ∀ k, nw k < 256) (h : PgOk 25 I L.ne L.st nw) (x : Int32) : fX8_data 3 x (N, SL, S, R, I, J) = some (aData L nw x, (N, SL, S, R, I, J)) := by
  have h1 := hL.1
  have hst := LInv.st_le hL L.ne (Nat.le_refl _)
  have hP := hT.pg
  have hsz := size_mk (SL := SL) hP I J L.st L.ne h1.2.1 h.1 h.2.2.1.1
  unfold fX8_data fX8_data_31 fX8_data_32 aData
  by_cases q : x < 0 ∨ ¬ x < nI (L.st L.ne)
  · rw [if_pos q]
    by_cases q1 : x < 0
    · rw [if_pos q1]
    · rw [if_neg q1, tp_f3 hT, cV_mk hP.1.1, hsz, bd_some, if_pos (Int32.not_lt.mp (q.resolve_left q1))]
  · obtain ⟨k, rfl, hk⟩ := in_nI (by omega) q
    rw [if_neg q, if_neg (nI_ge0 (by omega)), tp_f3 hT, cV_mk hP.1.1, hsz, bd_some, if_neg (nI_lt_of (by omega) hk), tp_f3 hT, gR_mk hP.1.1 hP.2.1.1, rI_mk (by have := hT.1.2.1; omega) hP.2.2.1.1 (by omega) (by decide), h.2.1 k hk, nb_255 (hn k), nI_clamp (by omega)]
theorem m_data (hT : TopAt N S R) (I : Nat → Nat → Int32) (J : Nat → Nat → Int64) (L : Lg) (hL : LInv L) (nw : Nat → Nat) (hB : MBy 759 I L) (hD : DaOk 759 I nw (L.st L.ne)) (x : Int32) : fX9_data 759 x (N, SL, S, R, I, J) = some (aData L nw x, (N, SL, S, R, I, J)) := by
  have h1 := hL.1
  have hst := LInv.st_le hL L.ne (Nat.le_refl _)
  have hA := hT.md
  unfold fX9_data fX9_data_24 aData
  rw [md_g hA, hB.1, in_mk, bd_some]
  by_cases q : x < 0 ∨ ¬ x < nI (L.st L.ne)
  · rw [if_pos ((in_m1 (by omega)).mpr q), if_pos rfl, if_pos q]
  · obtain ⟨k, rfl, hk⟩ := in_nI (by omega) q
    rw [if_neg (fun z => q ((in_m1 (by omega)).mp z)), if_neg (show ¬ (1 : Int32) = 0 by decide), if_neg q, md_f18 hA, md_r19 hA (by omega), hD k hk, nI_clamp (by omega)]
/-- alter -/
abbrev altNo (L : Lg) (x y : Int32) : Prop := (x < 0 ∨ ¬ x < nI (L.st L.ne)) ∨ (y < 1 ∨ 255 < y)
def altNw (L : Lg) (nw : Nat → Nat) (x y : Int32) : Nat → Nat := if altNo L x y then nw else up nw x.toNatClampNeg (nw x.toNatClampNeg ^^^ y.toNatClampNeg)
def altAns (L : Lg) (nw : Nat → Nat) (x y : Int32) : Int32 := if altNo L x y then -1 else nI (nw x.toNatClampNeg ^^^ y.toNatClampNeg)
theorem mask_of {y : Int32} (h : ¬ (y < 1 ∨ 255 < y)) : ∃ a, y = nI a ∧ a < 256 := byte_of (fun q => h (q.elim (fun t => Or.inl (by
  have := Int32.lt_iff_toInt_lt.mp t
  exact Int32.lt_iff_toInt_lt.mpr (by have e : (1 : Int32).toInt = 1 := rfl; have e0 : (0 : Int32).toInt = 0 := rfl; omega))) Or.inr))
theorem altNw_lt {L : Lg} {nw : Nat → Nat} {x y : Int32} (hn : ∀ k, nw k < 256) : ∀ k, altNw L nw x y k < 256 := by
  intro k
  unfold altNw
  by_cases w : altNo L x y
  · rw [if_pos w]; exact hn k
  · rw [if_neg w]
    obtain ⟨a, rfl, ha⟩ := mask_of (fun q => w (Or.inr q))
    by_cases q : k = x.toNatClampNeg
    · rw [q, up_eq, nI_clamp (by omega)]; exact xor_lt (hn _) ha
    · rw [up_ne q]; exact hn k
theorem c_alter (hT : TopAt N S R) (I : Nat → Nat → Int32) (J : Nat → Nat → Int64) (L : Lg) (tn : Nat) (tl : Nat → Nat × Int64) (nw : Nat → Nat) (et : Nat → Option Nat) (hL : LInv L) (hn : ∀ k, nw k < 256) (h : CA I J L tn tl nw et) (x y : Int32) :
    ∃ (I' : Nat → Nat → Int32) (J' : Nat → Nat → Int64), fX8_alter 3 x y (N, SL, S, R, I, J) = some (altAns L nw x y, (N, SL, S, R, I', J')) ∧ CA I' J' L tn tl (altNw L nw x y) et ∧ FA I I' J J' := by
  have h1 := hL.1
  have hst := LInv.st_le hL L.ne (Nat.le_refl _)
  have hP := hT.pg
  have hsz := size_mk (SL := SL) hP I J L.st L.ne h1.2.1 h.2.2.2.1 h.2.2.2.2.2.1.1
  unfold fX8_alter fX8_alter_27
  by_cases w : altNo L x y
  · refine ⟨I, J, ?_, ?_, fun _ _ => rfl, fun _ _ => rfl⟩
    · unfold altAns
      rw [if_pos w]
      by_cases q1 : x < 0
      · rw [if_pos q1]
      rw [if_neg q1, tp_f3 hT, cV_mk hP.1.1, hsz, bd_some]
      by_cases q2 : ¬ x < nI (L.st L.ne)
      · rw [if_pos (Int32.not_lt.mp q2)]
      have q2 : x < nI (L.st L.ne) := Decidable.not_not.mp q2
      rw [if_neg (Int32.not_le.mpr q2)]
      by_cases q3 : y < 1
      · rw [if_pos q3]
      rw [if_neg q3, if_neg (fun t => w.elim (fun z => z.elim q1 (fun z => z q2)) (fun z => z.elim q3 (fun z => absurd t (Int32.not_le.mpr z))))]
    · unfold altNw
      rw [if_pos w]; exact h
  · obtain ⟨k, rfl, hk⟩ := in_nI (by omega) (fun q => w (Or.inl q))
    obtain ⟨a, rfl, ha⟩ := mask_of (fun q => w (Or.inr q))
    obtain ⟨I', g1, g2, g3⟩ := flip_C (SL := SL) hP I J L hL nw h.2.2.2 k a hk ha
    refine ⟨I', J, ?_, ?_, fun c hc => g3 c (by omega) (by omega) (by omega), fun _ _ => rfl⟩
    · unfold altAns
      rw [if_neg w, if_neg (nI_ge0 (by omega)), tp_f3 hT, cV_mk hP.1.1, hsz, bd_some, if_neg (nI_lt_of (by omega) hk), if_neg (fun q => w (Or.inr (Or.inl q))), if_pos (Int32.not_lt.mp (fun q => w (Or.inr (Or.inr q)))), tp_f3 hT, cV_mk hP.1.1, g1, bd_some, tp_f3 hT, gR_mk hP.1.1 hP.2.1.1, rI_mk (by have := hT.1.2.1; omega) hP.2.2.1.1 (by omega) (by decide), g2.2.1 k hk, up_eq, nb_255 (xor_lt (hn k) ha), nI_clamp (by omega), nI_clamp (by omega)]
    · unfold altNw
      rw [if_neg w, nI_clamp (by omega), nI_clamp (by omega)]
      exact ⟨CRep.congr (fun c q1 q2 => g3 c (by omega) (by omega) (by omega)) (fun _ _ _ _ => rfl) h.1, ⟨by rw [g3 21 (by omega) (by omega) (by omega)]; exact h.2.1.1, h.2.1.2.1, fun j hj => by rw [g3 22 (by omega) (by omega) (by omega)]; exact h.2.1.2.2 j hj⟩, fun i hi => by rw [g3 24 (by omega) (by omega) (by omega)]; exact h.2.2.1 i hi, g2⟩
theorem m_alter (hT : TopAt N S R) (I : Nat → Nat → Int32) (J : Nat → Nat → Int64) (L : Lg) (tn : Nat) (tl : Nat → Nat × Int64) (nw : Nat → Nat) (et : Nat → Option Nat) (hL : LInv L) (h : MA I J L tn tl nw et) (x y : Int32) :
    ∃ (I' : Nat → Nat → Int32) (J' : Nat → Nat → Int64), fX9_alter 759 x y (N, SL, S, R, I, J) = some (altAns L nw x y, (N, SL, S, R, I', J')) ∧ MA I' J' L tn tl (altNw L nw x y) et ∧ MFr I I' J J' := by
  have h1 := hL.1
  have hst := LInv.st_le hL L.ne (Nat.le_refl _)
  have hA := hT.md
  obtain ⟨m1, m2, m3, m4, m5⟩ := h
  unfold fX9_alter fX9_alter_25
  rw [md_g hA, m2.1, in_mk, bd_some]
  by_cases w : altNo L x y
  · refine ⟨I, J, ?_, ?_, fun _ _ => rfl, fun _ _ => rfl, fun _ _ => rfl⟩
    · unfold altAns
      rw [if_pos w]
      by_cases q1 : x < 0 ∨ ¬ x < nI (L.st L.ne)
      · rw [if_pos ((in_m1 (by omega)).mpr q1), if_pos rfl]
      · rw [if_neg (fun z => q1 ((in_m1 (by omega)).mp z)), if_neg (show ¬ (1 : Int32) = 0 by decide), in_mk, bd_some, if_pos (w.resolve_left q1), if_pos rfl]
    · unfold altNw
      rw [if_pos w]; exact ⟨m1, m2, m3, m4, m5⟩
  · obtain ⟨k, rfl, hk⟩ := in_nI (by omega) (fun q => w (Or.inl q))
    obtain ⟨a, rfl, ha⟩ := mask_of (fun q => w (Or.inr q))
    have f1 : ∀ c, c ≠ 778 → u2 I 778 k (nI (nw k ^^^ a)) c = I c := fun c q => u2_ne q
    refine ⟨u2 I 778 k (nI (nw k ^^^ a)), J, ?_, ?_, fun c hc => f1 c (by omega), fun _ _ => rfl, fun j hj => by rw [f1 759 (by omega)]⟩
    · unfold altAns
      rw [if_neg (fun z => w (Or.inl ((in_m1 (by omega)).mp z))), if_neg (show ¬ (1 : Int32) = 0 by decide), in_mk, bd_some, if_neg (fun q => w (Or.inr q)), if_neg (show ¬ (1 : Int32) = 0 by decide), md_f18 hA, md_r19 hA (by omega), m3 k hk, nI_xor, md_w19 hA (by omega), md_f18 hA, md_r19 hA (by omega), if_neg w, nI_clamp (by omega), nI_clamp (by omega)]
      show some (u2 I 778 k (nI (nw k ^^^ a)) 778 k, _) = _
      rw [u2_i]
    · unfold altNw
      rw [if_neg w, nI_clamp (by omega), nI_clamp (by omega)]
      refine ⟨?_, m2.congr (fun c q1 q2 => f1 c (by omega)) (by rw [f1 759 (by omega)]), fun j hj => ?_, ⟨by rw [f1 759 (by omega)]; exact m4.1, m4.2.1, fun j hj => by rw [f1 _ (by omega)]; exact m4.2.2 j hj⟩, m5.congr (Nat.le_refl _) (by rw [f1 759 (by omega)]) (f1 _ (by omega)) (f1 _ (by omega))⟩
      · unfold MRep MEnt
        rw [f1 (759 + 1) (by omega), f1 (759 + 2) (by omega), f1 (759 + 3) (by omega), f1 (759 + 4) (by omega), f1 (759 + 10) (by omega), f1 (759 + 12) (by omega), f1 (759 + 13) (by omega), f1 (759 + 15) (by omega), f1 (759 + 17) (by omega), f1 (759 + 18) (by omega)]
        exact m1
      · show u2 I 778 k (nI (nw k ^^^ a)) 778 j = _
        rw [u2_at]
        by_cases q : j = k
        · rw [q, up_eq, up_eq]
        · rw [up_ne q, up_ne q]; exact m3 j hj
end Query
