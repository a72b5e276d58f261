-- P6: keep, verify
abbrev Hd : Type := Nat → Option (Nat × (Nat → Int32) × (Nat → Int32))
def HdC (I : Nat → Nat → Int32) (hd : Hd) : Prop := ∀ k, k < 8 → (hd k = none → I (693 + 3 * k) 2 = -1) ∧ ∀ n c t, hd k = some (n, c, t) → I (693 + 3 * k) 2 = nI n ∧ (∀ j, j < 8 → I (694 + 3 * k) j = c j) ∧ ∀ j, j < 8 → I (695 + 3 * k) j = t j
def HdM (I : Nat → Nat → Int32) (hd : Hd) : Prop := ∀ k, k < 8 → (hd k = none → I 798 k = 0) ∧ ∀ n c t, hd k = some (n, c, t) → I 798 k = 1 ∧ I 797 k = nI n ∧ (∀ j, j < 32 → I 799 (32 * k + j) = hb c j) ∧ ∀ j, j < 32 → I 800 (32 * k + j) = hb t j
def HdG (hd : Hd) (ne : Nat) : Prop := ∀ k n c t, hd k = some (n, c, t) → n ≤ ne
theorem CA.low {I I' : Nat → Nat → Int32} {J : Nat → Nat → Int64} {L : Lg} {tn : Nat} {tl : Nat → Nat × Int64} {nw : Nat → Nat} {et : Nat → Option Nat} (h : CA I J L tn tl nw et) (f : ∀ c, c < 25 → I' c = I c) (hp : PgOk 25 I' L.ne L.st nw) : CA I' J L tn tl nw et := ⟨CRep.congr (fun c q1 q2 => f c (by omega)) (fun _ _ _ _ => rfl) h.1, ⟨by rw [f 21 (by omega)]; exact h.2.1.1, h.2.1.2.1, fun k hk => by rw [f 22 (by omega)]; exact h.2.1.2.2 k hk⟩, fun i hi => by rw [f 24 (by omega)]; exact h.2.2.1 i hi, hp⟩
/-- the head that is kept now -/
def hdKeep (L : Lg) (nw : Nat → Nat) (hd : Hd) (x : Int32) : Hd := if x < 0 ∨ ¬ x < 8 then hd else up hd x.toNatClampNeg (some (L.ne, chA nw L.st L.ne, trA nw L.st 0 L.ne))
def aKeep (L : Lg) (x : Int32) : Int32 := if x < 0 ∨ ¬ x < 8 then -1 else nI L.ne
abbrev same8 (a c : Nat → Int32) : Prop := ∀ j, j < 8 → a j = c j
def aVerO (L : Lg) (nw : Nat → Nat) : Option (Nat × (Nat → Int32) × (Nat → Int32)) → Int32
  | none => -1
  | some (n, c, t) => if same8 (chA nw L.st n) c then (if same8 (trA nw L.st 0 n) t then 0 else 2) else 1
def aVer (L : Lg) (nw : Nat → Nat) (hd : Hd) (x : Int32) : Int32 := if x < 0 ∨ ¬ x < 8 then -1 else aVerO L nw (hd x.toNatClampNeg)
theorem hdKeep_G {L : Lg} {nw : Nat → Nat} {hd : Hd} {x : Int32} (h : HdG hd L.ne) : HdG (hdKeep L nw hd x) L.ne := by
  unfold hdKeep
  by_cases w : x < 0 ∨ ¬ x < 8
  · rw [if_pos w]; exact h
  · rw [if_neg w]
    intro k n c t e
    by_cases q : k = x.toNatClampNeg
    · rw [q, up_eq] at e
      cases e
      exact Nat.le_refl _
    · rw [up_ne q] at e
      exact h k n c t e
section Heads
variable {N SL : Nat} {S : Nat → Shp} {R : Nat → Nat → Option Nat}
theorem sameH_loop {a d : Nat} (ha : a < N) (hsa : S a = .inl (.int, 8)) (hd : d < N) (hsd : S d = .inl (.int, 8)) (I : Nat → Nat → Int32) (J : Nat → Nat → Int64) : ∀ (q k fuel : Nat), k + q = 8 → q < fuel → (∀ j, j < k → I a j = I d j) → fX8_sameHash_2 fuel a d (nI k) (N, SL, S, R, I, J) = some (if same8 (I a) (I d) then 1 else 0, (N, SL, S, R, I, J))
  | 0, k, fuel, hk, hf, h => by
    obtain ⟨y, rfl⟩ : ∃ y, fuel = y + 1 := ⟨fuel - 1, by omega⟩
    have : k = 8 := by omega
    subst this
    rw [fX8_sameHash_2, if_pos (by decide), retZ_1, if_pos h]
  | q + 1, k, fuel, hk, hf, h => by
    obtain ⟨y, rfl⟩ : ∃ y, fuel = y + 1 := ⟨fuel - 1, by omega⟩
    rw [fX8_sameHash_2, if_neg (show ¬ (8 : Int32) ≤ nI k from nI_lt_of (k := 8) (by decide) (by omega)), rI_mk ha hsa (by omega) (by decide), rI_mk hd hsd (by omega) (by decide)]
    by_cases w : I a k = I d k
    · rw [if_pos w, nI_1]
      exact sameH_loop ha hsa hd hsd I J q (k + 1) y (by omega) (by omega) (fun j hj => by
        by_cases z : j = k
        · rw [z]; exact w
        · exact h j (by omega))
    · rw [if_neg w, retZ_0, if_neg (fun z => w (z k (by omega)))]
theorem sameH_spec {a d : Nat} (ha : a < N) (hsa : S a = .inl (.int, 8)) (hd : d < N) (hsd : S d = .inl (.int, 8)) (I : Nat → Nat → Int32) (J : Nat → Nat → Int64) : fX8_sameHash a d (N, SL, S, R, I, J) = some (if same8 (I a) (I d) then 1 else 0, (N, SL, S, R, I, J)) := sameH_loop ha hsa hd hsd I J 8 0 FU rfl (by decide) (fun j hj => absurd hj (by omega))
theorem same8_congr {a a' c c' : Nat → Int32} (h : ∀ j, j < 8 → a j = a' j) (h' : ∀ j, j < 8 → c j = c' j) : same8 a c ↔ same8 a' c' := ⟨fun q j hj => by rw [← h j hj, ← h' j hj]; exact q j hj, fun q j hj => by rw [h j hj, h' j hj]; exact q j hj⟩
/-- only the pages' hashes, head k and the spare row have changed -/
def FK (k : Nat) (I I' : Nat → Nat → Int32) : Prop := ∀ c, (c < 25 ∨ (691 < c ∧ c ≠ 758)) → (c < 693 + 3 * k ∨ 695 + 3 * k < c) → I' c = I c
set_option maxHeartbeats 4000000 in
theorem c_keep (hT : TopAt N S R) (I : Nat → Nat → Int32) (J : Nat → Nat → Int64) (L : Lg) (tn : Nat) (tl : Nat → Nat × Int64) (nw : Nat → Nat) (et : Nat → Option Nat) (hL : LInv L) (hn : ∀ k, nw k < 256) (h : CA I J L tn tl nw et) (hd : Hd) (hH : HdC I hd) (x : Int32) :
    ∃ I' : Nat → Nat → Int32, fX8_keep 3 x (N, SL, S, R, I, J) = some (aKeep L x, (N, SL, S, R, I', J)) ∧ CA I' J L tn tl nw et ∧ HdC I' (hdKeep L nw hd x) ∧ ∀ c, (c < 25 ∨ 716 < c) → I' c = I c := by
  have h1 := hL.1
  have hN := hT.1.2.1
  have hnS : nS = 3 := rfl
  have hP := hT.pg
  unfold fX8_keep fX8_keep_10 aKeep hdKeep
  by_cases q : x < 0 ∨ ¬ x < 8
  · refine ⟨I, ?_, h, by rw [if_pos q]; exact hH, fun _ _ => rfl⟩
    rw [if_pos q]
    by_cases q1 : x < 0
    · rw [if_pos q1]
    · rw [if_neg q1, if_neg (q.resolve_left q1)]
  · obtain ⟨k, rfl, hk⟩ := in_nI (n := 8) (by decide) q
    obtain ⟨d1, d2, d3, d4, d5, d6⟩ := hT.2.2.2.1 k hk
    obtain ⟨I1, hI1⟩ : ∃ I1, I1 = u2 I (693 + 3 * k) 2 (nI L.ne) := ⟨_, rfl⟩
    have f1 : ∀ c, c ≠ 693 + 3 * k → I1 c = I c := fun c hc => by rw [hI1, u2_ne hc]
    have p1 : PgOk 25 I1 L.ne L.st nw := h.2.2.2.congr (by decide) h1.2.1 (fun c hc => f1 c (by omega))
    obtain ⟨I2, g1, g2, g3, g4⟩ := chain_C (SL := SL) hP I1 J L hL nw hn p1 L.ne (Nat.le_refl _)
    obtain ⟨I3, hI3⟩ : ∃ I3, I3 = u1 I2 (694 + 3 * k) (fun j => if j < 8 then I2 (25 + 8 + L.ne) j else I2 (694 + 3 * k) j) := ⟨_, rfl⟩
    have f3 : ∀ c, c ≠ 694 + 3 * k → I3 c = I2 c := fun c hc => by rw [hI3, u1_ne hc]
    have p3 : PgOk 25 I3 L.ne L.st nw := g2.congr (by decide) h1.2.1 (fun c hc => f3 c (by omega))
    obtain ⟨I4, t1, t2, t3, t4⟩ := tree_C (SL := SL) hP I3 J L hL nw hn p3 0 L.ne (by omega) (fun e _ _ => Nat.zero_mod _) (to := 695 + 3 * k) (by omega) (by omega) d6 (by omega)
    have e2 : I4 (693 + 3 * k) 2 = nI L.ne := by rw [t3 _ (by omega) (by omega), f3 _ (by omega), g3 _ (by omega), hI1, u2_i]
    have e3 : I3 (693 + 3 * k) 2 = nI L.ne := by rw [f3 _ (by omega), g3 _ (by omega), hI1, u2_i]
    have fr : ∀ c, (c < 25 ∨ 691 < c) → (c < 693 + 3 * k ∨ 695 + 3 * k < c) → I4 c = I c := fun c a1 a2 => by rw [t3 c (by omega) (by omega), f3 c (by omega), g3 c (by omega), f1 c (by omega)]
    refine ⟨I4, ?_, h.low (fun c hc => fr c (by omega) (by omega)) t2, ?_, fun c hc => fr c (by omega) (by omega)⟩
    · rw [if_neg q, if_neg (nI_ge0 (by omega)), if_pos (show nI k < (8 : Int32) from nI_lt (b := 8) hk (by decide)), tp_f4 hT, rR_mk (by omega) hT.2.2.1.2.2 hk (by decide) d1, tp_f3 hT, gI_mk hP.1.1, h.2.2.2.1, pI_mk d2, ← hI1, tp_f3 hT, gI_mk d2, show I1 (693 + 3 * k) 2 = nI L.ne by rw [hI1, u2_i], cV_mk hP.1.1, g1, bd_some, gR_mk d2 d3, copy_spec (by omega) (hP.2.2.2.1 L.ne (by omega)).2 (by omega) (by omega) d5 (by omega), bd_some, ← hI3, tp_f3 hT, gI_mk d2, e3, gR_mk d2 d4, cV_mk hP.1.1]
      show bd (fX5_treeOf 25 (nI 0) (nI L.ne) (695 + 3 * k) _) _ = _
      rw [t1, bd_some, gI_mk d2, e2]
    · rw [if_neg q, nI_clamp (by omega)]
      intro j hj
      by_cases z : j = k
      · subst z
        rw [up_eq]
        refine ⟨fun e => (by cases e), fun n c t e => ?_⟩
        cases e
        refine ⟨e2, fun i hi => ?_, t4⟩
        rw [t3 _ (by omega) (by omega), hI3, u1_eq, if_pos hi]
        exact g4 i hi
      · rw [up_ne z]
        have o := hH j hj
        rw [fr (693 + 3 * j) (by omega) (by omega), fr (694 + 3 * j) (by omega) (by omega), fr (695 + 3 * j) (by omega) (by omega)]
        exact o
set_option maxHeartbeats 4000000 in
theorem c_verify (hT : TopAt N S R) (I : Nat → Nat → Int32) (J : Nat → Nat → Int64) (L : Lg) (tn : Nat) (tl : Nat → Nat × Int64) (nw : Nat → Nat) (et : Nat → Option Nat) (hL : LInv L) (hn : ∀ k, nw k < 256) (h : CA I J L tn tl nw et) (hd : Hd) (hH : HdC I hd) (hG : HdG hd L.ne) (x : Int32) :
    ∃ I' : Nat → Nat → Int32, fX8_verify 3 x (N, SL, S, R, I, J) = some (aVer L nw hd x, (N, SL, S, R, I', J)) ∧ CA I' J L tn tl nw et ∧ FB I I' := by
  have h1 := hL.1
  have hN := hT.1.2.1
  have hnS : nS = 3 := rfl
  have hP := hT.pg
  unfold fX8_verify fX8_verify_23 fX8_verify_90 aVer
  by_cases q : x < 0 ∨ ¬ x < 8
  · refine ⟨I, ?_, h, fun _ _ => rfl⟩
    rw [if_pos q]
    by_cases q1 : x < 0
    · rw [if_pos q1]
    · rw [if_neg q1, if_pos (Int32.not_lt.mp (q.resolve_left q1))]
  · obtain ⟨k, rfl, hk⟩ := in_nI (n := 8) (by decide) q
    obtain ⟨d1, d2, d3, d4, d5, d6⟩ := hT.2.2.2.1 k hk
    obtain ⟨o1, o2⟩ := hH k hk
    rw [if_neg q, nI_clamp (by omega), if_neg (nI_ge0 (by omega)), if_neg (show ¬ (8 : Int32) ≤ nI k from nI_lt_of (k := 8) (by decide) hk), tp_f4 hT, rR_mk (by omega) hT.2.2.1.2.2 hk (by decide) d1, gI_mk d2]
    cases e : hd k with
    | none =>
      rw [o1 e, if_pos rfl]
      exact ⟨I, rfl, h, fun _ _ => rfl⟩
    | some v =>
      obtain ⟨n, c, t⟩ := v
      obtain ⟨a1, a2, a3⟩ := o2 n c t e
      have hne := hG k n c t e
      obtain ⟨I2, g1, g2, g3, g4⟩ := chain_C (SL := SL) hP I J L hL nw hn h.2.2.2 n hne
      have b2 : I2 (693 + 3 * k) 2 = nI n := by rw [g3 _ (by omega)]; exact a1
      have b3 : same8 (I2 (25 + 8 + n)) (I2 (694 + 3 * k)) ↔ same8 (chA nw L.st n) c := same8_congr g4 (fun j hj => by rw [g3 _ (by omega)]; exact a2 j hj)
      rw [a1, if_neg (nI_n1 n (by omega)), tp_f4 hT, rR_mk (by omega) hT.2.2.1.2.2 hk (by decide) d1, tp_f3 hT, gI_mk d2, a1, cV_mk hP.1.1, g1, bd_some, gR_mk d2 d3, sameH_spec (by omega) (hP.2.2.2.1 n (by omega)).2 (by omega) d5 I2 J, bd_some]
      show ∃ I', _ = some ((if same8 (chA nw L.st n) c then (if same8 (trA nw L.st 0 n) t then 0 else 2) else 1 : Int32), _) ∧ _
      by_cases w : same8 (chA nw L.st n) c
      · obtain ⟨I3, t1, t2, t3, t4⟩ := tree_C (SL := SL) hP I2 J L hL nw hn g2 0 n (by omega) (fun e _ _ => Nat.zero_mod _) (to := 758) (by omega) (by omega) hT.2.2.1.2.1 (by omega)
        have b4 : same8 (I3 758) (I3 (695 + 3 * k)) ↔ same8 (trA nw L.st 0 n) t := same8_congr t4 (fun j hj => by rw [t3 _ (by omega) (by omega), g3 _ (by omega)]; exact a3 j hj)
        have fb : FB I I3 := fun c hc => by rw [t3 c (by omega) (by omega), g3 c (by omega)]
        refine ⟨I3, ?_, h.fb fb t2, fb⟩
        rw [if_pos (b3.mpr w), if_neg (show ¬ (1 : Int32) = 0 by decide), if_pos w, tp_f3 hT, gI_mk d2, b2, tp_f7 hT, cV_mk hP.1.1]
        show bd (fX5_treeOf 25 (nI 0) (nI n) 758 _) _ = _
        rw [t1, bd_some, tp_f7 hT, gR_mk d2 d4, sameH_spec (by omega) hT.2.2.1.2.1 (by omega) d6 I3 J, bd_some]
        by_cases z : same8 (trA nw L.st 0 n) t
        · rw [if_pos (b4.mpr z), if_neg (show ¬ (1 : Int32) = 0 by decide), if_pos z]
        · rw [if_neg (fun y => z (b4.mp y)), if_pos rfl, if_neg z]
      · have fb : FB I I2 := fun c hc => g3 c (by omega)
        refine ⟨I2, ?_, h.fb fb g2, fb⟩
        rw [if_neg (fun y => w (b3.mp y)), if_pos rfl, if_neg w]
/-- the reference: only its digests and heads have changed -/
def GFr (I I' : Nat → Nat → Int32) : Prop := (∀ c, c ≠ 759 → (c < 791 ∨ 796 < c) → (c < 797 ∨ 800 < c) → I' c = I c) ∧ ∀ j, j ≠ 42 → I' 759 j = I 759 j
theorem HFr.gfr {I I' : Nat → Nat → Int32} (h : HFr I I') : GFr I I' := ⟨fun c a b _ => h.1 c a b, h.2⟩
theorem GFr.trans {I I' I'' : Nat → Nat → Int32} (h : GFr I I') (h' : GFr I' I'') : GFr I I'' := ⟨fun c a b d => (h'.1 c a b d).trans (h.1 c a b d), fun j hj => (h'.2 j hj).trans (h.2 j hj)⟩
theorem MA.gfr {I I' : Nat → Nat → Int32} {J : Nat → Nat → Int64} {L : Lg} {tn : Nat} {tl : Nat → Nat × Int64} {nw : Nat → Nat} {et : Nat → Option Nat} (h : MA I J L tn tl nw et) (f : GFr I I') : MA I' J L tn tl nw et := by
  obtain ⟨m1, m2, m3, m4, m5⟩ := h
  have g : ∀ c, c ≠ 759 → c < 791 → I' c = I c := fun c a b => f.1 c a (by omega) (by omega)
  refine ⟨?_, m2.congr (fun c q1 q2 => g c (by omega) (by omega)) (f.2 20 (by decide)), fun k hk => by rw [g _ (by omega) (by omega)]; exact m3 k hk, ⟨by rw [f.2 37 (by decide)]; exact m4.1, m4.2.1, fun k hk => by rw [g _ (by omega) (by omega)]; exact m4.2.2 k hk⟩, m5.congr (Nat.le_refl _) (f.2 25 (by decide)) (g _ (by omega) (by omega)) (g _ (by omega) (by omega))⟩
  unfold MRep MEnt
  rw [g (759 + 1) (by omega) (by omega), g (759 + 2) (by omega) (by omega), g (759 + 3) (by omega) (by omega), g (759 + 4) (by omega) (by omega), g (759 + 10) (by omega) (by omega), g (759 + 12) (by omega) (by omega), g (759 + 13) (by omega) (by omega), g (759 + 15) (by omega) (by omega), g (759 + 17) (by omega) (by omega), g (759 + 18) (by omega) (by omega)]
  exact m1
theorem keepA_loop (hA : MdAt N S R 759) (J : Nat → Nat → Int64) (k : Nat) (hk : k < 8) (H : Nat → Int32) : ∀ (q b fuel : Nat) (I : Nat → Nat → Int32), b + q = 32 → q < fuel → (∀ j, j < 32 → I 794 j = hb H j) → (∀ j, j < b → I 799 (32 * k + j) = hb H j) →
    ∃ (y : Nat) (I' : Nat → Nat → Int32), fX9_keep_43 fuel 759 (nI k) (nI b) (N, SL, S, R, I, J) = fX9_keep_43 (y + 1) 759 (nI k) (nI 32) (N, SL, S, R, I', J) ∧ (∀ c, c ≠ 799 → I' c = I c) ∧ (∀ p, p < 32 * k ∨ 32 * k + 32 ≤ p → I' 799 p = I 799 p) ∧ ∀ j, j < 32 → I' 799 (32 * k + j) = hb H j
  | 0, b, fuel, I, hb', hf, hh, hd => by
    obtain ⟨y, rfl⟩ : ∃ y, fuel = y + 1 := ⟨fuel - 1, by omega⟩
    have : b = 32 := by omega
    subst this
    exact ⟨y, I, rfl, fun _ _ => rfl, fun _ _ => rfl, hd⟩
  | q + 1, b, fuel, I, hb', hf, hh, hd => by
    obtain ⟨y, rfl⟩ : ∃ y, fuel = y + 1 := ⟨fuel - 1, by omega⟩
    obtain ⟨y', I', g1, g2, g3, g4⟩ := keepA_loop hA J k hk H q (b + 1) y (u2 I 799 (32 * k + b) (hb H b)) (by omega) (by omega) (fun j hj => by rw [u2_ne (by decide)]; exact hh j hj) (fun j hj => by
      rw [u2_at]
      by_cases z : j = b
      · rw [z, up_eq]
      · rw [up_ne (by omega)]; exact hd j (by omega))
    refine ⟨y', I', ?_, fun c hc => by rw [g2 c hc, u2_ne hc], fun p hp => by rw [g3 p hp, u2_at, up_ne (by omega)], g4⟩
    rw [fX9_keep_43, if_neg (show ¬ (32 : Int32) ≤ nI b from nI_lt_of (k := 32) (by decide) (by omega)), md_f50 hA, md_f45 hA, md_r35 hA (by omega)]
    show wI _ .int (759 + 40) _ (I 794 b) _ = _
    rw [hh b (by omega), show (32 : Int32) = nI 32 from rfl, nI_mul, nI_add, md_w40 hA (by omega), nI_1]
    exact g1
theorem keepB_loop (hA : MdAt N S R 759) (J : Nat → Nat → Int64) (k : Nat) (hk : k < 8) (H : Nat → Int32) (ne : Nat) : ∀ (q b fuel : Nat) (I : Nat → Nat → Int32), b + q = 32 → q < fuel → I 761 0 = nI ne → (∀ j, j < 32 → I 794 j = hb H j) → (∀ j, j < b → I 800 (32 * k + j) = hb H j) →
    ∃ I' : Nat → Nat → Int32, fX9_keep_85 fuel 759 (nI k) (nI b) (N, SL, S, R, I, J) = some (nI ne, (N, SL, S, R, I', J)) ∧ (∀ c, c ≠ 800 → I' c = I c) ∧ (∀ p, p < 32 * k ∨ 32 * k + 32 ≤ p → I' 800 p = I 800 p) ∧ ∀ j, j < 32 → I' 800 (32 * k + j) = hb H j
  | 0, b, fuel, I, hb', hf, he, hh, hd => by
    obtain ⟨y, rfl⟩ : ∃ y, fuel = y + 1 := ⟨fuel - 1, by omega⟩
    have : b = 32 := by omega
    subst this
    refine ⟨I, ?_, fun _ _ => rfl, fun _ _ => rfl, hd⟩
    rw [fX9_keep_85, if_pos (by decide), md_f1 hA]
    show rI _ .int (759 + 2) (nI 0) _ = _
    rw [md_r2 hA (by omega)]
    show some (I 761 0, _) = _
    rw [he]
  | q + 1, b, fuel, I, hb', hf, he, hh, hd => by
    obtain ⟨y, rfl⟩ : ∃ y, fuel = y + 1 := ⟨fuel - 1, by omega⟩
    obtain ⟨I', g1, g2, g3, g4⟩ := keepB_loop hA J k hk H ne q (b + 1) y (u2 I 800 (32 * k + b) (hb H b)) (by omega) (by omega) (by rw [u2_ne (by decide)]; exact he) (fun j hj => by rw [u2_ne (by decide)]; exact hh j hj) (fun j hj => by
      rw [u2_at]
      by_cases z : j = b
      · rw [z, up_eq]
      · rw [up_ne (by omega)]; exact hd j (by omega))
    refine ⟨I', ?_, fun c hc => by rw [g2 c hc, u2_ne hc], fun p hp => by rw [g3 p hp, u2_at, up_ne (by omega)], g4⟩
    rw [fX9_keep_85, if_neg (show ¬ (32 : Int32) ≤ nI b from nI_lt_of (k := 32) (by decide) (by omega)), md_f51 hA, md_f45 hA, md_r35 hA (by omega)]
    show wI _ .int (759 + 41) _ (I 794 b) _ = _
    rw [hh b (by omega), show (32 : Int32) = nI 32 from rfl, nI_mul, nI_add, md_w41 hA (by omega), nI_1]
    exact g1
theorem in7 (x : Int32) : (x < 0 ∨ 7 < x) ↔ (x < 0 ∨ ¬ x < 8) := by
  have e1 : (7 : Int32).toInt = 7 := rfl
  have e2 : (8 : Int32).toInt = 8 := rfl
  rw [Int32.lt_iff_toInt_lt (x := 7), Int32.lt_iff_toInt_lt (y := 8), e1, e2]
  constructor
  · rintro (q | q)
    · exact Or.inl q
    · exact Or.inr (by omega)
  · rintro (q | q)
    · exact Or.inl q
    · exact Or.inr (by omega)
set_option maxHeartbeats 4000000 in
theorem m_keep (hT : TopAt N S R) (I : Nat → Nat → Int32) (J : Nat → Nat → Int64) (L : Lg) (tn : Nat) (tl : Nat → Nat × Int64) (nw : Nat → Nat) (et : Nat → Option Nat) (hL : LInv L) (h : MA I J L tn tl nw et) (hS : MS I) (hd : Hd) (hH : HdM I hd) (x : Int32) :
    ∃ I' : Nat → Nat → Int32, fX9_keep 759 x (N, SL, S, R, I, J) = some (aKeep L x, (N, SL, S, R, I', J)) ∧ MS I' ∧ HdM I' (hdKeep L nw hd x) ∧ GFr I I' := by
  have h1 := hL.1
  have hA := hT.md
  unfold fX9_keep aKeep hdKeep
  rw [in_mk, bd_some]
  by_cases q : x < 0 ∨ ¬ x < 8
  · exact ⟨I, by rw [if_pos ((in7 x).mpr q), if_pos rfl, if_pos q], hS, by rw [if_pos q]; exact hH, fun _ _ _ _ => rfl, fun _ _ => rfl⟩
  · obtain ⟨k, rfl, hk⟩ := in_nI (n := 8) (by decide) q
    rw [if_neg (fun z => q ((in7 _).mp z)), if_neg (show ¬ (1 : Int32) = 0 by decide), if_neg q, if_neg q, nI_clamp (by omega)]
    obtain ⟨I1, hI1⟩ : ∃ I1, I1 = u2 (u2 I 798 k 1) 797 k (nI L.ne) := ⟨_, rfl⟩
    have f1 : ∀ c, c ≠ 797 → c ≠ 798 → I1 c = I c := fun c q1 q2 => by rw [hI1, u2_ne q1, u2_ne q2]
    have g1 : GFr I I1 := ⟨fun c _ _ a => f1 c (by omega) (by omega), fun j _ => by rw [f1 759 (by omega) (by omega)]⟩
    have hM1 := h.gfr g1
    have hS1 : MS I1 := ⟨fun j hj => by rw [f1 790 (by omega) (by omega)]; exact hS.1 j hj, by rw [f1 759 (by omega) (by omega)]; exact hS.2⟩
    obtain ⟨I2, c1, c2, c3, c4⟩ := chain_MD (SL := SL) hT I1 J L hL nw hM1.2.1 hM1.2.2.1 hS1 L.ne (Nat.le_refl _)
    obtain ⟨y, I3, d1, d2, d3, d4⟩ := keepA_loop (SL := SL) hA J k hk (chA nw L.st L.ne) 32 0 FU I2 rfl (by decide) c4 (fun j hj => absurd hj (by omega))
    have g3 : GFr I2 I3 := ⟨fun c _ _ a => d2 c (by omega), fun j _ => by rw [d2 759 (by omega)]⟩
    have hM3 := (hM1.gfr c2.gfr).gfr g3
    have hS3 : MS I3 := ⟨fun j hj => by rw [d2 790 (by omega)]; exact c3.1 j hj, by rw [d2 759 (by omega)]; exact c3.2⟩
    obtain ⟨I4, t1, t2, t3, t4⟩ := tree_MD (SL := SL) hT I3 J L hL nw hM3.2.1 hM3.2.2.1 hS3 0 L.ne (by omega) (Nat.le_refl _)
    rw [Nat.sub_zero] at t4
    have hM4 := hM3.hfr t2
    obtain ⟨I5, v1, v2, v3, v4⟩ := keepB_loop (SL := SL) hA J k hk (trA nw L.st 0 L.ne) L.ne 32 0 FU I4 rfl (by decide) hM4.1.1.2.1 t4 (fun j hj => absurd hj (by omega))
    have g5 : GFr I4 I5 := ⟨fun c _ _ a => v2 c (by omega), fun j _ => by rw [v2 759 (by omega)]⟩
    have e1 : I1 761 0 = nI L.ne := hM1.1.1.2.1
    have e3 : I3 761 0 = nI L.ne := hM3.1.1.2.1
    have e0 : I 761 0 = nI L.ne := h.1.1.2.1
    refine ⟨I5, ?_, ⟨fun j hj => by rw [v2 790 (by omega)]; exact t3.1 j hj, by rw [v2 759 (by omega)]; exact t3.2⟩, fun j hj => ?_, (((g1.trans c2.gfr).trans g3).trans t2.gfr).trans g5⟩
    · rw [md_f49 hA, md_w39 hA hk, nar_b1, md_f48 hA, md_f1 hA]
      show rI _ .int (759 + 2) (nI 0) _ = _
      rw [md_r2 hA (by omega)]
      show wI _ .int (759 + 38) (nI k) (u2 I 798 k 1 761 0) _ = _
      rw [u2_ne (by decide), e0, md_w38 hA hk]
      show (gR (N, SL, S, R, u2 (u2 I 798 k 1) 797 k (nI L.ne), J) 9 1 759 _) = _
      rw [← hI1, md_f1 hA]
      show rI _ .int (759 + 2) (nI 0) _ = _
      rw [md_r2 hA (by omega)]
      show cV _ 9 759 (fX9_chain 759 (I1 761 0) _) _ = _
      rw [e1, md_o hA, c1, bd_some]
      show fX9_keep_43 FU 759 (nI k) (nI 0) _ = _
      rw [d1, fX9_keep_43, if_pos (by decide), md_f1 hA]
      show rI _ .int (759 + 2) (nI 0) _ = _
      rw [md_r2 hA (by omega)]
      show cV _ 9 759 (fX9_tree 759 (nI 0) (I3 761 0) _) _ = _
      rw [e3, md_o hA, t1, bd_some]
      exact v1
    · have r8 : I5 798 = I1 798 := by rw [v2 798 (by omega), t2.1 798 (by omega) (by omega), d2 798 (by omega), c2.1 798 (by omega) (by omega)]
      have r7 : I5 797 = I1 797 := by rw [v2 797 (by omega), t2.1 797 (by omega) (by omega), d2 797 (by omega), c2.1 797 (by omega) (by omega)]
      have r9 : I5 799 = I3 799 := by rw [v2 799 (by omega), t2.1 799 (by omega) (by omega)]
      rw [r8, r7, r9]
      by_cases z : j = k
      · subst z
        rw [up_eq]
        refine ⟨fun e => (by cases e), fun n c t e => ?_⟩
        cases e
        exact ⟨by rw [hI1, u2_ne (by decide), u2_i], by rw [hI1, u2_i], d4, v4⟩
      · rw [up_ne z]
        obtain ⟨o1, o2⟩ := hH j hj
        have s8 : I1 798 j = I 798 j := by rw [hI1, u2_ne (by decide), u2_at, up_ne z]
        have s7 : I1 797 j = I 797 j := by rw [hI1, u2_at, up_ne z, u2_ne (by decide)]
        refine ⟨fun e => by rw [s8]; exact o1 e, fun n c t e => ?_⟩
        obtain ⟨a1, a2, a3, a4⟩ := o2 n c t e
        refine ⟨by rw [s8]; exact a1, by rw [s7]; exact a2, fun i hi => ?_, fun i hi => ?_⟩
        · rw [d3 _ (by omega), c2.1 799 (by omega) (by omega), f1 799 (by omega) (by omega)]; exact a3 i hi
        · rw [v3 _ (by omega), t2.1 800 (by omega) (by omega), d2 800 (by omega), c2.1 800 (by omega) (by omega), f1 800 (by omega) (by omega)]; exact a4 i hi
/-- the 32 bytes of two digests -/
theorem hb32 {a c : Nat → Int32} : (∀ j, j < 32 → hb a j = hb c j) ↔ same8 a c := ⟨fun q => hb_inj q, fun q j hj => hb_ext q hj⟩
theorem isAs_no (hA : MdAt N S R 759) (I : Nat → Nat → Int32) (J : Nat → Nat → Int64) (r : Nat) (k : Int32) : ∀ (q b fuel : Nat), b + q = 32 → q < fuel → fX9_isAs_5 fuel 759 r k 0 (nI b) (N, SL, S, R, I, J) = some (0, (N, SL, S, R, I, J))
  | 0, b, fuel, hb', hf => by
    obtain ⟨y, rfl⟩ : ∃ y, fuel = y + 1 := ⟨fuel - 1, by omega⟩
    have : b = 32 := by omega
    subst this
    rw [fX9_isAs_5, if_pos (by decide), retZ_0]
  | q + 1, b, fuel, hb', hf => by
    obtain ⟨y, rfl⟩ : ∃ y, fuel = y + 1 := ⟨fuel - 1, by omega⟩
    rw [fX9_isAs_5, if_neg (show ¬ (32 : Int32) ≤ nI b from nI_lt_of (k := 32) (by decide) (by omega)), if_pos rfl]
    unfold fX9_isAs_39 fX9_isAs_40
    rw [nI_1]
    exact isAs_no hA I J r k q (b + 1) y (by omega) (by omega)
theorem isAs_loop (hA : MdAt N S R 759) (I : Nat → Nat → Int32) (J : Nat → Nat → Int64) (r : Nat) (hr : r < N) (hs : S r = .inl (.int, 256)) (k : Nat) (hk : k < 8) (c H : Nat → Int32) (hc : ∀ j, j < 32 → I r (32 * k + j) = hb c j) (hh : ∀ j, j < 32 → I 794 j = hb H j) : ∀ (q b fuel : Nat), b + q = 32 → q < fuel → (∀ j, j < b → hb c j = hb H j) → fX9_isAs_5 fuel 759 r (nI k) 1 (nI b) (N, SL, S, R, I, J) = some (if same8 c H then 1 else 0, (N, SL, S, R, I, J))
  | 0, b, fuel, hb', hf, h => by
    obtain ⟨y, rfl⟩ : ∃ y, fuel = y + 1 := ⟨fuel - 1, by omega⟩
    have : b = 32 := by omega
    subst this
    rw [fX9_isAs_5, if_pos (by decide), retZ_1, if_pos (hb32.mp h)]
  | q + 1, b, fuel, hb', hf, h => by
    obtain ⟨y, rfl⟩ : ∃ y, fuel = y + 1 := ⟨fuel - 1, by omega⟩
    rw [fX9_isAs_5, if_neg (show ¬ (32 : Int32) ≤ nI b from nI_lt_of (k := 32) (by decide) (by omega)), if_neg (show ¬ (1 : Int32) = 0 by decide), show (32 : Int32) = nI 32 from rfl, nI_mul, nI_add, rI_mk hr hs (by omega) (by decide), hc b (by omega), md_f45 hA, md_r35 hA (by omega)]
    show (if hb c b = I 794 b then _ else _) = _
    rw [hh b (by omega)]
    unfold fX9_isAs_39 fX9_isAs_40
    rw [nI_1]
    by_cases w : hb c b = hb H b
    · rw [if_pos w]
      exact isAs_loop hA I J r hr hs k hk c H hc hh q (b + 1) y (by omega) (by omega) (fun j hj => by
        by_cases z : j = b
        · rw [z]; exact w
        · exact h j (by omega))
    · rw [if_neg w, if_neg (fun z => w (hb_ext z (by omega)))]
      exact isAs_no hA I J r (nI k) q (b + 1) y (by omega) (by omega)
set_option maxHeartbeats 4000000 in
theorem m_verify (hT : TopAt N S R) (I : Nat → Nat → Int32) (J : Nat → Nat → Int64) (L : Lg) (tn : Nat) (tl : Nat → Nat × Int64) (nw : Nat → Nat) (et : Nat → Option Nat) (hL : LInv L) (h : MA I J L tn tl nw et) (hS : MS I) (hd : Hd) (hH : HdM I hd) (hG : HdG hd L.ne) (x : Int32) :
    ∃ I' : Nat → Nat → Int32, fX9_verify 759 x (N, SL, S, R, I, J) = some (aVer L nw hd x, (N, SL, S, R, I', J)) ∧ MS I' ∧ HFr I I' := by
  have h1 := hL.1
  have hA := hT.md
  have nothing : HFr I I := ⟨fun _ _ _ => rfl, fun _ _ => rfl⟩
  unfold fX9_verify fX9_verify_19 fX9_verify_73 aVer
  rw [in_mk, bd_some]
  by_cases q : x < 0 ∨ ¬ x < 8
  · exact ⟨I, by rw [if_pos ((in7 x).mpr q), if_pos rfl, if_pos q], hS, nothing⟩
  · obtain ⟨k, rfl, hk⟩ := in_nI (n := 8) (by decide) q
    obtain ⟨o1, o2⟩ := hH k hk
    rw [if_neg (fun z => q ((in7 _).mp z)), if_neg (show ¬ (1 : Int32) = 0 by decide), if_neg q, nI_clamp (by omega), md_f49 hA, md_r39 hA hk]
    show ∃ I', (if I 798 k = 0 then _ else _) = _ ∧ _
    cases e : hd k with
    | none =>
      rw [o1 e, if_pos rfl]
      exact ⟨I, rfl, hS, nothing⟩
    | some v =>
      obtain ⟨n, c, t⟩ := v
      obtain ⟨a0, a1, a2, a3⟩ := o2 n c t e
      have hne := hG k n c t e
      obtain ⟨I2, g1, g2, g3, g4⟩ := chain_MD (SL := SL) hT I J L hL nw h.2.1 h.2.2.1 hS n hne
      have i1 := isAs_loop (SL := SL) hA I2 J 799 (by have := hT.1.2.1; omega) (md_headChain hA).2.1 k hk c (chA nw L.st n) (fun j hj => by rw [g2.1 799 (by omega) (by omega)]; exact a2 j hj) g4 32 0 FU rfl (by decide) (fun j hj => absurd hj (by omega))
      rw [a0, if_neg (show ¬ (1 : Int32) = 0 by decide), md_f48 hA, md_r38 hA hk]
      show ∃ I', cV _ 9 759 (fX9_chain 759 (I 797 k) _) _ = _ ∧ _
      rw [a1, md_o hA, g1, bd_some, md_f50 hA, md_o hA]
      show ∃ I', bd (fX9_isAs_5 FU 759 799 (nI k) 1 (nI 0) _) _ = some ((if same8 (chA nw L.st n) c then (if same8 (trA nw L.st 0 n) t then 0 else 2) else 1 : Int32), _) ∧ _
      rw [i1, bd_some]
      have sy : same8 c (chA nw L.st n) ↔ same8 (chA nw L.st n) c := ⟨fun z j hj => (z j hj).symm, fun z j hj => (z j hj).symm⟩
      by_cases w : same8 (chA nw L.st n) c
      · have hM2 := h.hfr g2
        obtain ⟨I3, t1, t2, t3, t4⟩ := tree_MD (SL := SL) hT I2 J L hL nw hM2.2.1 hM2.2.2.1 g3 0 n (by omega) hne
        rw [Nat.sub_zero] at t4
        have i2 := isAs_loop (SL := SL) hA I3 J 800 (by have := hT.1.2.1; omega) (md_headTree hA).2.1 k hk t (trA nw L.st 0 n) (fun j hj => by rw [t2.1 800 (by omega) (by omega), g2.1 800 (by omega) (by omega)]; exact a3 j hj) t4 32 0 FU rfl (by decide) (fun j hj => absurd hj (by omega))
        have e7 : I2 797 k = nI n := by rw [g2.1 797 (by omega) (by omega)]; exact a1
        refine ⟨I3, ?_, t3, ⟨fun c q1 q2 => by rw [t2.1 c q1 q2, g2.1 c q1 q2], fun j hj => by rw [t2.2 j hj, g2.2 j hj]⟩⟩
        rw [if_pos (sy.mpr w), if_neg (show ¬ (1 : Int32) = 0 by decide), if_pos w, md_f48 hA, md_r38 hA hk]
        show cV _ 9 759 (fX9_tree 759 (nI 0) (I2 797 k) _) _ = _
        rw [e7, md_o hA, t1, bd_some, md_f51 hA, md_o hA]
        show bd (fX9_isAs_5 FU 759 800 (nI k) 1 (nI 0) _) _ = _
        rw [i2, bd_some]
        by_cases z : same8 (trA nw L.st 0 n) t
        · rw [if_pos (show same8 t (trA nw L.st 0 n) from fun j hj => (z j hj).symm), if_neg (show ¬ (1 : Int32) = 0 by decide), if_pos z]
        · rw [if_neg (show ¬ same8 t (trA nw L.st 0 n) from fun y => z (fun j hj => (y j hj).symm)), if_pos rfl, if_neg z]
      · refine ⟨I2, ?_, g3, g2⟩
        rw [if_neg (fun y => w (sy.mp y)), if_pos rfl, if_neg w]
end Heads
