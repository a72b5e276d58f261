-- P6: the audit: the class
def tellL (et : Nat → Option Nat) (C : Lg) (i : Nat) : Lg := match et i with | none => C | some n => C.wev n
abbrev stdL (D : Nat → Nat) (T : Nat) (C : Lg) (i : Nat) : Prop := C.st (i + 1) ≤ T ∧ ∀ k, k < C.st (i + 1) → C.st i ≤ k → C.yb k = D k
def nxtL (D : Nat → Nat) (T : Nat) (et : Nat → Option Nat) (C : Lg) (i : Nat) : Lg := if (tellL et C i).ne = i then (callL (zD D T) (tellL et C i) ((tellL et C i).st i)).2 else tellL et C i
/-- the first entry that no ledger would make there -/
def audL (D : Nat → Nat) (T : Nat) (et : Nat → Option Nat) : Nat → Lg → Nat → Option Nat
  | 0, _, _ => none
  | q + 1, C, i => if i < C.ne ∨ C.st i < T then (if (nxtL D T et C i).ne = i ∨ ¬ stdL D T (nxtL D T et C i) i then some i else audL D T et q (nxtL D T et C i) (i + 1)) else none
/-- the first entry with a byte that is another -/
def difI (L : Lg) (D : Nat → Nat) : Nat → Nat → Option Nat
  | 0, _ => none
  | q + 1, i => if (∀ k, k < L.st (i + 1) → L.st i ≤ k → D k = L.yb k) then difI L D q (i + 1) else some i
def aAud (L : Lg) (D : Nat → Nat) (et : Nat → Option Nat) : Int32 := match audL D (L.st L.ne) et 201 emptyL 0 with | some i => nI i | none => etI (difI L D L.ne 0)
theorem dif_at {L : Lg} (hL : LInv L) {D : Nat → Nat} {e k : Nat} (he : e < L.ne) (h1 : L.st e ≤ k) (h2 : k < L.st (e + 1)) (hk : D k ≠ L.yb k) (hj : ∀ j, j < k → D j = L.yb j) : ∀ q i, i + q = L.ne → i ≤ e → difI L D q i = some e
  | 0, i, hq, hi => by omega
  | q + 1, i, hq, hi => by
    rw [difI]
    by_cases z : i = e
    · rw [z, if_neg (fun x => hk (x k h2 h1))]
    · have m := hL.st_mono (i + 1) (e - (i + 1)) (by omega)
      rw [show i + 1 + (e - (i + 1)) = e by omega] at m
      rw [if_pos (fun j a _ => hj j (by omega))]
      exact dif_at hL he h1 h2 hk hj q (i + 1) (by omega) (by omega)
theorem dif_no {L : Lg} (hL : LInv L) {D : Nat → Nat} (h : ∀ k, k < L.st L.ne → D k = L.yb k) : ∀ q i, i + q = L.ne → difI L D q i = none
  | 0, i, hq => rfl
  | q + 1, i, hq => by
    have := hL.st_in (i := i) (by omega)
    rw [difI, if_pos (fun k a _ => h k (by omega))]
    exact dif_no hL h q (i + 1) (by omega)
theorem wev_nd {C : Lg} {n : Nat} : ¬ Due (C.wev n) := fun x => by
  have h1 : 0 < n := x.1
  have h2 : n ≤ 0 := x.2.1
  omega
theorem tell_ok {et : Nat → Option Nat} (hEt : ∀ i n, et i = some n → n ≤ 50) {C : Lg} (hL : LInv C) (hd : ¬ Due C) (i : Nat) : LInv (tellL et C i) ∧ ¬ Due (tellL et C i) ∧ (tellL et C i).ne = C.ne ∧ (tellL et C i).st = C.st ∧ (tellL et C i).yb = C.yb := by
  unfold tellL
  cases h : et i with
  | none => exact ⟨hL, hd, rfl, rfl, rfl⟩
  | some n => exact ⟨hL.ev (hEt i n h), wev_nd, rfl, rfl, rfl⟩
theorem callL_keeps {z : Nat → Nat} (hz : ∀ k, z k < 256) {C : Lg} (hL : LInv C) (hd : ¬ Due C) (p : Nat) : Keeps C (callL z C p) := by
  unfold callL
  by_cases w1 : z p = 1
  · rw [if_pos w1]; exact aOpen_keeps hL hd _
  rw [if_neg w1]
  by_cases w2 : z p = 2
  · rw [if_pos w2]
    by_cases w : rOk z (p + 9)
    · rw [if_pos w]; exact cPost_keeps hL hd _ _ _ w.1 (fun k hk => ⟨hz _, w.2 k hk⟩)
    · rw [if_neg w]; exact Keeps.same hL hd _
  rw [if_neg w2]
  by_cases w3 : z p = 3
  · rw [if_pos w3]; exact cHold_keeps hL hd _ _ _
  rw [if_neg w3]
  by_cases w4 : z p = 4
  · rw [if_pos w4]; exact cRel_keeps hL hd _
  rw [if_neg w4]
  by_cases w5 : z p = 5
  · rw [if_pos w5]; exact cCap_keeps hL hd _ _ _ _
  rw [if_neg w5]
  by_cases w6 : z p = 6
  · rw [if_pos w6]; exact cRev_keeps hL hd _ _
  · rw [if_neg w6]; exact Keeps.same hL hd _
theorem nxt_ok {D : Nat → Nat} {T : Nat} (hD : ∀ k, D k < 256) {et : Nat → Option Nat} (hEt : ∀ i n, et i = some n → n ≤ 50) {C : Lg} (hL : LInv C) (hd : ¬ Due C) (i : Nat) : LInv (nxtL D T et C i) ∧ ¬ Due (nxtL D T et C i) ∧ Ext C (nxtL D T et C i) := by
  obtain ⟨a1, a2, a3, a4, a5⟩ := tell_ok hEt hL hd i
  unfold nxtL
  by_cases w : (tellL et C i).ne = i
  · rw [if_pos w]
    obtain ⟨b1, b2, b3⟩ := callL_keeps (zD_lt (T := T) hD) a1 a2 ((tellL et C i).st i)
    exact ⟨b1, b3, by have := b2.1; omega, fun j hj => by rw [b2.2 j (by omega), a4]⟩
  · rw [if_neg w]
    exact ⟨a1, a2, by omega, fun j _ => by rw [a4]⟩
section AudB
variable {N SL : Nat} {S : Nat → Shp} {R : Nat → Nat → Option Nat}
theorem stands_loop (hT : TopAt N S R) {ne T : Nat} {D : Nat → Nat} (hne : ne ≤ 200) (hTT : T ≤ 16400) (hD : ∀ k, D k < 256) (I : Nat → Nat → Int32) (J : Nat → Nat → Int64) (hP : PN I ne T D) (C : Lg) (hC : CRep 738 I J C) (hL : LInv C) (i : Nat) (hi : i < C.ne) (hs : C.st (i + 1) ≤ T) : ∀ (q b fuel : Nat), b + q = C.st (i + 1) → q < fuel → C.st i ≤ b → (∀ k, k < b → C.st i ≤ k → C.yb k = D k) →
    fX0_stands_30 fuel 737 25 (nI i) (nI b) (N, SL, S, R, I, J) = some (if stdL D T C i then 1 else 0, (N, SL, S, R, I, J))
  | 0, b, fuel, hb, hf, h1, h2 => by
    obtain ⟨y, rfl⟩ : ∃ y, fuel = y + 1 := ⟨fuel - 1, by omega⟩
    obtain ⟨ho, r0, r1, hLe, hLg⟩ := hT.2.2.2.2.2
    have hn := hL.1
    rw [fX0_stands_30, gR_mk ho r0, le_f6 hLe, nI_1, le_r6 hLe (by omega), hC.2.2.1 _ (by omega), if_pos ((nI_leI (by omega) (by omega)).mpr (by omega)), retZ_1, if_pos (show stdL D T C i from ⟨hs, fun k a c => h2 k (by omega) c⟩)]
  | q + 1, b, fuel, hb, hf, h1, h2 => by
    obtain ⟨y, rfl⟩ : ∃ y, fuel = y + 1 := ⟨fuel - 1, by omega⟩
    obtain ⟨ho, r0, r1, hLe, hLg⟩ := hT.2.2.2.2.2
    obtain ⟨⟨ho5, hlN, hsha⟩, ⟨p0, p1, p3, p4, p6, p7⟩, ⟨s1, s2, s7, s209, s666⟩, hch, hnd⟩ := hT.pg
    have hn := hL.1
    have hin := hL.st_in hi
    rw [fX0_stands_30, gR_mk ho r0, le_f6 hLe, nI_1, le_r6 hLe (by omega), hC.2.2.1 _ (by omega), if_neg (nI_lt_of (by omega) (by omega)), gR_mk ho r0, le_f5 hLe, le_r5 hLe (by omega), hC.2.2.2.2 b (by omega), gR_mk ho5 p0, rI_mk (by omega) s1 (by omega) (by decide), hP.2.2 b (by omega)]
    by_cases z : C.yb b = D b
    · rw [if_pos (by rw [z]), nI_1]
      exact stands_loop hT hne hTT hD I J hP C hC hL i hi hs q (b + 1) y (by omega) (by omega) (by omega) (fun k a c => by
        by_cases w : k = b
        · rw [w]; exact z
        · exact h2 k (by omega) c)
    · rw [if_neg (fun x => z ((nb_inj (hL.2.1.2.2 b) (hD b)).mp x)), retZ_0, if_neg (fun x : stdL D T C i => z (x.2 b (by omega) h1))]
theorem stands_C (hT : TopAt N S R) {ne T : Nat} {D : Nat → Nat} (hne : ne ≤ 200) (hTT : T ≤ 16400) (hD : ∀ k, D k < 256) (I : Nat → Nat → Int32) (J : Nat → Nat → Int64) (hP : PN I ne T D) (C : Lg) (hC : CRep 738 I J C) (hL : LInv C) (i : Nat) (hi : i < C.ne) :
    fX0_stands 737 25 (nI i) (N, SL, S, R, I, J) = some (if stdL D T C i then 1 else 0, (N, SL, S, R, I, J)) := by
  obtain ⟨ho, r0, r1, hLe, hLg⟩ := hT.2.2.2.2.2
  have hn := hL.1
  have hin := hL.st_in hi
  have h3 := hL.2.1.2.1 i hi
  unfold fX0_stands
  rw [gR_mk ho r0, le_f6 hLe, nI_1, le_r6 hLe (by omega), hC.2.2.1 _ (by omega), cV_mk hT.pg.1.1, size_N hT I J hP hne, bd_some]
  by_cases w : C.st (i + 1) ≤ T
  · rw [if_pos ((nI_leI (by omega) (by omega)).mpr w), gR_mk ho r0, le_f6 hLe, le_r6 hLe (by omega), hC.2.2.1 _ (by omega)]
    exact stands_loop hT hne hTT hD I J hP C hC hL i hi w (C.st (i + 1) - C.st i) (C.st i) FU (by omega) (by unfold FU; omega) (Nat.le_refl _) (fun k a c => by omega)
  · rw [if_neg (nI_lt_of (by omega) (by omega)), retZ_0, if_neg (fun x : stdL D T C i => w x.1)]
theorem hasTo_C (hT : TopAt N S R) {ne T : Nat} {D : Nat → Nat} (hne : ne ≤ 200) (hTT : T ≤ 16400) (I : Nat → Nat → Int32) (J : Nat → Nat → Int64) (hP : PN I ne T D) (C : Lg) (hC : CRep 738 I J C) (hL : LInv C) (i : Nat) (hi : i ≤ C.ne) :
    fX0_hasToStand 737 25 (nI i) (N, SL, S, R, I, J) = some (if i < C.ne ∨ C.st i < T then 1 else 0, (N, SL, S, R, I, J)) := by
  obtain ⟨ho, r0, r1, hLe, hLg⟩ := hT.2.2.2.2.2
  have hn := hL.1
  have hst := hL.st_le i hi
  unfold fX0_hasToStand fX0_hasToStand_27 fX0_hasToStand_32
  rw [gR_mk ho r0, le_g hLe, hC.1.2.1]
  by_cases w : i < C.ne
  · rw [if_pos (nI_lt w (by omega)), retZ_1, if_pos (Or.inl w)]
  · rw [if_neg (nI_nlt (by omega) (by omega)), gR_mk ho r0, le_f6 hLe, le_r6 hLe (by omega), hC.2.2.1 _ hi, cV_mk hT.pg.1.1, size_N hT I J hP hne, bd_some]
    by_cases v : C.st i < T
    · rw [if_neg (nI_lt_of (by omega) v), retZ_1, if_pos (Or.inr v)]
    · rw [if_pos ((nI_leI (by omega) (by omega)).mpr (by omega)), retZ_0, if_neg (fun x => x.elim w v)]
set_option maxHeartbeats 4000000 in
theorem firstBad_loop (hT : TopAt N S R) {ne T : Nat} {D : Nat → Nat} (hne : ne ≤ 200) (hTT : T ≤ 16400) (hD : ∀ k, D k < 256) {et : Nat → Option Nat} (hEt : ∀ i n, et i = some n → n ≤ 50) : ∀ (q i fuel : Nat) (I : Nat → Nat → Int32) (J : Nat → Nat → Int64) (C : Lg), i + q = 201 → q < fuel → PN I ne T D → (∀ i, i ≤ 200 → I 24 i = etI (et i)) → CRep 738 I J C → LInv C → ¬ Due C → i ≤ C.ne →
    ∃ (I' : Nat → Nat → Int32) (J' : Nat → Nat → Int64) (C' : Lg), fX0_firstBad_9 fuel 737 25 24 (nI i) (N, SL, S, R, I, J) = some (etI (audL D T et q C i), (N, SL, S, R, I', J')) ∧ CRep 738 I' J' C' ∧ C'.st 0 = 0 ∧ (∀ c, (c < 738 ∨ 757 < c) → I' c = I c) ∧ ∀ c, (c < 738 ∨ 757 < c) → J' c = J c
  | 0, i, fuel, I, J, C, hq, hf, hP, hE, hC, hL, hd, hi => by
    have := hL.1
    omega
  | q + 1, i, fuel, I, J, C, hq, hf, hP, hE, hC, hL, hd, hi => by
    obtain ⟨y, rfl⟩ : ∃ y, fuel = y + 1 := ⟨fuel - 1, by omega⟩
    obtain ⟨ho, r0, r1, hLe, hLg⟩ := hT.2.2.2.2.2
    have hn := hL.1
    have hN := hT.1.2.1
    have hnS : nS = 3 := rfl
    obtain ⟨n1, n2, n3⟩ := nxt_ok (T := T) hD hEt hL hd i
    obtain ⟨t1, t2, t3, t4, t5⟩ := tell_ok hEt hL hd i
    rw [fX0_firstBad_9, if_neg (show ¬ (200 : Int32) < nI i from nI_nlt (a := 200) (by omega) (by decide)), cV_mk ho, hasTo_C hT hne hTT I J hP C hC hL i hi, bd_some]
    unfold fX0_firstBad_95
    rw [audL]
    by_cases w : i < C.ne ∨ C.st i < T
    · rw [if_pos w, if_pos w, if_neg (by decide), rI_mk (by omega) hT.2.2.1.1 (by omega) (by decide), hE i (by omega)]
      -- the tell
      have key : ∃ I1 : Nat → Nat → Int32, (if etI (et i) = (-1 : Int32) then fX0_firstBad_42 (fX0_firstBad_9 y) 737 25 24 (nI i) (N, SL, S, R, I, J) else (gR (N, SL, S, R, I, J) 0 0 737 fun r4 => (rI (N, SL, S, R, I, J) .int 24 (nI i) fun v5 => (cV (N, SL, S, R, I, J) 3 r4 (fX3_startEvery r4 v5 (N, SL, S, R, I, J)) fun _u7 M6 => fX0_firstBad_42 (fX0_firstBad_9 y) 737 25 24 (nI i) M6)))) = fX0_firstBad_42 (fX0_firstBad_9 y) 737 25 24 (nI i) (N, SL, S, R, I1, J) ∧ CRep 738 I1 J (tellL et C i) ∧ ∀ c, c ≠ 738 → I1 c = I c := by
        unfold tellL
        cases h : et i with
        | none => exact ⟨I, by rw [show etI none = (-1 : Int32) from rfl, if_pos rfl], hC, fun _ _ => rfl⟩
        | some n =>
          have h50 := hEt i n h
          obtain ⟨e1, e2⟩ := startEvery_C (SL := SL) hLe I J C hC n
          refine ⟨_, ?_, e2, fun c hc => by rw [u2_ne hc, u2_ne hc]⟩
          rw [show etI (some n) = nI n from rfl, if_neg (nI_n1 n (by omega)), gR_mk ho r0, rI_mk (by omega) hT.2.2.1.1 (by omega) (by decide), hE i (by omega), h, show etI (some n) = nI n from rfl, le_o hLe, e1, bd_some]
      obtain ⟨I1, k1, k2, k3⟩ := key
      have hP1 : PN I1 ne T D := hP.congr (fun c a b => k3 c (by omega))
      -- the call
      have key2 : ∃ (I2 : Nat → Nat → Int32) (J2 : Nat → Nat → Int64), fX0_firstBad_42 (fX0_firstBad_9 y) 737 25 24 (nI i) (N, SL, S, R, I1, J) = fX0_firstBad_67 (fX0_firstBad_9 y) 737 25 24 (nI i) (N, SL, S, R, I2, J2) ∧ CRep 738 I2 J2 (nxtL D T et C i) ∧ (∀ c, (c < 738 ∨ 757 < c) → I2 c = I1 c) ∧ ∀ c, (c < 738 ∨ 757 < c) → J2 c = J c := by
        unfold fX0_firstBad_42 nxtL
        rw [gR_mk ho r0, le_g hLe, k2.1.2.1]
        by_cases v : (tellL et C i).ne = i
        · have hst := t1.st_le i (by omega)
          rw [if_pos (by rw [v]), if_pos v, gR_mk ho r0, le_f6 hLe, le_r6 hLe (by omega), k2.2.2.1 i (by omega), cV_mk ho]
          obtain ⟨I2, J2, c1, c2, c3, c4⟩ := callAgain_C (SL := SL) hT hne hTT hD ((tellL et C i).st i) (by omega) I1 J hP1 (tellL et C i) k2 t1
          exact ⟨I2, J2, by rw [c1, bd_some], c2, c3, c4⟩
        · rw [if_neg (fun x => v ((nI_eq (by omega) (by omega)).mp x)), if_neg v]
          exact ⟨I1, J, rfl, k2, fun _ _ => rfl, fun _ _ => rfl⟩
      obtain ⟨I2, J2, l1, l2, l3, l4⟩ := key2
      have hP2 : PN I2 ne T D := hP1.congr (fun c a b => l3 c (by omega))
      have f1 : ∀ c, (c < 738 ∨ 757 < c) → I2 c = I c := fun c hc => by rw [l3 c hc, k3 c (by omega)]
      rw [k1, l1]
      unfold fX0_firstBad_67 fX0_firstBad_87
      rw [gR_mk ho r0, le_g hLe, l2.1.2.1]
      have hn2 := n1.1
      by_cases v : (nxtL D T et C i).ne = i
      · rw [if_pos (by rw [v]), if_pos (Or.inl v)]
        exact ⟨I2, J2, _, rfl, l2, n1.2.1.1, f1, l4⟩
      · have hlt : i < (nxtL D T et C i).ne := by have := n3.1; omega
        rw [if_neg (fun x => v ((nI_eq (by omega) (by omega)).mp x)), cV_mk ho, stands_C hT hne hTT hD I2 J2 hP2 _ l2 n1 i hlt, bd_some]
        by_cases u : stdL D T (nxtL D T et C i) i
        · rw [if_pos u, if_neg (by decide), if_neg (fun x => x.elim v (fun x => x u)), nI_1]
          obtain ⟨I3, J3, C3, m1, m2, m3, m4, m5⟩ := firstBad_loop hT hne hTT hD hEt q (i + 1) y I2 J2 (nxtL D T et C i) (by omega) (by omega) hP2 (fun j hj => by rw [f1 24 (by omega)]; exact hE j hj) l2 n1 n2 (by omega)
          exact ⟨I3, J3, C3, m1, m2, m3, fun c hc => by rw [m4 c hc, f1 c hc], fun c hc => by rw [m5 c hc, l4 c hc]⟩
        · rw [if_neg u, if_pos rfl, if_pos (Or.inr u)]
          exact ⟨I2, J2, _, rfl, l2, n1.2.1.1, f1, l4⟩
    · rw [if_neg w, if_neg w, if_pos rfl]
      exact ⟨I, J, C, rfl, hC, hL.2.1.1, fun _ _ => rfl, fun _ _ => rfl⟩
end AudB
