-- P3, reference: does
theorem u2_o {α : Type} {f : Nat → Nat → α} {c j c' j' : Nat} {x : α} (h : ¬ (c' = c ∧ j' = j)) : u2 f c j x c' j' = f c' j' := if_neg h
theorem u2_i {α : Type} {f : Nat → Nat → α} {c j : Nat} {x : α} : u2 f c j x c j = x := if_pos ⟨rfl, rfl⟩
/-- the reference has L as its ledger z, but for its count of entries: k of them stand -/
def Mk (m z : Nat) (I : Nat → Nat → Int32) (J : Nat → Nat → Int64) (L : Lg) (k : Nat) : Prop :=
  (I (m + 1) z = nI L.na ∧ I (m + 2) z = nI L.ne ∧ I (m + 3) z = nI L.ev ∧ I (m + 4) z = nI L.si) ∧
  (∀ a, a < L.na → MAcc m z J (L.fl a) (L.ba a) (L.he a) a) ∧ ∀ i, i < k → MEnt m z I J (L.es i) i
def Own (m z c j : Nat) : Prop := Hf m z c j ∨ (c = m + 5 ∧ j = z)
/-- only ledger z has changed -/
def FZ (m z : Nat) (I I' : Nat → Nat → Int32) (J J' : Nat → Nat → Int64) : Prop := (∀ c j, ¬ Own m z c j → I' c j = I c j) ∧ ∀ c j, ¬ Own m z c j → J' c j = J c j
section RefE
variable {N SL : Nat} {S : Nat → Shp} {R : Nat → Nat → Option Nat} {m z : Nat}
theorem FZ.refl {I : Nat → Nat → Int32} {J : Nat → Nat → Int64} : FZ m z I I J J := ⟨fun _ _ _ => rfl, fun _ _ _ => rfl⟩
theorem FZ.trans {I I' I'' : Nat → Nat → Int32} {J J' J'' : Nat → Nat → Int64} (h : FZ m z I I' J J') (h' : FZ m z I' I'' J' J'') : FZ m z I I'' J J'' := ⟨fun c j q => (h'.1 c j q).trans (h.1 c j q), fun c j q => (h'.2 c j q).trans (h.2 c j q)⟩
theorem FZ.wI {I I' : Nat → Nat → Int32} {J J' : Nat → Nat → Int64} {c j : Nat} {x : Int32} (h : FZ m z I I' J J') (o : Own m z c j) : FZ m z I (u2 I' c j x) J J' := ⟨fun c' j' q => (u2_o (fun w => q (by rw [w.1, w.2]; exact o))).trans (h.1 c' j' q), h.2⟩
theorem FZ.wJ {I I' : Nat → Nat → Int32} {J J' : Nat → Nat → Int64} {c j : Nat} {x : Int64} (h : FZ m z I I' J J') (o : Own m z c j) : FZ m z I I' J (u2 J' c j x) := ⟨h.1, fun c' j' q => (u2_o (fun w => q (by rw [w.1, w.2]; exact o))).trans (h.2 c' j' q)⟩
theorem own_n {c : Nat} (h1 : m + 1 ≤ c) (h2 : c ≤ m + 5) : Own m z c z := by unfold Own Hf; omega
theorem own_a {c a : Nat} (h1 : m + 6 ≤ c) (h2 : c ≤ m + 9) (ha : a < 40) : Own m z c (40 * z + a) := by unfold Own Hf; omega
theorem own_e {c i : Nat} (h1 : m + 10 ≤ c) (h2 : c ≤ m + 18) (h3 : c ≠ m + 13) (h4 : c ≠ m + 14) (hi : i < 200) : Own m z c (200 * z + i) := by unfold Own Hf; omega
theorem own_l {c i k : Nat} (h1 : m + 13 ≤ c) (h2 : c ≤ m + 14) (hi : i < 200) (hk : k < 8) : Own m z c (8 * (200 * z + i) + k) := by unfold Own Hf; omega
/-- the call's own places are no ledger's -/
theorem FZ.call {I I' : Nat → Nat → Int32} {J J' : Nat → Nat → Int64} {kd : Nat} {key : Int64} {n : Nat} {lg : Nat → Nat × Int64} {e a : Int32} {v : Int64} (h : FZ m z I I' J J') (hc : CallOk I J m kd key n lg e a v) : CallOk I' J' m kd key n lg e a v := by
  have no : ∀ c j, (c < m + 1 ∨ m + 18 < c) → ¬ Own m z c j := fun c j q => by unfold Own Hf; omega
  obtain ⟨h1, h2, h3, h4, h5, h6⟩ := hc
  refine ⟨by rw [h.1 _ _ (no _ _ (by omega))]; exact h1, by rw [h.2 _ _ (no _ _ (by omega))]; exact h2, ⟨by rw [h.1 _ _ (no _ _ (by omega))]; exact h3.1, h3.2.1, fun k hk => by rw [h.1 _ _ (no _ _ (by omega)), h.2 _ _ (no _ _ (by omega))]; exact h3.2.2 k hk⟩, by rw [h.1 _ _ (no _ _ (by omega))]; exact h4, by rw [h.1 _ _ (no _ _ (by omega))]; exact h5, by rw [h.2 _ _ (no _ _ (by omega))]; exact h6⟩
theorem MEnt.congr {I I' : Nat → Nat → Int32} {J J' : Nat → Nat → Int64} {e : En} {i : Nat} (h8 : e.nl ≤ 8) (hI : ∀ c j, m + 10 ≤ c → c ≤ m + 18 → ((c ≠ m + 13 ∧ j = 200 * z + i) ∨ (c = m + 13 ∧ 8 * (200 * z + i) ≤ j ∧ j < 8 * (200 * z + i) + 8)) → I' c j = I c j) (hJ : ∀ c j, m + 10 ≤ c → c ≤ m + 18 → ((c ≠ m + 14 ∧ j = 200 * z + i) ∨ (c = m + 14 ∧ 8 * (200 * z + i) ≤ j ∧ j < 8 * (200 * z + i) + 8)) → J' c j = J c j) (h : MEnt m z I J e i) : MEnt m z I' J' e i := by
  obtain ⟨⟨h1, h2, h3⟩, h4, h5, h6, h7⟩ := h
  refine ⟨⟨?_, ?_, ?_⟩, fun k hk => ⟨?_, ?_⟩, fun q => ⟨?_, ?_⟩, ?_, ?_⟩
  · rw [hI _ _ (by omega) (by omega) (by omega)]; exact h1
  · rw [hJ _ _ (by omega) (by omega) (by omega)]; exact h2
  · rw [hI _ _ (by omega) (by omega) (by omega)]; exact h3
  · rw [hI _ _ (by omega) (by omega) (by omega)]; exact (h4 k hk).1
  · rw [hJ _ _ (by omega) (by omega) (by omega)]; exact (h4 k hk).2
  · rw [hI _ _ (by omega) (by omega) (by omega)]; exact (h5 q).1
  · rw [hJ _ _ (by omega) (by omega) (by omega)]; exact (h5 q).2
  · rw [hI _ _ (by omega) (by omega) (by omega)]; exact h6
  · rw [hI _ _ (by omega) (by omega) (by omega)]; exact h7
set_option maxHeartbeats 4000000 in
theorem doesL_loop (hA : MdAt N S R m) (hz : z ≤ 1) (L : Lg) (hna : L.na ≤ 40) (hne : L.ne < 200) (h8o : ∀ i, i < L.ne → (L.es i).nl ≤ 8) (kd : Nat) (key : Int64) (n : Nat) (lg : Nat → Nat × Int64) (e a : Int32) (v : Int64) (hac : ∀ k, k < n → (lg k).1 < L.na) : ∀ (q k fuel : Nat) (I : Nat → Nat → Int32) (J : Nat → Nat → Int64) (cur bb : Nat → Int64), k + q = n → q < fuel → CallOk I J m kd key n lg e a v → Mk m z I J (L.wba cur) L.ne → bhR lg q k cur = some bb → (∀ j, j < k → I (m + 13) (8 * (200 * z + L.ne) + j) = nI (lg j).1 ∧ J (m + 14) (8 * (200 * z + L.ne) + j) = (lg j).2) →
    ∃ (y : Nat) (I' : Nat → Nat → Int32) (J' : Nat → Nat → Int64), fX9_does_94 fuel m (nI z) (nI L.ne) (nI (200 * z + L.ne)) (nI k) (N, SL, S, R, I, J) = fX9_does_94 (y + 1) m (nI z) (nI L.ne) (nI (200 * z + L.ne)) (nI n) (N, SL, S, R, I', J') ∧ FZ m z I I' J J' ∧ Mk m z I' J' (L.wba bb) L.ne ∧ (∀ j, j < n → I' (m + 13) (8 * (200 * z + L.ne) + j) = nI (lg j).1 ∧ J' (m + 14) (8 * (200 * z + L.ne) + j) = (lg j).2) ∧ (∀ c, c ≠ m + 13 → I' c = I c) ∧ ∀ c, c ≠ m + 14 → c ≠ m + 7 → J' c = J c
  | 0, k, fuel, I, J, cur, bb, hk, hf, hc, hM, hb, hd => by
    obtain ⟨y, rfl⟩ : ∃ y, fuel = y + 1 := ⟨fuel - 1, by omega⟩
    have : k = n := by omega
    subst this
    cases hb
    exact ⟨y, I, J, rfl, FZ.refl, hM, hd, fun _ _ => rfl, fun _ _ _ => rfl⟩
  | q + 1, k, fuel, I, J, cur, bb, hk, hf, hc, hM, hb, hd => by
    obtain ⟨y, rfl⟩ : ∃ y, fuel = y + 1 := ⟨fuel - 1, by omega⟩
    have h8 := hc.2.2.1.2.1
    have h9 := hac k (by omega)
    have hlk := hc.2.2.1.2.2 k (by omega)
    have hb' : bhR lg q (k + 1) (up cur (lg k).1 (cur (lg k).1 + (lg k).2)) = some bb := by
      rw [bhR] at hb
      by_cases w : 0 ≤ ((cur (lg k).1 ^^^ (cur (lg k).1 + (lg k).2)) &&& ((lg k).2 ^^^ (cur (lg k).1 + (lg k).2)))
      · rw [if_pos w] at hb; exact hb
      · rw [if_neg w] at hb; cases hb
    obtain ⟨I1, hI1⟩ : ∃ I1, I1 = u2 I (m + 13) (8 * (200 * z + L.ne) + k) (nI (lg k).1) := ⟨_, rfl⟩
    obtain ⟨J1, hJ1⟩ : ∃ J1, J1 = u2 (u2 J (m + 14) (8 * (200 * z + L.ne) + k) (lg k).2) (m + 7) (40 * z + (lg k).1) (cur (lg k).1 + (lg k).2) := ⟨_, rfl⟩
    have fz : FZ m z I I1 J J1 := by
      rw [hI1, hJ1]
      exact ((FZ.refl.wI (own_l (by omega) (by omega) hne (by omega))).wJ (own_l (by omega) (by omega) hne (by omega))).wJ (own_a (by omega) (by omega) (by omega))
    have hM1 : Mk m z I1 J1 (L.wba (up cur (lg k).1 (cur (lg k).1 + (lg k).2))) L.ne := by
      refine ⟨?_, fun c hc' => ?_, fun i hi => ?_⟩
      · rw [hI1, u2_ne (by omega), u2_ne (by omega), u2_ne (by omega), u2_ne (by omega)]; exact hM.1
      · obtain ⟨g1, g2, g3⟩ := hM.2.1 c hc'
        unfold MAcc
        rw [hJ1, u2_ne (show m + 6 ≠ m + 7 by omega), u2_ne (show m + 6 ≠ m + 14 by omega), u2_ne (show m + 8 ≠ m + 7 by omega), u2_ne (show m + 8 ≠ m + 14 by omega), u2_ne (show m + 9 ≠ m + 7 by omega), u2_ne (show m + 9 ≠ m + 14 by omega), u2_at, u2_ne (show m + 7 ≠ m + 14 by omega)]
        refine ⟨g1, ?_, g3⟩
        show up _ _ _ (40 * z + c) = up cur (lg k).1 _ c
        by_cases w : c = (lg k).1
        · rw [w, up_eq, up_eq]
        · rw [up_ne (by omega), up_ne w]; exact g2
      · refine MEnt.congr (h8o i hi) (fun c j b1 b2 b3 => ?_) (fun c j b1 b2 b3 => ?_) (hM.2.2 i hi)
        · rw [hI1, u2_o (by omega)]
        · rw [hJ1, u2_o (by omega), u2_o (by omega)]
    obtain ⟨y', I', J', g1, g2, g3, g4, g5, g6⟩ := doesL_loop hA hz L hna hne h8o kd key n lg e a v hac q (k + 1) y I1 J1 _ bb (by omega) (by omega) (fz.call hc) hM1 hb' (fun j hj => by
      rw [hI1, hJ1, u2_ne (show m + 14 ≠ m + 7 by omega), u2_at, u2_at]
      by_cases w : j = k
      · rw [w, up_eq, up_eq]; exact ⟨rfl, rfl⟩
      · rw [up_ne (by omega), up_ne (by omega)]; exact hd j (by omega))
    refine ⟨y', I', J', ?_, fz.trans g2, g3, g4, fun c hc => by rw [g5 c hc, hI1, u2_ne hc], fun c hc hc' => by rw [g6 c hc hc', hJ1, u2_ne hc', u2_ne hc]⟩
    have hb0 := (hM.2.1 (lg k).1 h9).2.1
    rw [fX9_does_94, md_g hA, hc.2.2.1.1, if_neg (nI_lt_of (by omega) (by omega)), md_f12 hA, md_f32 hA, md_r25 hA (by omega), hlk.1, show (8 : Int32) = nI 8 from rfl, nI_mul, nI_add, md_w13 hA (by omega), md_f13 hA, md_f33 hA, md_r26 hA (by omega), hlk.2, md_w14 hA (by omega), md_f6 hA, md_f32 hA, md_r25 hA (by omega), u2_ne (by omega), hlk.1, show (40 : Int32) = nI 40 from rfl, nI_mul, nI_add, md_r7 hA (by omega), u2_ne (by omega), hb0, md_f33 hA, md_r26 hA (by omega), u2_ne (by omega), hlk.2, md_w7 hA (by omega), nI_1, ← hI1]
    show fX9_does_94 y m (nI z) (nI L.ne) (nI (200 * z + L.ne)) (nI (k + 1)) (N, SL, S, R, I1, u2 (u2 J (m + 14) (8 * (200 * z + L.ne) + k) (lg k).2) (m + 7) (40 * z + (lg k).1) (cur (lg k).1 + (lg k).2)) = _
    rw [← hJ1]
    exact g1
theorem nar_b0 : vp_nar .boolean 0 = 0 := by decide
theorem nar_b1 : vp_nar .boolean 1 = 1 := by decide
set_option maxHeartbeats 8000000 in
/-- does, up to the legs: the new entry's row stands -/
theorem doesA (hA : MdAt N S R m) (hz : z ≤ 1) (I : Nat → Nat → Int32) (J : Nat → Nat → Int64) (L : Lg) (hM : MRep m z I J L) (hna : L.na ≤ 40) (hne : L.ne < 200) (h8o : ∀ i, i < L.ne → (L.es i).nl ≤ 8) (kd : Nat) (hkd : kd < 10) (key : Int64) (n : Nat) (lg : Nat → Nat × Int64) (e a : Int32) (v : Int64) (hc : CallOk I J m kd key n lg e a v) (hac : ∀ k, k < n → (lg k).1 < L.na) (bb : Nat → Int64) (hb : bhR lg n 0 L.ba = some bb) (ha hm : Nat) (h3 : kd = 3 → a = nI ha ∧ v = Int64.ofNat hm) :
    ∃ (y : Nat) (I' : Nat → Nat → Int32) (J' : Nat → Nat → Int64), fX9_does m (nI z) (N, SL, S, R, I, J) = fX9_does_94 (y + 1) m (nI z) (nI L.ne) (nI (200 * z + L.ne)) (nI n) (N, SL, S, R, I', J') ∧ FZ m z I I' J J' ∧ CallOk I' J' m kd key n lg e a v ∧ Mk m z I' J' ((L.wba bb).wes (up L.es L.ne (kd, key, n, lg, -1, ha, hm))) (L.ne + 1) := by
  have h8 := hc.2.2.1.2.1
  obtain ⟨b, hbv⟩ : ∃ b : Int32, b = if kd = 3 then 1 else 0 := ⟨_, rfl⟩
  obtain ⟨I1, hI1⟩ : ∃ I1, I1 = u2 (u2 (u2 (u2 (u2 I (m + 10) (200 * z + L.ne) (nI kd)) (m + 12) (200 * z + L.ne) (nI n)) (m + 17) (200 * z + L.ne) b) (m + 18) (200 * z + L.ne) (-1)) (m + 15) (200 * z + L.ne) a := ⟨_, rfl⟩
  obtain ⟨J1, hJ1⟩ : ∃ J1, J1 = u2 (u2 J (m + 11) (200 * z + L.ne) key) (m + 16) (200 * z + L.ne) v := ⟨_, rfl⟩
  have fz : FZ m z I I1 J J1 := by
    rw [hI1, hJ1]
    exact ((((((FZ.refl.wI (own_e (by omega) (by omega) (by omega) (by omega) hne)).wI (own_e (by omega) (by omega) (by omega) (by omega) hne)).wI (own_e (by omega) (by omega) (by omega) (by omega) hne)).wI (own_e (by omega) (by omega) (by omega) (by omega) hne)).wI (own_e (by omega) (by omega) (by omega) (by omega) hne)).wJ (own_e (by omega) (by omega) (by omega) (by omega) hne)).wJ (own_e (by omega) (by omega) (by omega) (by omega) hne)
  have hM1 : Mk m z I1 J1 (L.wba L.ba) L.ne := by
    refine ⟨?_, fun c hc' => ?_, fun i hi => ?_⟩
    · rw [hI1]
      repeat rw [u2_o (by omega)]
      exact hM.1
    · have o := hM.2.1 c hc'
      unfold MAcc at o ⊢
      rw [hJ1]
      repeat rw [u2_o (by omega)]
      exact o
    · refine MEnt.congr (h8o i hi) (fun c j b1 b2 b3 => ?_) (fun c j b1 b2 b3 => ?_) (hM.2.2 i hi)
      · rw [hI1, u2_o (by omega), u2_o (by omega), u2_o (by omega), u2_o (by omega), u2_o (by omega)]
      · rw [hJ1, u2_o (by omega), u2_o (by omega)]
  obtain ⟨y, I', J', g1, g2, g3, g4, g5, g6⟩ := doesL_loop (SL := SL) hA hz L hna hne h8o kd key n lg e a v hac n 0 FU I1 J1 L.ba bb (by omega) (by unfold FU; omega) (fz.call hc) hM1 hb (fun j hj => absurd hj (by omega))
  refine ⟨y, I', J', ?_, fz.trans g2, (fz.trans g2).call hc, g3.1, g3.2.1, fun i hi => ?_⟩
  · have st : ∀ b0 : Int32, vp_nar .boolean b0 = b → fX9_does_63 m (nI z) (nI L.ne) (nI (200 * z + L.ne)) b0 (nI (200 * z + L.ne)) (m + 17) (N, SL, S, R, u2 (u2 I (m + 10) (200 * z + L.ne) (nI kd)) (m + 12) (200 * z + L.ne) (nI n), u2 J (m + 11) (200 * z + L.ne) key) = fX9_does_94 FU m (nI z) (nI L.ne) (nI (200 * z + L.ne)) 0 (N, SL, S, R, I1, J1) := by
      intro b0 hb0
      unfold fX9_does_63
      rw [md_w17 hA (by omega), hb0, md_f17 hA, md_w18 hA (by omega), md_f14 hA, md_g hA, u2_ne (by omega), u2_ne (by omega), u2_ne (by omega), u2_ne (by omega), hc.2.2.2.2.1, md_w15 hA (by omega), md_f15 hA, md_gJ hA, u2_ne (by omega), hc.2.2.2.2.2, md_w16 hA (by omega), ← hI1, ← hJ1]
    unfold fX9_does
    rw [md_f1 hA, md_r2 hA (by omega), hM.1.2.1, md_f9 hA, md_g hA, hc.1, show (200 : Int32) = nI 200 from rfl, nI_mul, nI_add, md_w10 hA (by omega), md_f10 hA, md_gJ hA, hc.2.1, md_w11 hA (by omega), md_f11 hA, md_g hA, u2_ne (by omega), hc.2.2.1.1, md_w12 hA (by omega), md_f16 hA, md_g hA, u2_ne (by omega), u2_ne (by omega), hc.1]
    by_cases w : kd = 3
    · rw [if_pos (show nI kd = (3 : Int32) by rw [w]; rfl), st 1 (by rw [hbv, if_pos w]; exact nar_b1)]
      exact g1
    · rw [if_neg (show ¬ nI kd = (3 : Int32) from fun q => w ((kd_is hkd (by decide)).mp q)), st 0 (by rw [hbv, if_neg w]; exact nar_b0)]
      exact g1
  · show MEnt m z I' J' (up L.es L.ne _ i) i
    by_cases w : i = L.ne
    · rw [w, up_eq]
      have e0 : thB (kd, key, n, lg, -1, ha, hm) = decide (kd = 3) := by
        show (decide (kd = 3) && decide ((-1 : Int32) = -1)) = _
        rw [decide_eq_true (rfl : (-1 : Int32) = -1), Bool.and_true]
      refine ⟨⟨?_, ?_, ?_⟩, g4, fun q => ⟨?_, ?_⟩, ?_, ?_⟩
      · rw [g5 _ (by omega), hI1]
        repeat rw [u2_o (by omega)]
        exact u2_i
      · rw [g6 _ (by omega) (by omega), hJ1]
        repeat rw [u2_o (by omega)]
        exact u2_i
      · rw [g5 _ (by omega), hI1]
        repeat rw [u2_o (by omega)]
        exact u2_i
      · rw [g5 _ (by omega), hI1, u2_i]
        exact (h3 q).1
      · rw [g6 _ (by omega) (by omega), hJ1, u2_i]
        exact (h3 q).2
      · rw [g5 _ (by omega), hI1, u2_o (by omega), u2_o (by omega), u2_i, hbv, e0]
        by_cases t : kd = 3
        · rw [if_pos t, decide_eq_true t, if_pos rfl]
        · rw [if_neg t, decide_eq_false t, if_neg (fun q => by cases q)]
      · rw [g5 _ (by omega), hI1, u2_o (by omega), u2_i]
        rfl
    · rw [up_ne w]
      exact g3.2.2 i (by omega)
end RefE
