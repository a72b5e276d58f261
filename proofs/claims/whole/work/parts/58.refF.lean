-- P3, reference: does, to its end
def Lg.whe (L : Lg) (he : Nat → Nat) : Lg := (L.1, L.fl, L.ba, he, L.es, L.yb, L.st)
/-- a TRIAL is due -/
abbrev Due (L : Lg) : Prop := 0 < L.ev ∧ L.ev ≤ L.si ∧ L.ne < 200
def siK (kd si : Nat) : Nat := if kd = 2 ∨ kd = 5 ∨ kd = 6 then si + 1 else if kd = 7 then 0 else si
section RefF
variable {N SL : Nat} {S : Nat → Shp} {R : Nat → Nat → Option Nat} {m z : Nat}
theorem Mk.num {I I' : Nat → Nat → Int32} {J : Nat → Nat → Int64} {L : Lg} {k : Nat} (h : Mk m z I J L k) (n : Nat × Nat × Nat × Nat × Nat) (hn : n.1 = L.na) (f : ∀ c, (c < m + 1 ∨ m + 5 < c) → I' c = I c) (g : I' (m + 1) z = nI n.1 ∧ I' (m + 2) z = nI n.2.1 ∧ I' (m + 3) z = nI n.2.2.1 ∧ I' (m + 4) z = nI n.2.2.2.1) : Mk m z I' J (n, L.2) k := by
  refine ⟨g, fun a ha => h.2.1 a (by rw [← hn]; exact ha), fun i hi => ?_⟩
  have o := h.2.2 i hi
  unfold MEnt
  rw [f (m + 10) (by omega), f (m + 12) (by omega), f (m + 13) (by omega), f (m + 15) (by omega), f (m + 17) (by omega), f (m + 18) (by omega)]
  exact o
set_option maxHeartbeats 4000000 in
/-- the end of does: the counts, and whether a TRIAL is due -/
theorem doesZ (hA : MdAt N S R m) (hz : z ≤ 1) (I : Nat → Nat → Int32) (J : Nat → Nat → Int64) (L : Lg) (hM : Mk m z I J L (L.ne + 1)) (hne : L.ne < 200) (hev : L.ev ≤ 50) (hsi : L.si ≤ L.ne) (kd : Nat) (hkd : kd < 10) (h26 : I m 26 = nI kd) (x : Int32) :
    ∃ I' : Nat → Nat → Int32, fX9_does_374 m (nI z) x (N, SL, S, R, I, J) = some (x, (N, SL, S, R, I', J)) ∧ FZ m z I I' J J ∧ MRep m z I' J ((L.na, L.ne + 1, L.ev, siK kd L.si, L.hc), L.2) ∧ I' (m + 5) z = (if 0 < L.ev ∧ L.ev ≤ siK kd L.si ∧ L.ne + 1 < 200 then 1 else 0) := by
  have key : ∀ (I1 : Nat → Nat → Int32), FZ m z I I1 J J → Mk m z I1 J ((L.na, L.ne + 1, L.ev, siK kd L.si, L.hc), L.2) (L.ne + 1) → siK kd L.si < 300 → ∃ I' : Nat → Nat → Int32, fX9_does_435 m (nI z) x (N, SL, S, R, I1, J) = some (x, (N, SL, S, R, I', J)) ∧ FZ m z I I' J J ∧ MRep m z I' J ((L.na, L.ne + 1, L.ev, siK kd L.si, L.hc), L.2) ∧ I' (m + 5) z = (if 0 < L.ev ∧ L.ev ≤ siK kd L.si ∧ L.ne + 1 < 200 then 1 else 0) := by
    intro I1 f1 m1 hs
    have n1 : I1 (m + 3) z = nI L.ev := m1.1.2.2.1
    have n2 : I1 (m + 4) z = nI (siK kd L.si) := m1.1.2.2.2
    have n3 : I1 (m + 2) z = nI (L.ne + 1) := m1.1.2.1
    have fin : ∀ b b' : Int32, vp_nar .boolean b = b' → ∃ I' : Nat → Nat → Int32, fX9_does_481 x b (nI z) (m + 5) (N, SL, S, R, I1, J) = some (x, (N, SL, S, R, I', J)) ∧ FZ m z I I' J J ∧ MRep m z I' J ((L.na, L.ne + 1, L.ev, siK kd L.si, L.hc), L.2) ∧ I' (m + 5) z = b' := by
      intro b b' hb
      refine ⟨u2 I1 (m + 5) z b', ?_, f1.wI (own_n (by omega) (by omega)), ?_, u2_i⟩
      · unfold fX9_does_481
        rw [md_w5 hA (by omega), hb]
      · have m2 := Mk.num (I' := u2 I1 (m + 5) z b') m1 (L.na, L.ne + 1, L.ev, siK kd L.si, L.hc) rfl (fun c hc => u2_ne (by omega)) (by rw [u2_ne (by omega), u2_ne (by omega), u2_ne (by omega), u2_ne (by omega)]; exact m1.1)
        exact m2
    unfold fX9_does_435 fX9_does_480
    rw [md_f4 hA, md_f2 hA, md_r3 hA (by omega), n1]
    by_cases w1 : L.ev = 0
    · rw [if_pos (show nI L.ev ≤ 0 by rw [w1]; decide), if_neg (fun q => by omega)]
      exact fin 0 0 nar_b0
    · rw [if_neg (show ¬ nI L.ev ≤ 0 from nI_lt_of (t := 0) (by omega) (by omega)), md_f3 hA, md_r4 hA (by omega), n2, md_f2 hA, md_r3 hA (by omega), n1]
      by_cases w2 : siK kd L.si < L.ev
      · rw [if_pos (nI_lt w2 (by omega)), if_neg (fun q => by omega)]
        exact fin 0 0 nar_b0
      · rw [if_neg (nI_nlt (by omega) (by omega)), md_f1 hA, md_r2 hA (by omega), n3]
        by_cases w3 : L.ne + 1 < 200
        · rw [if_neg (show ¬ (200 : Int32) ≤ nI (L.ne + 1) from nI_lt_of (k := 200) (by decide) w3), if_pos ⟨by omega, by omega, w3⟩]
          exact fin 1 1 nar_b1
        · rw [if_pos (show (200 : Int32) ≤ nI (L.ne + 1) from (nI_leI (a := 200) (by decide) (by omega)).mpr (by omega)), if_neg (fun q => w3 q.2.2)]
          exact fin 0 0 nar_b0
  obtain ⟨I1, hI1⟩ : ∃ I1, I1 = u2 I (m + 2) z (nI (L.ne + 1)) := ⟨_, rfl⟩
  have f1 : FZ m z I I1 J J := by rw [hI1]; exact FZ.refl.wI (own_n (by omega) (by omega))
  have m1 : Mk m z I1 J ((L.na, L.ne + 1, L.ev, L.si, L.hc), L.2) (L.ne + 1) := Mk.num hM _ rfl (fun c hc => by rw [hI1]; exact u2_ne (by omega)) (by rw [hI1, u2_ne (by omega), u2_i, u2_ne (by omega), u2_ne (by omega)]; exact ⟨hM.1.1, rfl, hM.1.2.2⟩)
  have k26 : I1 m 26 = nI kd := by rw [hI1, u2_ne (by omega)]; exact h26
  have more : ∀ s, s = siK kd L.si → s < 300 → ∃ I' : Nat → Nat → Int32, fX9_does_435 m (nI z) x (N, SL, S, R, u2 I1 (m + 4) z (nI s), J) = some (x, (N, SL, S, R, I', J)) ∧ FZ m z I I' J J ∧ MRep m z I' J ((L.na, L.ne + 1, L.ev, siK kd L.si, L.hc), L.2) ∧ I' (m + 5) z = (if 0 < L.ev ∧ L.ev ≤ siK kd L.si ∧ L.ne + 1 < 200 then 1 else 0) := by
    intro s hs hs3
    subst hs
    refine key _ (f1.wI (own_n (by omega) (by omega))) ?_ hs3
    exact Mk.num m1 _ rfl (fun c hc => u2_ne (by omega)) (by rw [u2_ne (by omega), u2_ne (by omega), u2_ne (by omega), u2_i]; exact ⟨m1.1.1, m1.1.2.1, m1.1.2.2.1, rfl⟩)
  unfold fX9_does_374 fX9_does_409 fX9_does_419
  rw [md_f1 hA, md_r2 hA (by omega), hM.1.2.1, nI_1, md_w2 hA (by omega), ← hI1, md_g hA, k26]
  have u4 : I1 (m + 4) z = nI L.si := m1.1.2.2.2
  by_cases w : kd = 2 ∨ kd = 5 ∨ kd = 6
  · have es : siK kd L.si = L.si + 1 := if_pos w
    have step : fX9_does_409 m (nI z) x (N, SL, S, R, I1, J) = fX9_does_435 m (nI z) x (N, SL, S, R, u2 I1 (m + 4) z (nI (L.si + 1)), J) := by
      unfold fX9_does_409 fX9_does_419
      rw [md_f3 hA, md_r4 hA (by omega), u4, nI_1, md_w4 hA (by omega), md_g hA, u2_ne (by omega), k26, if_neg (show ¬ nI kd = (7 : Int32) from fun q => by
        have q7 := (kd_is (c := 7) hkd (by decide)).mp q
        omega)]
    have go := more (L.si + 1) es.symm (by omega)
    unfold fX9_does_409 fX9_does_419 at step
    rcases w with w | w | w
    · rw [if_pos (show nI kd = (2 : Int32) by rw [w]; rfl), step]; exact go
    · rw [if_neg (show ¬ nI kd = (2 : Int32) by rw [w]; decide), md_g hA, k26, if_pos (show nI kd = (5 : Int32) by rw [w]; rfl), step]; exact go
    · rw [if_neg (show ¬ nI kd = (2 : Int32) by rw [w]; decide), md_g hA, k26, if_neg (show ¬ nI kd = (5 : Int32) by rw [w]; decide), md_g hA, k26, if_pos (show nI kd = (6 : Int32) by rw [w]; rfl), step]; exact go
  · rw [if_neg (show ¬ nI kd = (2 : Int32) from fun q => w (Or.inl ((kd_is hkd (by decide)).mp q))), md_g hA, k26, if_neg (show ¬ nI kd = (5 : Int32) from fun q => w (Or.inr (Or.inl ((kd_is hkd (by decide)).mp q)))), md_g hA, k26, if_neg (show ¬ nI kd = (6 : Int32) from fun q => w (Or.inr (Or.inr ((kd_is hkd (by decide)).mp q)))), md_g hA, k26]
    by_cases w7 : kd = 7
    · have es : siK kd L.si = 0 := by unfold siK; rw [if_neg w, if_pos w7]
      rw [if_pos (show nI kd = (7 : Int32) by rw [w7]; rfl), md_f3 hA, md_w4 hA (by omega)]
      exact more 0 es.symm (by omega)
    · have es : siK kd L.si = L.si := by unfold siK; rw [if_neg w, if_neg w7]
      rw [if_neg (show ¬ nI kd = (7 : Int32) from fun q => w7 ((kd_is hkd (by decide)).mp q))]
      exact key I1 f1 (by rw [es]; exact m1) (by omega)
/-- hold(z, a, v, sign) -/
theorem holdM (hA : MdAt N S R m) (hz : z ≤ 1) (I : Nat → Nat → Int32) (J : Nat → Nat → Int64) (L : Lg) (k : Nat) (hM : Mk m z I J L k) (hna : L.na ≤ 40) (a : Nat) (ha : a < L.na) (V : Nat) (hV : V < 9223372036854775808) (s : Int32) (hs : s = 1 ∨ s = -1) (H : Nat) (hH : (H : Int) = L.he a + s.toInt * V) (hH2 : H < 18446744073709551616) :
    ∃ J' : Nat → Nat → Int64, fX9_hold m (nI z) (nI a) (Int64.ofNat V) s (N, SL, S, R, I, J) = some ((), (N, SL, S, R, I, J')) ∧ FZ m z I I J J' ∧ Mk m z I J' (L.whe (up L.he a H)) k := by
  obtain ⟨g1, g2, g3, g4, g5, g6, g7⟩ := hM.2.1 a ha
  have hu := held_up (hi := J (m + 8) (40 * z + a)) (lo := J (m + 9) (40 * z + a)) hV g3 g4 g5 g6 s hs
  obtain ⟨lo, hlo⟩ : ∃ lo, lo = J (m + 9) (40 * z + a) + s.toInt64 * (Int64.ofNat V &&& 4294967295) := ⟨_, rfl⟩
  obtain ⟨hi, hhi⟩ : ∃ hi, hi = J (m + 8) (40 * z + a) + (s.toInt64 * yshr (Int64.ofNat V) 32 + yshr lo 32) := ⟨_, rfl⟩
  have hu' : hi.toInt * 4294967296 + (lo &&& 4294967295).toInt = (J (m + 8) (40 * z + a)).toInt * 4294967296 + (J (m + 9) (40 * z + a)).toInt + s.toInt * V ∧ 0 ≤ (lo &&& 4294967295).toInt ∧ (lo &&& 4294967295).toInt < 4294967296 := by
    rw [hhi, hlo]; exact hu
  obtain ⟨x1, x2, x3⟩ := hu'
  refine ⟨u2 (u2 J (m + 8) (40 * z + a) hi) (m + 9) (40 * z + a) (lo &&& 4294967295), ?_, (FZ.refl.wJ (own_a (by omega) (by omega) (by omega))).wJ (own_a (by omega) (by omega) (by omega)), hM.1, fun c hc => ?_, fun i hi => ?_⟩
  · unfold fX9_hold
    rw [md_f8 hA, show (40 : Int32) = nI 40 from rfl, nI_mul, nI_add, md_r9 hA (by omega), md_f7 hA, md_r8 hA (by omega), ← hlo, ← hhi, md_w8 hA (by omega), md_f8 hA, md_w9 hA (by omega)]
  · show MAcc m z _ (L.fl c) (L.ba c) (up L.he a H c) c
    have o := hM.2.1 c hc
    unfold MAcc at o ⊢
    rw [u2_ne (show m + 6 ≠ m + 9 by omega), u2_ne (show m + 6 ≠ m + 8 by omega), u2_ne (show m + 7 ≠ m + 9 by omega), u2_ne (show m + 7 ≠ m + 8 by omega), u2_ne (show m + 8 ≠ m + 9 by omega)]
    by_cases w : c = a
    · subst w
      rw [u2_i, u2_i, up_eq]
      exact ⟨o.1, o.2.1, by omega, by omega, x2, x3, by omega⟩
    · rw [u2_o (by omega), u2_o (by omega), u2_o (by omega), up_ne w]
      exact o
  · have o := hM.2.2 i hi
    unfold MEnt at o ⊢
    rw [u2_ne (show m + 11 ≠ m + 9 by omega), u2_ne (show m + 11 ≠ m + 8 by omega), u2_ne (show m + 14 ≠ m + 9 by omega), u2_ne (show m + 14 ≠ m + 8 by omega), u2_ne (show m + 16 ≠ m + 9 by omega), u2_ne (show m + 16 ≠ m + 8 by omega)]
    exact o
/-- entry f is ended by x; it was there or not, and is not there now -/
theorem endM {I : Nat → Nat → Int32} {J : Nat → Nat → Int64} {L : Lg} {k f : Nat} (hM : Mk m z I J L k) (hf : f < k) (x : Int32) (hx : thB ((L.es f).kd, (L.es f).ky, (L.es f).nl, (L.es f).lg, x, (L.es f).ha, (L.es f).hm) = false) (I' : Nat → Nat → Int32) (f1 : ∀ c, c ≠ m + 17 → c ≠ m + 18 → I' c = I c) (f2 : ∀ i, i ≠ f → I' (m + 17) (200 * z + i) = I (m + 17) (200 * z + i) ∧ I' (m + 18) (200 * z + i) = I (m + 18) (200 * z + i)) (f3 : I' (m + 17) (200 * z + f) = 0) (f4 : I' (m + 18) (200 * z + f) = x) :
    Mk m z I' J (L.wes (up L.es f ((L.es f).kd, (L.es f).ky, (L.es f).nl, (L.es f).lg, x, (L.es f).ha, (L.es f).hm))) k := by
  refine ⟨?_, hM.2.1, fun i hi => ?_⟩
  · rw [f1 _ (by omega) (by omega), f1 _ (by omega) (by omega), f1 _ (by omega) (by omega), f1 _ (by omega) (by omega)]
    exact hM.1
  · show MEnt m z I' J (up L.es f _ i) i
    have o := hM.2.2 i hi
    unfold MEnt at o ⊢
    rw [f1 (m + 10) (by omega) (by omega), f1 (m + 12) (by omega) (by omega), f1 (m + 13) (by omega) (by omega), f1 (m + 15) (by omega) (by omega)]
    by_cases w : i = f
    · subst w
      rw [up_eq, f3, f4, hx, if_neg (fun q => by cases q)]
      exact ⟨o.1, o.2.1, o.2.2.1, rfl, rfl⟩
    · rw [up_ne w, (f2 i w).1, (f2 i w).2]
      exact o
end RefF
