-- P6: every, count
def alN (f g : Nat → Nat) : Nat → Nat
  | 0 => 0
  | k + 1 => alN f g k + if f k = g k then 0 else 1
theorem alN_le (f g : Nat → Nat) : ∀ k, alN f g k ≤ k
  | 0 => Nat.le_refl _
  | k + 1 => by
    have := alN_le f g k
    rw [alN]
    split <;> omega
def aCnt (L : Lg) (tn : Nat) (nw : Nat → Nat) (w : Int32) : Int32 := if w = 0 then nI L.na else if w = 1 then nI L.ne else if w = 2 then nI (L.st L.ne) else if w = 3 then nI L.hc else if w = 4 then nI L.ev else if w = 5 then nI L.si else if w = 6 then nI tn else if w = 7 then nI (alN nw L.yb (L.st L.ne)) else -1
section Count
variable {N SL : Nat} {S : Nat → Shp} {R : Nat → Nat → Option Nat}
theorem alt_loop (hT : TopAt N S R) (I : Nat → Nat → Int32) (J : Nat → Nat → Int64) (L : Lg) (hL : LInv L) (nw : Nat → Nat) (hn : ∀ k, nw k < 256) (hC : CRep 4 I J L) (h : PgOk 25 I L.ne L.st nw) : ∀ (q k fuel : Nat), k + q = L.st L.ne → q < fuel → fX8_alteredBytes_4 fuel 3 (nI (alN nw L.yb k)) (nI k) (N, SL, S, R, I, J) = some (nI (alN nw L.yb (L.st L.ne)), (N, SL, S, R, I, J))
  | 0, k, fuel, hk, hf => by
    obtain ⟨y, rfl⟩ : ∃ y, fuel = y + 1 := ⟨fuel - 1, by omega⟩
    have h1 := hL.1
    have hst := LInv.st_le hL L.ne (Nat.le_refl _)
    have hsz := size_mk (SL := SL) hT.pg I J L.st L.ne h1.2.1 h.1 h.2.2.1.1
    rw [fX8_alteredBytes_4, tp_f3 hT, cV_mk hT.pg.1.1, hsz, bd_some, if_pos ((nI_leI (by omega) (by omega)).mpr (by omega)), show k = L.st L.ne by omega]
  | q + 1, k, fuel, hk, hf => by
    obtain ⟨y, rfl⟩ : ∃ y, fuel = y + 1 := ⟨fuel - 1, by omega⟩
    have h1 := hL.1
    have hN := hT.1.2.1
    have hst := LInv.st_le hL L.ne (Nat.le_refl _)
    have hsz := size_mk (SL := SL) hT.pg I J L.st L.ne h1.2.1 h.1 h.2.2.1.1
    have ih := alt_loop hT I J L hL nw hn hC h q (k + 1) y (by omega) (by omega)
    rw [alN] at ih
    rw [fX8_alteredBytes_4, tp_f3 hT, cV_mk hT.pg.1.1, hsz, bd_some, if_neg (nI_lt_of (by omega) (by omega)), tp_f3 hT, gR_mk hT.pg.1.1 hT.pg.2.1.1, rI_mk (by omega) hT.pg.2.2.1.1 (by omega) (by decide), h.2.1 k (by omega), tp_f0 hT, le_f5 hT.le, le_r5 hT.le (by omega), hC.2.2.2.2 k (by omega)]
    unfold fX8_alteredBytes_39
    rw [nI_1, nI_1]
    by_cases w : nw k = L.yb k
    · rw [if_pos (by rw [w])]
      rw [if_pos w, Nat.add_zero] at ih
      exact ih
    · rw [if_neg (fun z => w ((nb_inj (hn k) (hL.2.1.2.2 k)).mp z))]
      rw [if_neg w] at ih
      exact ih
theorem c_count (hT : TopAt N S R) (I : Nat → Nat → Int32) (J : Nat → Nat → Int64) (L : Lg) (tn : Nat) (tl : Nat → Nat × Int64) (nw : Nat → Nat) (et : Nat → Option Nat) (hL : LInv L) (hn : ∀ k, nw k < 256) (h : CA I J L tn tl nw et) (w : Int32) : fX8_count 3 w (N, SL, S, R, I, J) = some (aCnt L tn nw w, (N, SL, S, R, I, J)) := by
  have h1 := hL.1
  have hst := LInv.st_le hL L.ne (Nat.le_refl _)
  have hsz := size_mk (SL := SL) hT.pg I J L.st L.ne h1.2.1 h.2.2.2.1 h.2.2.2.2.2.1.1
  obtain ⟨n1, n2, n3, n4, n5⟩ := h.1.1
  unfold fX8_count aCnt
  by_cases w0 : w = 0
  · rw [if_pos w0, if_pos w0, tp_f0 hT, le_g hT.le, n1]
  rw [if_neg w0, if_neg w0]
  by_cases w1 : w = 1
  · rw [if_pos w1, if_pos w1, tp_f0 hT, le_g hT.le, n2]
  rw [if_neg w1, if_neg w1]
  by_cases w2 : w = 2
  · rw [if_pos w2, if_pos w2, tp_f3 hT, cV_mk hT.pg.1.1, hsz, bd_some]
  rw [if_neg w2, if_neg w2]
  by_cases w3 : w = 3
  · rw [if_pos w3, if_pos w3, tp_f0 hT, le_g hT.le, n5]
  rw [if_neg w3, if_neg w3]
  by_cases w4 : w = 4
  · rw [if_pos w4, if_pos w4, tp_f0 hT, le_g hT.le, n3]
  rw [if_neg w4, if_neg w4]
  by_cases w5 : w = 5
  · rw [if_pos w5, if_pos w5, tp_f0 hT, le_g hT.le, n4]
  rw [if_neg w5, if_neg w5]
  by_cases w6 : w = 6
  · rw [if_pos w6, if_pos w6, tp_f1 hT, lg_g hT.lg, h.2.1.1]
  rw [if_neg w6, if_neg w6]
  by_cases w7 : w = 7
  · rw [if_pos w7, if_pos w7, tp_o hT]
    have := alt_loop (SL := SL) hT I J L hL nw hn h.1 h.2.2.2 (L.st L.ne) 0 FU (by omega) (by unfold FU; omega)
    unfold fX8_alteredBytes
    rw [show (0 : Int32) = nI (alN nw L.yb 0) from rfl]
    rw [show nI (alN nw L.yb 0) = nI 0 from rfl] at this ⊢
    rw [this, bd_some]
  rw [if_neg w7, if_neg w7]
theorem altM_loop (hT : TopAt N S R) (I : Nat → Nat → Int32) (J : Nat → Nat → Int64) (L : Lg) (hL : LInv L) (nw : Nat → Nat) (hn : ∀ k, nw k < 256) (hB : MBy 759 I L) (hD : DaOk 759 I nw (L.st L.ne)) : ∀ (q k fuel : Nat), k + q = L.st L.ne → q < fuel → fX9_altered_4 fuel 759 (nI (alN nw L.yb k)) (nI k) (N, SL, S, R, I, J) = some (nI (alN nw L.yb (L.st L.ne)), (N, SL, S, R, I, J))
  | 0, k, fuel, hk, hf => by
    obtain ⟨y, rfl⟩ : ∃ y, fuel = y + 1 := ⟨fuel - 1, by omega⟩
    have h1 := hL.1
    have hst := LInv.st_le hL L.ne (Nat.le_refl _)
    rw [fX9_altered_4, md_g hT.md, hB.1, if_pos ((nI_leI (by omega) (by omega)).mpr (by omega)), show k = L.st L.ne by omega]
  | q + 1, k, fuel, hk, hf => by
    obtain ⟨y, rfl⟩ : ∃ y, fuel = y + 1 := ⟨fuel - 1, by omega⟩
    have h1 := hL.1
    have hst := LInv.st_le hL L.ne (Nat.le_refl _)
    have ih := altM_loop hT I J L hL nw hn hB hD q (k + 1) y (by omega) (by omega)
    have a1 := hn k
    have a2 := hL.2.1.2.2 k
    rw [alN] at ih
    rw [fX9_altered_4, md_g hT.md, hB.1, if_neg (nI_lt_of (by omega) (by omega)), md_f18 hT.md, md_r19 hT.md (by omega), hD k (by omega), md_f19 hT.md, md_r20 hT.md (by omega), hB.2.2 k (by omega)]
    unfold fX9_altered_33
    rw [nI_1]
    by_cases w : nw k = L.yb k
    · rw [if_pos (by rw [w]), Int32.add_zero]
      rw [if_pos w, Nat.add_zero] at ih
      exact ih
    · rw [if_neg (fun z => w ((nI_eq (by omega) (by omega)).mp z)), nI_1]
      rw [if_neg w] at ih
      exact ih
theorem there_loop (hT : TopAt N S R) (I : Nat → Nat → Int32) (J : Nat → Nat → Int64) (L : Lg) (hL : LInv L) (hM : MRep 759 0 I J L) : ∀ (q k fuel : Nat), k + q = L.ne → q < fuel → fX9_there_4 fuel 759 (nI (hcN L.es k)) (nI k) (N, SL, S, R, I, J) = some (nI (hcN L.es L.ne), (N, SL, S, R, I, J))
  | 0, k, fuel, hk, hf => by
    obtain ⟨y, rfl⟩ : ∃ y, fuel = y + 1 := ⟨fuel - 1, by omega⟩
    have h1 := hL.1
    rw [fX9_there_4, md_f1 hT.md]
    show rI _ .int _ (nI 0) _ = _
    rw [md_r2 hT.md (by omega), hM.1.2.1, if_pos ((nI_leI (by omega) (by omega)).mpr (by omega)), show k = L.ne by omega]
  | q + 1, k, fuel, hk, hf => by
    obtain ⟨y, rfl⟩ : ∃ y, fuel = y + 1 := ⟨fuel - 1, by omega⟩
    have h1 := hL.1
    have ih := there_loop hT I J L hL hM q (k + 1) y (by omega) (by omega)
    have o := (hM.2.2 k (by omega)).2.2.2.1
    rw [show 200 * 0 + k = k by omega] at o
    rw [hcN] at ih
    rw [fX9_there_4, md_f1 hT.md]
    show rI _ .int _ (nI 0) _ = _
    rw [md_r2 hT.md (by omega), hM.1.2.1, if_neg (nI_lt_of (by omega) (by omega)), md_f16 hT.md, md_r17 hT.md (by omega), o]
    unfold fX9_there_29
    rw [nI_1]
    by_cases w : thB (L.es k) = true
    · rw [if_pos w, if_neg (show ¬ (1 : Int32) = 0 by decide), nI_1]
      rw [if_pos w] at ih
      exact ih
    · rw [if_neg w, if_pos rfl, Int32.add_zero]
      rw [if_neg w, Nat.add_zero] at ih
      exact ih
theorem m_count (hT : TopAt N S R) (I : Nat → Nat → Int32) (J : Nat → Nat → Int64) (L : Lg) (tn : Nat) (tl : Nat → Nat × Int64) (nw : Nat → Nat) (et : Nat → Option Nat) (hL : LInv L) (hn : ∀ k, nw k < 256) (h : MA I J L tn tl nw et) (w : Int32) : fX9_count 759 w (N, SL, S, R, I, J) = some (aCnt L tn nw w, (N, SL, S, R, I, J)) := by
  have h1 := hL.1
  have hA := hT.md
  have hst := LInv.st_le hL L.ne (Nat.le_refl _)
  obtain ⟨m1, m2, m3, m4, m5⟩ := h
  obtain ⟨n1, n2, n3, n4⟩ := m1.1
  unfold fX9_count aCnt
  by_cases w0 : w = 0
  · rw [if_pos w0, if_pos w0, md_f0 hA]
    show rI _ .int _ (nI 0) _ = _
    rw [md_r1 hA (by omega), n1]
  rw [if_neg w0, if_neg w0]
  by_cases w1 : w = 1
  · rw [if_pos w1, if_pos w1, md_f1 hA]
    show rI _ .int _ (nI 0) _ = _
    rw [md_r2 hA (by omega), n2]
  rw [if_neg w1, if_neg w1]
  by_cases w2 : w = 2
  · rw [if_pos w2, if_pos w2, md_g hA, m2.1]
  rw [if_neg w2, if_neg w2]
  by_cases w3 : w = 3
  · rw [if_pos w3, if_pos w3, md_o hA, hL.2.2.2.2]
    have := there_loop (SL := SL) hT I J L hL m1 L.ne 0 FU (by omega) (by unfold FU; omega)
    unfold fX9_there
    rw [show nI (hcN L.es 0) = nI 0 from rfl] at this
    rw [show (0 : Int32) = nI 0 from rfl, this, bd_some]
  rw [if_neg w3, if_neg w3]
  by_cases w4 : w = 4
  · rw [if_pos w4, if_pos w4, md_f2 hA]
    show rI _ .int _ (nI 0) _ = _
    rw [md_r3 hA (by omega), n3]
  rw [if_neg w4, if_neg w4]
  by_cases w5 : w = 5
  · rw [if_pos w5, if_pos w5, md_f3 hA]
    show rI _ .int _ (nI 0) _ = _
    rw [md_r4 hA (by omega), n4]
  rw [if_neg w5, if_neg w5]
  by_cases w6 : w = 6
  · rw [if_pos w6, if_pos w6, md_g hA, m4.1]
  rw [if_neg w6, if_neg w6]
  by_cases w7 : w = 7
  · rw [if_pos w7, if_pos w7, md_o hA]
    have := altM_loop (SL := SL) hT I J L hL nw hn m2 m3 (L.st L.ne) 0 FU (by omega) (by unfold FU; omega)
    unfold fX9_altered
    rw [show nI (alN nw L.yb 0) = nI 0 from rfl] at this
    rw [show (0 : Int32) = nI 0 from rfl, this, bd_some]
  rw [if_neg w7, if_neg w7]
/-- every -/
abbrev evNo (x : Int32) : Prop := x < 0 ∨ 50 < x
def evL (L : Lg) (x : Int32) : Lg := if evNo x then L else L.wev x.toNatClampNeg
def evT (L : Lg) (et : Nat → Option Nat) (x : Int32) : Nat → Option Nat := if evNo x then et else up et L.ne (some x.toNatClampNeg)
def evA (L : Lg) (x : Int32) : Int32 := if evNo x then -1 else nI L.ev
theorem ev_of {x : Int32} (h : ¬ evNo x) : ∃ a, x = nI a ∧ a ≤ 50 := nI_sm (n := 50) (fun q => h (Or.inl q)) (Or.inr (Int32.not_lt.mp (fun q => h (Or.inr q)))) (by decide)
theorem evL_keeps {L : Lg} (hL : LInv L) (hd : ¬ Due L) (x : Int32) : LInv (evL L x) ∧ ¬ Due (evL L x) := by
  unfold evL
  by_cases w : evNo x
  · rw [if_pos w]; exact ⟨hL, hd⟩
  · rw [if_neg w]
    obtain ⟨a, rfl, ha⟩ := ev_of w
    rw [nI_clamp (by omega)]
    refine ⟨LInv.ev hL ha, fun q => ?_⟩
    have q1 : 0 < a := q.1
    have q2 : a ≤ 0 := q.2.1
    omega
theorem c_every (hT : TopAt N S R) (I : Nat → Nat → Int32) (J : Nat → Nat → Int64) (L : Lg) (tn : Nat) (tl : Nat → Nat × Int64) (nw : Nat → Nat) (et : Nat → Option Nat) (hL : LInv L) (h : CA I J L tn tl nw et) (x : Int32) :
    ∃ (I' : Nat → Nat → Int32) (J' : Nat → Nat → Int64), fX8_every 3 x (N, SL, S, R, I, J) = some (evA L x, (N, SL, S, R, I', J')) ∧ CA I' J' (evL L x) tn tl nw (evT L et x) ∧ FA I I' J J' := by
  have h1 := hL.1
  have hnS : nS = 3 := rfl
  have hN := hT.1.2.1
  unfold fX8_every fX8_every_10 evA evL evT
  by_cases w : evNo x
  · refine ⟨I, J, ?_, by rw [if_pos w, if_pos w]; exact h, fun _ _ => rfl, fun _ _ => rfl⟩
    rw [if_pos w]
    by_cases q : x < 0
    · rw [if_pos q]
    · rw [if_neg q, if_neg (fun t => absurd t (Int32.not_le.mpr (w.resolve_left q)))]
  · obtain ⟨a, rfl, ha⟩ := ev_of w
    obtain ⟨s1, s2⟩ := startEvery_C (SL := SL) hT.le I J L h.1 a
    obtain ⟨I1, hI1⟩ : ∃ I1, I1 = u2 (u2 I 4 16 (nI a)) 4 17 (nI 0) := ⟨_, rfl⟩
    rw [← hI1] at s1 s2
    have f1 : ∀ c, c ≠ 4 → I1 c = I c := fun c q => by rw [hI1, u2_ne q, u2_ne q]
    refine ⟨u2 I1 24 L.ne (nI a), J, ?_, ?_, fun c hc => by rw [u2_ne (by omega), f1 c (by omega)], fun _ _ => rfl⟩
    · have e12 : I1 4 12 = nI L.ne := s2.1.2.1
      rw [if_neg w, if_neg (nI_ge0 (by omega)), if_pos (Int32.not_lt.mp (fun q => w (Or.inr q))), tp_f0 hT, le_g hT.le, h.1.1.2.2.1, tp_f0 hT, le_o hT.le, s1, bd_some, tp_f2 hT, tp_f0 hT, le_g hT.le, e12, wI_mk (by omega) (by omega) hT.2.2.1.1 (by omega) (by decide), vp_narI]
    · rw [if_neg w, if_neg w, nI_clamp (by omega)]
      refine ⟨CRep.congr (fun c q1 q2 => u2_ne (by omega)) (fun _ _ _ _ => rfl) s2, ⟨by rw [u2_ne (by omega), f1 21 (by omega)]; exact h.2.1.1, h.2.1.2.1, fun k hk => by rw [u2_ne (by omega), f1 22 (by omega)]; exact h.2.1.2.2 k hk⟩, fun i hi => ?_, h.2.2.2.congr (by decide) h1.2.1 (fun c hc => by rw [u2_ne (by omega), f1 c (by omega)])⟩
      rw [u2_at]
      by_cases q : i = L.ne
      · rw [q, up_eq, up_eq]; rfl
      · rw [up_ne q, up_ne q, f1 24 (by omega)]; exact h.2.2.1 i hi
set_option maxHeartbeats 4000000 in
theorem m_every (hT : TopAt N S R) (I : Nat → Nat → Int32) (J : Nat → Nat → Int64) (L : Lg) (tn : Nat) (tl : Nat → Nat × Int64) (nw : Nat → Nat) (et : Nat → Option Nat) (hL : LInv L) (h : MA I J L tn tl nw et) (x : Int32) :
    ∃ (I' : Nat → Nat → Int32) (J' : Nat → Nat → Int64), fX9_every 759 x (N, SL, S, R, I, J) = some (evA L x, (N, SL, S, R, I', J')) ∧ MA I' J' (evL L x) tn tl nw (evT L et x) ∧ MFr I I' J J' := by
  have h1 := hL.1
  have hA := hT.md
  obtain ⟨m1, m2, m3, m4, m5⟩ := h
  unfold fX9_every evA evL evT
  rw [in_mk, bd_some]
  by_cases w : evNo x
  · exact ⟨I, J, by rw [if_pos w, if_pos rfl, if_pos w], by rw [if_pos w, if_pos w]; exact ⟨m1, m2, m3, m4, m5⟩, fun _ _ => rfl, fun _ _ => rfl, fun _ _ => rfl⟩
  obtain ⟨a, rfl, ha⟩ := ev_of w
  rw [if_neg w, if_neg (show ¬ (1 : Int32) = 0 by decide), if_neg w, if_neg w, if_neg w, nI_clamp (by omega)]
  obtain ⟨t, b, v, t1, t2, t3, t4⟩ := m5
  have tle : t ≤ 201 := by
    by_cases q : t = 0
    · omega
    · have := t2 (t - 1) (by omega)
      omega
  obtain ⟨I1, hI1⟩ : ∃ I1, I1 = u2 (u2 I 762 0 (nI a)) 763 0 (nI 0) := ⟨_, rfl⟩
  have f1 : ∀ c, c ≠ 762 → c ≠ 763 → I1 c = I c := fun c q1 q2 => by rw [hI1, u2_ne q2, u2_ne q1]
  -- the rows behind: t' told, the last at L.ne
  have fin : ∀ (t' : Nat) (I2 : Nat → Nat → Int32), 0 < t' → t' ≤ 202 → (∀ c, c ≠ 759 → I2 c = I1 c) → (∀ j, j ≠ 25 → I2 759 j = I1 759 j) → I2 759 25 = nI t' →
      (∀ k, k < t' - 1 → k < t ∧ b k < L.ne) → (t' - 1 ≤ L.ne) → (∀ i, et i ≠ none → i ≠ L.ne → ∃ k, k < t' - 1 ∧ b k = i) →
      ∃ (I' : Nat → Nat → Int32) (J' : Nat → Nat → Int64), fX9_every_70 759 (nI a) (nI L.ev) (N, SL, S, R, I2, J) = some (nI L.ev, (N, SL, S, R, I', J')) ∧ MA I' J' (L.wev a) tn tl nw (up et L.ne (some a)) ∧ MFr I I' J J' := by
    intro t' I2 h0 h2 g1 g2 g3 g4 g5 g6
    obtain ⟨I3, hI3⟩ : ∃ I3, I3 = u2 (u2 I2 782 (t' - 1) (nI L.ne)) 783 (t' - 1) (nI a) := ⟨_, rfl⟩
    have f3 : ∀ c, c ≠ 759 → c ≠ 762 → c ≠ 763 → c ≠ 782 → c ≠ 783 → I3 c = I c := fun c q1 q2 q3 q4 q5 => by rw [hI3, u2_ne q5, u2_ne q4, g1 c q1, f1 c q2 q3]
    have f4 : ∀ j, j ≠ 25 → I3 759 j = I 759 j := fun j q => by rw [hI3, u2_ne (by omega), u2_ne (by omega), g2 j q, f1 759 (by omega) (by omega)]
    refine ⟨I3, J, ?_, ⟨?_, (m2.congr (I' := I3) (fun c q1 q2 => f3 c (by omega) (by omega) (by omega) (by omega) (by omega)) (f4 20 (by decide))).same rfl rfl rfl, fun k hk => by rw [f3 _ (by omega) (by omega) (by omega) (by omega) (by omega)]; exact m3 k hk, ⟨by rw [f4 37 (by decide)]; exact m4.1, m4.2.1, fun k hk => by rw [f3 _ (by omega) (by omega) (by omega) (by omega) (by omega)]; exact m4.2.2 k hk⟩, t', up b (t' - 1) L.ne, up v (t' - 1) a, ?_, fun k hk => ?_, fun k hk => ?_, fun i hi => ?_⟩, fun c hc => f3 c (by omega) (by omega) (by omega) (by omega) (by omega), fun _ _ => rfl, fun j hj => f4 j (by omega)⟩
    · have e2 : I2 761 0 = nI L.ne := by rw [g1 761 (by omega), f1 761 (by omega) (by omega)]; exact m1.1.2.1
      unfold fX9_every_70
      rw [md_f23 hA, md_g hA, g3, md_f1 hA]
      show rI _ .int 761 (nI 0) _ = _
      rw [show (761 : Nat) = 759 + 2 from rfl, md_r2 hA (by omega)]
      show wI _ .int (759 + 23) (nI t' - nI 1) (I2 761 0) _ = _
      rw [e2, pk_sub (by omega), md_w23 hA (by omega), md_f24 hA, md_g hA, u2_ne (by omega), g3]
      show wI _ .int (759 + 24) (nI t' - nI 1) _ _ = _
      rw [pk_sub (by omega), md_w24 hA (by omega)]
      show some (nI L.ev, (N, SL, S, R, u2 (u2 I2 782 (t' - 1) (nI L.ne)) 783 (t' - 1) (nI a), J)) = _
      rw [← hI3]
    · have i1 : I3 (759 + 1) = I (759 + 1) := f3 _ (by omega) (by omega) (by omega) (by omega) (by omega)
      have i2 : I3 (759 + 2) = I (759 + 2) := f3 _ (by omega) (by omega) (by omega) (by omega) (by omega)
      have i3 : I3 (759 + 3) 0 = nI a := by rw [hI3, u2_ne (by omega), u2_ne (by omega), g1 _ (by omega), hI1, u2_ne (by omega)]; exact u2_i
      have i4 : I3 (759 + 4) 0 = nI 0 := by rw [hI3, u2_ne (by omega), u2_ne (by omega), g1 _ (by omega), hI1]; exact u2_i
      refine ⟨⟨by rw [i1]; exact m1.1.1, by rw [i2]; exact m1.1.2.1, i3, i4⟩, m1.2.1, fun i hi => ?_⟩
      have o := m1.2.2 i hi
      unfold MEnt
      rw [f3 (759 + 10) (by omega) (by omega) (by omega) (by omega) (by omega), f3 (759 + 12) (by omega) (by omega) (by omega) (by omega) (by omega), f3 (759 + 13) (by omega) (by omega) (by omega) (by omega) (by omega), f3 (759 + 15) (by omega) (by omega) (by omega) (by omega) (by omega), f3 (759 + 17) (by omega) (by omega) (by omega) (by omega) (by omega), f3 (759 + 18) (by omega) (by omega) (by omega) (by omega) (by omega)]
      exact o
    · rw [hI3, u2_ne (by omega), u2_ne (by omega), g3]
    · show I3 782 k = nI (up b (t' - 1) L.ne k) ∧ I3 783 k = nI (up v (t' - 1) a k) ∧ up b (t' - 1) L.ne k ≤ L.ne ∧ up et L.ne (some a) (up b (t' - 1) L.ne k) = some (up v (t' - 1) a k) ∧ up v (t' - 1) a k ≤ 50 ∧ k ≤ up b (t' - 1) L.ne k
      rw [hI3, u2_ne (show (782 : Nat) ≠ 783 by decide), u2_at, u2_at, u2_ne (show (783 : Nat) ≠ 782 by decide)]
      by_cases q : k = t' - 1
      · rw [q, up_eq, up_eq, up_eq, up_eq, up_eq]
        exact ⟨rfl, rfl, Nat.le_refl _, rfl, ha, g5⟩
      · obtain ⟨p1, p2⟩ := g4 k (by omega)
        obtain ⟨o1, o2, o3, o4, o5, o6⟩ := t2 k p1
        rw [up_ne q, up_ne q, up_ne q, up_ne q, up_ne (by omega), g1 782 (by omega), g1 783 (by omega), f1 782 (by omega) (by omega), f1 783 (by omega) (by omega)]
        exact ⟨o1, o2, o3, o4, o5, o6⟩
    · show up b (t' - 1) L.ne k < up b (t' - 1) L.ne (k + 1)
      obtain ⟨p1, p2⟩ := g4 k (by omega)
      rw [up_ne (by omega)]
      by_cases q : k + 1 = t' - 1
      · rw [q, up_eq]; exact p2
      · rw [up_ne q]
        exact t3 k (by have := g4 (k + 1) (by omega); omega)
    · by_cases q : i = L.ne
      · exact ⟨t' - 1, by omega, by rw [up_eq, q]⟩
      · have hi' : et i ≠ none := by
          have : up et L.ne (some a) i = et i := up_ne q
          rw [← this]; exact hi
        obtain ⟨k, k1, k2⟩ := g6 i hi' q
        exact ⟨k, by omega, by rw [up_ne (by omega)]; exact k2⟩
  have e25 : I1 759 25 = nI t := by rw [f1 759 (by omega) (by omega)]; exact t1
  -- the start
  have st0 : ∀ (K : Mem → Option (Int32 × Mem)), (gR (N, SL, S, R, I, J) 9 2 759 fun r5 => (wI (N, SL, S, R, I, J) .int r5 (0 : Int32) (nI a) fun M6 => (gR M6 9 3 759 fun r7 => (wI M6 .int r7 (0 : Int32) (0 : Int32) K)))) = K (N, SL, S, R, I1, J) := by
    intro K
    rw [md_f2 hA]
    show wI _ .int (759 + 3) (nI 0) (nI a) _ = _
    rw [md_w3 hA (by omega), md_f3 hA]
    show wI _ .int (759 + 4) (nI 0) (nI 0) _ = _
    rw [md_w4 hA (by omega)]
    show K (N, SL, S, R, u2 (u2 I 762 0 (nI a)) 763 0 (nI 0), J) = _
    rw [← hI1]
  rw [md_f2 hA]
  show ∃ I' J', rI _ .int (759 + 3) (nI 0) _ = _ ∧ _
  rw [md_r3 hA (by omega), m1.1.2.2.1, st0, md_g hA, e25]
  have all : ∀ i, et i ≠ none → ∃ k, k < t ∧ b k = i := t4
  have last : 0 < t → ∀ k, k < t - 1 → b k < b (t - 1) := fun hp => by
    intro k hk
    have : ∀ d, k + d + 1 ≤ t - 1 → b k < b (k + d + 1) := by
      intro d
      induction d with
      | zero => intro q; exact t3 k (by omega)
      | succ d ih => intro q; exact Nat.lt_trans (ih (by omega)) (t3 (k + d + 1) (by omega))
    have := this (t - 1 - k - 1) (by omega)
    rw [show k + (t - 1 - k - 1) + 1 = t - 1 by omega] at this
    exact this
  have more : (∀ k, k < t → b k < L.ne) → ∃ (I' : Nat → Nat → Int32) (J' : Nat → Nat → Int64), fX9_every_60 759 (nI a) (nI L.ev) (N, SL, S, R, I1, J) = some (nI L.ev, (N, SL, S, R, I', J')) ∧ MA I' J' (L.wev a) tn tl nw (up et L.ne (some a)) ∧ MFr I I' J J' := by
    intro hb
    unfold fX9_every_60
    rw [md_g hA, e25, nI_1, md_p hA]
    refine fin (t + 1) (u2 I1 759 25 (nI (t + 1))) (by omega) (by omega) (fun c q => u2_ne q) (fun j q => by rw [u2_at, up_ne q]) u2_i (fun k hk => ⟨by omega, hb k (by omega)⟩) ?_ (fun i hi _ => by
      obtain ⟨k, k1, k2⟩ := all i hi
      exact ⟨k, by omega, k2⟩)
    by_cases q : t = 0
    · omega
    · have := hb (t - 1) (by omega)
      have := (t2 (t - 1) (by omega)).2.2.2.2.2
      omega
  by_cases q : t = 0
  · rw [if_pos (show nI t = 0 by rw [q]; rfl)]
    exact more (fun k hk => by omega)
  · have o := t2 (t - 1) (by omega)
    have o1 : I1 (759 + 23) (t - 1) = nI (b (t - 1)) := by rw [f1 _ (by omega) (by omega)]; exact o.1
    have o2 : I1 (759 + 2) 0 = nI L.ne := by rw [f1 _ (by omega) (by omega)]; exact m1.1.2.1
    rw [if_neg (nI_ne0 (by omega) (by omega)), md_f23 hA, md_g hA, e25]
    show ∃ I' J', rI _ .int (759 + 23) (nI t - nI 1) _ = _ ∧ _
    rw [pk_sub (by omega), md_r23 hA (by omega), o1, md_f1 hA]
    show ∃ I' J', rI _ .int (759 + 2) (nI 0) _ = _ ∧ _
    rw [md_r2 hA (by omega), o2]
    by_cases z : b (t - 1) = L.ne
    · rw [if_pos (by rw [z])]
      exact fin t I1 (by omega) (by omega) (fun _ _ => rfl) (fun _ _ => rfl) e25 (fun k hk => ⟨by omega, by have := last (by omega) k hk; omega⟩) (by omega) (fun i hi hne => by
        obtain ⟨k, k1, k2⟩ := all i hi
        refine ⟨k, ?_, k2⟩
        by_cases y : k = t - 1
        · rw [y, z] at k2; exact absurd k2.symm hne
        · omega)
    · rw [if_neg (fun y => z ((nI_eq (by omega) (by omega)).mp y))]
      refine more (fun k hk => ?_)
      by_cases y : k = t - 1
      · rw [y]; omega
      · have := last (by omega) k (by omega)
        omega
end Count
