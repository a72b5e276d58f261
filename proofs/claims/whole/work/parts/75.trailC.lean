-- P6: path, proof, step
/-- the latest PATH or PROOF: is it a PROOF, from, till, the hashes -/
abbrev Tr : Type := Option (Bool × Nat × Nat × (Nat → Nat → Int32))
def eO (pf : Bool) (fr : Nat) : Nat := if pf = true then fr - 1 else fr
def tT (pf : Bool) (fr ti : Nat) : List (Bool × Nat × Nat) := dnT pf (eO pf fr) 8 0 ti
def tE (pf : Bool) (fr ti : Nat) : Nat × Nat := dnE pf (eO pf fr) 8 0 ti
def oN (pf : Bool) (fr ti : Nat) : Nat := if pf = true ∧ 0 < (tE pf fr ti).1 then 1 else 0
def stN (pf : Bool) (fr ti : Nat) : Nat := oN pf fr ti + (tT pf fr ti).length
/-- turn q (from the top) of a trail -/
def tN (pf : Bool) (fr ti q : Nat) : Bool × Nat × Nat := (tT pf fr ti).getD q (false, 0, 0)
def mkH (nw st : Nat → Nat) (pf : Bool) (fr ti : Nat) : Nat → Nat → Int32 := fun i => if i < oN pf fr ti then trA nw st (tE pf fr ti).1 (tE pf fr ti).2 else trA nw st (tN pf fr ti ((tT pf fr ti).length - 1 - (i - oN pf fr ti))).2.1 (tN pf fr ti ((tT pf fr ti).length - 1 - (i - oN pf fr ti))).2.2
def TrOk (pf : Bool) (fr ti ne : Nat) : Prop := fr < ti ∧ ti ≤ ne ∧ (pf = true → 0 < fr)
def TrC (I : Nat → Nat → Int32) : Tr → Prop
  | none => I 717 1 = nI 0 ∧ I 717 2 = 0
  | some (pf, fr, ti, hs) => I 717 1 = nI (stN pf fr ti) ∧ I 717 2 = 1 ∧ I 717 3 = bI pf ∧ I 717 4 = nI fr ∧ I 717 5 = nI ti ∧ I 717 9 = nI (tT pf fr ti).length ∧ I 717 10 = nI (tE pf fr ti).1 ∧ (∀ i, i < (tT pf fr ti).length → I 728 i = bI (tN pf fr ti i).1) ∧ ∀ i, i < stN pf fr ti → ∀ j, j < 8 → I (719 + i) j = hs i j
def TrM (I : Nat → Nat → Int32) : Tr → Prop
  | none => I 759 52 = nI 0
  | some (pf, fr, ti, hs) => I 759 52 = nI (if pf = true then 2 else 1) ∧ I 759 53 = nI fr ∧ I 759 54 = nI ti ∧ I 759 55 = nI (stN pf fr ti) ∧ ∀ i, i < stN pf fr ti → ∀ j, j < 32 → I 801 (32 * i + j) = hb (hs i) j
def TrG (ne : Nat) : Tr → Prop
  | none => True
  | some (pf, fr, ti, _) => TrOk pf fr ti ne
theorem eO_ok {pf : Bool} {fr ti ne : Nat} (h : TrOk pf fr ti ne) : eO pf fr < ti := by
  unfold eO
  by_cases w : pf = true
  · rw [if_pos w]; have := h.1; have := h.2.2 w; omega
  · rw [if_neg w]; exact h.1
theorem tr_dn {pf : Bool} {fr ti ne : Nat} (hne : ne ≤ 200) (h : TrOk pf fr ti ne) : (∀ x ∈ tT pf fr ti, Al x.2.1 x.2.2 ∧ x.2.1 + x.2.2 ≤ ti ∧ 1 ≤ x.2.2) ∧ (Al (tE pf fr ti).1 (tE pf fr ti).2 ∧ (tE pf fr ti).1 + (tE pf fr ti).2 ≤ ti ∧ 0 ≤ (tE pf fr ti).1 ∧ 1 ≤ (tE pf fr ti).2) ∧ (tT pf fr ti).length ≤ 8 := by
  have e := eO_ok h
  have := h.2.1
  exact dn_ok pf (eO pf fr) ti (by omega) 8 0 ti (by have : 2 ^ 8 = 256 := rfl; omega) (by omega) (by omega) (by omega) (by omega) ⟨8, by have : 2 ^ 8 = 256 := rfl; omega, Nat.zero_mod _⟩
theorem tN_mem {pf : Bool} {fr ti q : Nat} (h : q < (tT pf fr ti).length) : tN pf fr ti q ∈ tT pf fr ti := by
  unfold tN
  rw [List.getD_eq_getElem?_getD, List.getElem?_eq_getElem h]
  exact List.getElem_mem h
section TrailC
variable {N SL : Nat} {S : Nat → Shp} {R : Nat → Nat → Option Nat}
/-- only pages, trail have changed -/
def FT (I I' : Nat → Nat → Int32) : Prop := ∀ c, (c < 25 ∨ 691 < c) → (c < 717 ∨ 730 < c) → I' c = I c
set_option maxHeartbeats 4000000 in
theorem make_loop (hT : TopAt N S R) (J : Nat → Nat → Int64) (L : Lg) (hL : LInv L) (nw : Nat → Nat) (hn : ∀ k, nw k < 256) (pf : Bool) (fr ti : Nat) (ho' : TrOk pf fr ti L.ne) : ∀ (q fuel : Nat) (I : Nat → Nat → Int32), q ≤ (tT pf fr ti).length → q < fuel → PgOk 25 I L.ne L.st nw → I 717 1 = nI (oN pf fr ti + ((tT pf fr ti).length - q)) → TRow I 0 (tT pf fr ti) → (∀ i, i < oN pf fr ti + ((tT pf fr ti).length - q) → ∀ j, j < 8 → I (719 + i) j = mkH nw L.st pf fr ti i j) →
    ∃ I' : Nat → Nat → Int32, fX7_make_79 fuel 717 25 (nI q - 1) (N, SL, S, R, I, J) = some ((), (N, SL, S, R, I', J)) ∧ PgOk 25 I' L.ne L.st nw ∧ I' 717 1 = nI (stN pf fr ti) ∧ (∀ i, i < stN pf fr ti → ∀ j, j < 8 → I' (719 + i) j = mkH nw L.st pf fr ti i j) ∧ (∀ c, (c < 25 ∨ 691 < c) → c ≠ 717 → (c < 719 ∨ 727 < c) → I' c = I c) ∧ ∀ j, j ≠ 1 → I' 717 j = I 717 j
  | 0, fuel, I, hq, hf, hP, h1, hR, hh => by
    obtain ⟨y, rfl⟩ : ∃ y, fuel = y + 1 := ⟨fuel - 1, by omega⟩
    refine ⟨I, ?_, hP, h1, hh, fun _ _ _ _ => rfl, fun _ _ => rfl⟩
    rw [fX7_make_79, if_pos nI_00]
  | q + 1, fuel, I, hq, hf, hP, h1, hR, hh => by
    obtain ⟨y, rfl⟩ : ∃ y, fuel = y + 1 := ⟨fuel - 1, by omega⟩
    obtain ⟨⟨ho, hsha, r0, r6, r7, r8, r12, r13, r14⟩, ⟨s718, s728, s729, s730, s735, s736⟩, hrow⟩ := hT.2.2.2.2.1
    have hN := hT.1.2.1
    have hnS : nS = 3 := rfl
    obtain ⟨d1, d2, d3⟩ := tr_dn hL.1.2.1 ho'
    have hoN : oN pf fr ti ≤ 1 := by unfold oN; split <;> omega
    have hmem := d1 _ (tN_mem (show q < (tT pf fr ti).length by omega))
    have hRq := hR q (by omega)
    rw [Nat.zero_add] at hRq
    have hti := ho'.2.1
    obtain ⟨k, hk⟩ : ∃ k, k = oN pf fr ti + ((tT pf fr ti).length - (q + 1)) := ⟨_, rfl⟩
    rw [← hk] at h1 hh
    obtain ⟨I1, g1, g2, g3, g4⟩ := tree_C (SL := SL) hT.pg I J L hL nw hn hP (tN pf fr ti q).2.1 (tN pf fr ti q).2.2 (by omega) hmem.1.hal (to := 719 + k) (by omega) (by omega) (hrow k (by omega)).2 (by omega)
    have e1 : I1 717 1 = nI k := by rw [g3 717 (by omega) (by omega)]; exact h1
    have mk : mkH nw L.st pf fr ti k = trA nw L.st (tN pf fr ti q).2.1 (tN pf fr ti q).2.2 := by
      unfold mkH
      rw [if_neg (by omega), show (tT pf fr ti).length - 1 - (k - oN pf fr ti) = q by omega]
    obtain ⟨I2, c1, c2, c3, c4, c5, c6⟩ := make_loop hT J L hL nw hn pf fr ti ho' q y (u2 I1 717 1 (nI (k + 1))) (by omega) (by omega) (g2.congr (by decide) hL.1.2.1 (fun c hc => u2_ne (by omega))) (by rw [u2_i, hk, show oN pf fr ti + ((tT pf fr ti).length - (q + 1)) + 1 = oN pf fr ti + ((tT pf fr ti).length - q) by omega]) (fun i hi => by rw [u2_ne (by decide), u2_ne (by decide), u2_ne (by decide), g3 728 (by omega) (by omega), g3 729 (by omega) (by omega), g3 730 (by omega) (by omega)]; exact hR i hi) (fun i hi j hj => by
      rw [u2_ne (by omega)]
      by_cases w : i = k
      · rw [w, g4 j hj, mk]
      · rw [g3 _ (by omega) (by omega)]
        exact hh i (by omega) j hj)
    refine ⟨I2, ?_, c2, c3, c4, fun c q1 q2 q3 => by rw [c5 c q1 q2 q3, u2_ne q2, g3 c (by omega) (by omega)], fun j hj => by rw [c6 j hj, u2_at, up_ne hj, g3 717 (by omega) (by omega)]⟩
    rw [fX7_make_79, nI_p1, if_neg (nI_ge0 (by omega)), gR_mk ho r7, rI_mk (by omega) s729 (by omega) (by decide), gR_mk ho r8, rI_mk (by omega) s730 (by omega) (by decide), hRq.2.1, hRq.2.2, gR_mk ho r0, gI_mk ho, h1, rR_mk (by omega) s718 (show k < 9 by omega) (by decide) (hrow k (by omega)).1, cV_mk hT.pg.1.1]
    show bd (fX5_treeOf 25 (nI (tN pf fr ti q).2.1) (nI (tN pf fr ti q).2.2) (719 + k) _) _ = _
    rw [g1, bd_some, gI_mk ho, e1, nI_1, pI_mk ho, nI_m1]
    exact c1
set_option maxHeartbeats 4000000 in
/-- make(pages, asProof, from, till) -/
theorem make_C (hT : TopAt N S R) (I : Nat → Nat → Int32) (J : Nat → Nat → Int64) (L : Lg) (hL : LInv L) (nw : Nat → Nat) (hn : ∀ k, nw k < 256) (hP : PgOk 25 I L.ne L.st nw) (pf : Bool) (fr ti : Nat) (ho' : TrOk pf fr ti L.ne) :
    ∃ I' : Nat → Nat → Int32, fX7_make 717 25 (bI pf) (nI fr) (nI ti) (N, SL, S, R, I, J) = some ((), (N, SL, S, R, I', J)) ∧ PgOk 25 I' L.ne L.st nw ∧ TrC I' (some (pf, fr, ti, mkH nw L.st pf fr ti)) ∧ FT I I' := by
  obtain ⟨⟨ho, hsha, r0, r6, r7, r8, r12, r13, r14⟩, ⟨s718, s728, s729, s730, s735, s736⟩, hrow⟩ := hT.2.2.2.2.1
  have hN := hT.1.2.1
  have hnS : nS = 3 := rfl
  have h1 := hL.1
  obtain ⟨d1, d2, d3⟩ := tr_dn h1.2.1 ho'
  have he := eO_ok ho'
  have hti := ho'.2.1
  obtain ⟨I0, hI0⟩ : ∃ I0, I0 = u2 (u2 (u2 (u2 (u2 I 717 2 1) 717 3 (bI pf)) 717 4 (nI fr)) 717 5 (nI ti)) 717 1 (nI 0) := ⟨_, rfl⟩
  have f0 : ∀ c, c ≠ 717 → I0 c = I c := fun c q => by rw [hI0, u2_ne q, u2_ne q, u2_ne q, u2_ne q, u2_ne q]
  have v2 : I0 717 2 = 1 := by rw [hI0, u2_at, up_ne (by decide), u2_at, up_ne (by decide), u2_at, up_ne (by decide), u2_at, up_ne (by decide), u2_i]
  have v3 : I0 717 3 = bI pf := by rw [hI0, u2_at, up_ne (by decide), u2_at, up_ne (by decide), u2_at, up_ne (by decide), u2_i]
  have v4 : I0 717 4 = nI fr := by rw [hI0, u2_at, up_ne (by decide), u2_at, up_ne (by decide), u2_i]
  have v5 : I0 717 5 = nI ti := by rw [hI0, u2_at, up_ne (by decide), u2_i]
  have v1 : I0 717 1 = nI 0 := by rw [hI0, u2_i]
  -- goDown
  obtain ⟨I1, g1, g2, g3, g4, g5, g6, g7⟩ := goDown_loop (SL := SL) hT J pf (eO pf fr) (by omega) 8 0 0 ti FU (u2 (u2 (u2 I0 717 10 (nI 0)) 717 11 (nI ti)) 717 9 (nI 0)) rfl (by decide) (by have : 2 ^ 8 = 256 := rfl; omega) (by omega) (by omega) (by omega) (by omega) u2_i (by rw [u2_at, up_ne (by decide), u2_at, up_ne (by decide), u2_i]) (by rw [u2_at, up_ne (by decide), u2_i]) (by rw [u2_at, up_ne (by decide), u2_at, up_ne (by decide), u2_at, up_ne (by decide)]; exact v3)
  rw [Nat.zero_add] at g4
  have gf : ∀ j, (j < 9 ∨ 11 < j) → I1 717 j = I0 717 j := fun j hj => by rw [g2.2 j hj, u2_at, up_ne (by omega), u2_at, up_ne (by omega), u2_at, up_ne (by omega)]
  have gc : ∀ c, c ≠ 717 → (c < 728 ∨ 730 < c) → I1 c = I c := fun c q1 q2 => by rw [g2.1 c q1 q2, u2_ne q1, u2_ne q1, u2_ne q1, f0 c q1]
  have hP1 : PgOk 25 I1 L.ne L.st nw := hP.congr (by decide) h1.2.1 (fun c hc => gc c (by omega) (by omega))
  have gd : fX7_goDown 717 (nI (eO pf fr)) (N, SL, S, R, I0, J) = some ((), (N, SL, S, R, I1, J)) := by
    unfold fX7_goDown
    rw [pI_mk ho, gI_mk ho, u2_at, up_ne (by decide), v5, pI_mk ho, pI_mk ho]
    exact g1
  have v3' : I1 717 3 = bI pf := by rw [gf 3 (by omega)]; exact v3
  have hob : fX7_hasOwnBeginning 717 (N, SL, S, R, I1, J) = some (nI (oN pf fr ti), (N, SL, S, R, I1, J)) := by
    unfold fX7_hasOwnBeginning fX7_hasOwnBeginning_18 fX7_hasOwnBeginning_19 oN
    rw [gI_mk ho, v3']
    cases pf with
    | false => rw [if_pos (show bI false = 0 from rfl), retZ_0, if_neg (fun q => by cases q.1)]; rfl
    | true =>
      rw [if_neg (show ¬ bI true = 0 by decide), gI_mk ho, g5]
      show (if nI (tE true fr ti).1 ≤ 0 then _ else _) = _
      by_cases w : 0 < (tE true fr ti).1
      · rw [if_neg (nI_nle w (by omega)), if_pos ⟨rfl, w⟩]
        show retZ 1 _ = _
        rw [retZ_1]; rfl
      · rw [if_pos (show nI (tE true fr ti).1 ≤ 0 by rw [show (tE true fr ti).1 = 0 by omega]; decide), retZ_0, if_neg (fun q => w q.2)]; rfl
  have hoN : oN pf fr ti ≤ 1 := by unfold oN; split <;> omega
  -- behind the beginning of its own
  have fin : ∀ I2 : Nat → Nat → Int32, PgOk 25 I2 L.ne L.st nw → I2 717 1 = nI (oN pf fr ti) → (∀ j, j ≠ 1 → I2 717 j = I1 717 j) → (∀ c, (c < 25 ∨ 691 < c) → c ≠ 717 → c ≠ 719 → I2 c = I1 c) → (∀ i, i < oN pf fr ti → ∀ j, j < 8 → I2 (719 + i) j = mkH nw L.st pf fr ti i j) →
      ∃ I' : Nat → Nat → Int32, fX7_make_71 717 25 (N, SL, S, R, I2, J) = some ((), (N, SL, S, R, I', J)) ∧ PgOk 25 I' L.ne L.st nw ∧ TrC I' (some (pf, fr, ti, mkH nw L.st pf fr ti)) ∧ FT I I' := by
    intro I2 p2 w1 w2 w3 w4
    have w9 : I2 717 9 = nI (tT pf fr ti).length := by rw [w2 9 (by decide)]; exact g4
    obtain ⟨I', c1, c2, c3, c4, c5, c6⟩ := make_loop (SL := SL) hT J L hL nw hn pf fr ti ho' (tT pf fr ti).length FU I2 (Nat.le_refl _) (by unfold FU; omega) p2 (by rw [Nat.sub_self, Nat.add_zero]; exact w1) (fun i hi => by rw [w3 728 (by omega) (by omega) (by omega), w3 729 (by omega) (by omega) (by omega), w3 730 (by omega) (by omega) (by omega)]; exact g7 i hi) (by rw [Nat.sub_self, Nat.add_zero]; exact w4)
    refine ⟨I', ?_, c2, ⟨c3, ?_, ?_, ?_, ?_, ?_, ?_, fun i hi => ?_, c4⟩, fun c q1 q2 => ?_⟩
    · unfold fX7_make_71
      rw [gI_mk ho, w9]
      exact c1
    · rw [c6 2 (by decide), w2 2 (by decide), gf 2 (by omega)]; exact v2
    · rw [c6 3 (by decide), w2 3 (by decide)]; exact v3'
    · rw [c6 4 (by decide), w2 4 (by decide), gf 4 (by omega)]; exact v4
    · rw [c6 5 (by decide), w2 5 (by decide), gf 5 (by omega)]; exact v5
    · rw [c6 9 (by decide)]; exact w9
    · rw [c6 10 (by decide), w2 10 (by decide)]; exact g5
    · rw [c5 728 (by omega) (by omega) (by omega), w3 728 (by omega) (by omega) (by omega)]
      have := (g7 i hi).1
      rw [Nat.zero_add] at this
      exact this
    · rw [c5 c q1 (by omega) (by omega), w3 c q1 (by omega) (by omega), gc c (by omega) (by omega)]
  have body : ∃ I' : Nat → Nat → Int32, fX7_make_38 717 25 (nI (eO pf fr)) 717 (N, SL, S, R, I0, J) = some ((), (N, SL, S, R, I', J)) ∧ PgOk 25 I' L.ne L.st nw ∧ TrC I' (some (pf, fr, ti, mkH nw L.st pf fr ti)) ∧ FT I I' := by
    unfold fX7_make_38
    rw [cV_mk ho, gd, bd_some, cV_mk ho, hob, bd_some]
    by_cases w : oN pf fr ti = 0
    · rw [if_pos (show nI (oN pf fr ti) = 0 by rw [w]; rfl)]
      exact fin I1 hP1 (by rw [gf 1 (by omega), w]; exact v1) (fun _ _ => rfl) (fun _ _ _ _ => rfl) (fun i hi => absurd hi (by omega))
    · rw [if_neg (nI_ne0 (by omega) (by omega))]
      obtain ⟨I2, t1, t2, t3, t4⟩ := tree_C (SL := SL) hT.pg I1 J L hL nw hn hP1 (tE pf fr ti).1 (tE pf fr ti).2 (by omega) d2.1.hal (to := 719) (by omega) (by omega) (hrow 0 (by decide)).2 (by omega)
      obtain ⟨I', x1, x2⟩ := fin (u2 I2 717 1 (nI 1)) (t2.congr (by decide) h1.2.1 (fun c hc => u2_ne (by omega))) (by rw [u2_i, show oN pf fr ti = 1 by omega]) (fun j hj => by rw [u2_at, up_ne hj, t3 717 (by omega) (by omega)]) (fun c q1 q2 q3 => by rw [u2_ne q2, t3 c q3 (by omega)]) (fun i hi j hj => by
        have : i = 0 := by omega
        subst this
        rw [u2_ne (by omega)]
        show I2 719 j = _
        rw [t4 j hj]
        unfold mkH
        rw [if_pos hi])
      refine ⟨I', ?_, x2⟩
      rw [gI_mk ho, g5, gI_mk ho, g6, gR_mk ho r0]
      show rR _ _ 718 (nI 0) _ = _
      rw [rR_mk (by omega) s718 (by decide) (by decide) (hrow 0 (by decide)).1, cV_mk hT.pg.1.1]
      show bd (fX5_treeOf 25 (nI (tE pf fr ti).1) (nI (tE pf fr ti).2) 719 _) _ = _
      rw [t1, bd_some, pI_mk ho]
      exact x1
  unfold fX7_make
  have hb01 : bI pf = 0 ∨ bI pf = 1 := by cases pf; exact Or.inl rfl; exact Or.inr rfl
  rw [pZ_mk ho (Or.inr rfl), pZ_mk ho hb01, pI_mk ho, pI_mk ho, pI_mk ho]
  show ∃ I', (if bI pf = 0 then fX7_make_38 717 25 (nI fr) 717 (N, SL, S, R, u2 (u2 (u2 (u2 (u2 I 717 2 1) 717 3 (bI pf)) 717 4 (nI fr)) 717 5 (nI ti)) 717 1 (nI 0), J) else fX7_make_38 717 25 (nI fr - 1) 717 (N, SL, S, R, u2 (u2 (u2 (u2 (u2 I 717 2 1) 717 3 (bI pf)) 717 4 (nI fr)) 717 5 (nI ti)) 717 1 (nI 0), J)) = _ ∧ _
  rw [← hI0]
  cases pf with
  | false =>
    rw [if_pos (show bI false = 0 from rfl)]
    exact body
  | true =>
    have h0 := ho'.2.2 rfl
    rw [if_neg (show ¬ bI true = 0 by decide), show nI fr - 1 = nI (eO true fr) from (pk_sub (b := 1) h0)]
    exact body
end TrailC
