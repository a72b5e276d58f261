-- P6: hash
/-- entry i's bytes as they are now -/
def byA (nw st : Nat → Nat) (i : Nat) : List Int32 := (List.range (st (i + 1) - st i)).map (fun k => nI (nw (st i + k)))
def lfA (nw st : Nat → Nat) (i : Nat) : Nat → Int32 := D (0 :: byA nw st i)
def chA (nw st : Nat → Nat) (n : Nat) : Nat → Int32 := chH (byA nw st) n
def trA (nw st : Nat → Nat) (f n : Nat) : Nat → Int32 := treeH (lfA nw st) f n
theorem tp_congr {f g : Nat → Nat → Int32} : ∀ h a n, 0 < n → n ≤ 2 ^ h → (∀ j, a ≤ j → j < a + n → f j = g j) → tpH f h a n = tpH g h a n
  | 0, a, n, h0, _, q => by rw [tpH, tpH, q a (Nat.le_refl _) (by omega)]
  | h + 1, a, n, h0, hn, q => by
    have e : 2 ^ (h + 1) = 2 ^ h + 2 ^ h := by rw [Nat.pow_succ]; omega
    rw [tpH, tpH]
    by_cases w : n ≤ 2 ^ h
    · rw [if_pos w, if_pos w, tp_congr h a n h0 w q]
    · rw [if_neg w, if_neg w, ct_congr h a (fun j a1 a2 => q j a1 (by omega)), tp_congr h (a + 2 ^ h) (n - 2 ^ h) (by omega) (by omega) (fun j a1 a2 => q j (by omega) (by omega))]
theorem tree_congr {f g : Nat → Nat → Int32} {a n : Nat} (hn : n ≤ 256) (q : ∀ j, a ≤ j → j < a + n → f j = g j) : treeH f a n = treeH g a n := by
  unfold treeH
  by_cases w : n = 0
  · rw [if_pos w, if_pos w]
  · rw [if_neg w, if_neg w, tp_congr 8 a n (by omega) hn q]
theorem byP_A {now : Nat → Int32} {nw st : Nat → Nat} {i : Nat} (hn : ∀ k, nw k < 256) (h : ∀ k, st i ≤ k → k < st (i + 1) → now k = nb (nI (nw k))) : byP now st i = byA nw st i := by
  unfold byP byC8 byA
  refine List.map_congr_left (fun k hk => ?_)
  rw [List.mem_range] at hk
  rw [h (st i + k) (by omega) (by omega), nb_255 (hn _)]
/-- only the pages' hashes and the spare row have changed -/
def FB (I I' : Nat → Nat → Int32) : Prop := ∀ c, (c < 25 ∨ (691 < c ∧ c ≠ 758)) → I' c = I c
theorem CA.fb {I I' : Nat → Nat → Int32} {J : Nat → Nat → Int64} {L : Lg} {tn : Nat} {tl : Nat → Nat × Int64} {nw : Nat → Nat} {et : Nat → Option Nat} (h : CA I J L tn tl nw et) (f : FB I I') (hp : PgOk 25 I' L.ne L.st nw) : CA I' J L tn tl nw et := ⟨CRep.congr (fun c q1 q2 => f c (by omega)) (fun _ _ _ _ => rfl) h.1, ⟨by rw [f 21 (by omega)]; exact h.2.1.1, h.2.1.2.1, fun k hk => by rw [f 22 (by omega)]; exact h.2.1.2.2 k hk⟩, fun i hi => by rw [f 24 (by omega)]; exact h.2.2.1 i hi, hp⟩
section HashC
variable {N SL : Nat} {S : Nat → Shp} {R : Nat → Nat → Option Nat} {p : Nat}
theorem PgOk.by {I : Nat → Nat → Int32} {L : Lg} {nw : Nat → Nat} (hL : LInv L) (hn : ∀ k, nw k < 256) (h : PgOk p I L.ne L.st nw) {i : Nat} (hi : i < L.ne) : byP (I (p + 1)) L.st i = byA nw L.st i := byP_A hn (fun k a1 a2 => h.2.1 k (by
  have := LInv.st_in hL hi
  omega))
/-- chainBehind(n) -/
theorem chain_C (hA : PgAt N S R p) (I : Nat → Nat → Int32) (J : Nat → Nat → Int64) (L : Lg) (hL : LInv L) (nw : Nat → Nat) (hn : ∀ k, nw k < 256) (h : PgOk p I L.ne L.st nw) (n : Nat) (hnn : n ≤ L.ne) :
    ∃ I' : Nat → Nat → Int32, fX5_chainBehind p (nI n) (N, SL, S, R, I, J) = some (p + 8 + n, (N, SL, S, R, I', J)) ∧ PgOk p I' L.ne L.st nw ∧ (∀ c, (c < p ∨ p + 666 < c) → I' c = I c) ∧ ∀ j, j < 8 → I' (p + 8 + n) j = chA nw L.st n j := by
  have h1 := hL.1
  have hns := hA.1.1.2.1
  have hnS : nS = 3 := rfl
  have hb := fun i hi => PgOk.by (i := i) hL hn h hi
  obtain ⟨p2, pn, pN, ch, c1, c2, c3⟩ := h
  have sn : StOk I p L.st n := ⟨fun i hi => pN.1.1 i (by omega), fun i hi => pN.1.2 i (by omega)⟩
  obtain ⟨I', g1, g2, g3, g4⟩ := chainB_spec (SL := SL) hA I J L.st n ch (by omega) (by omega) sn pN.2.1 c3 c2
  have e1 : I' (p + 1) = I (p + 1) := g2.1 _ (by omega) (by omega) (by omega)
  have hmx : Nat.max ch n ≤ L.ne := Nat.max_le.mpr ⟨c1, hnn⟩
  refine ⟨I', g1, ⟨by rw [g2.2 2 (by decide)]; exact p2, fun k hk => by rw [e1]; exact pn k hk, ⟨⟨fun i hi => by rw [g2.1 (p + 2) (by omega) (by omega) (by omega)]; exact pN.1.1 i hi, pN.1.2⟩, ⟨fun j hj => by rw [g2.1 1 (by omega) (by omega) (by omega)]; exact pN.2.1.1 j hj, fun j hj => by rw [g2.1 0 (by omega) (by omega) (by omega)]; exact pN.2.1.2 j hj⟩, fun a pos ha hpos hv hk => ?_⟩, Nat.max ch n, hmx, g3, g4⟩, fun c hc => g2.1 c (by omega) (by omega) (by omega), fun j hj => ?_⟩
  · rw [g2.1 (p + 666) (by omega) (by omega) (by omega)] at hk
    obtain ⟨o1, o2⟩ := pN.2.2 a pos ha hpos hv hk
    refine ⟨fun j hj => ?_, o2⟩
    rw [g2.1 _ (by omega) (by omega) (by omega), e1]
    exact o1 j hj
  · rw [g4 n (Nat.le_max_right _ _) j hj, e1]
    unfold chA
    rw [ch_congr (f := byP (I (p + 1)) L.st) (g := byA nw L.st) n (fun i hi => hb i (by omega))]
/-- treeOf(first, n, to) -/
theorem tree_C (hA : PgAt N S R p) (I : Nat → Nat → Int32) (J : Nat → Nat → Int64) (L : Lg) (hL : LInv L) (nw : Nat → Nat) (hn : ∀ k, nw k < 256) (h : PgOk p I L.ne L.st nw) (f n : Nat) (hfn : f + n ≤ L.ne) (hal : ∀ e, e < 8 → n / 2 ^ e % 2 = 1 → f % 2 ^ e = 0) {to : Nat} (ht : to < N) (htn : nS ≤ to) (hts : S to = .inl (.int, 8)) (hto : to < p ∨ p + 666 < to) :
    ∃ I' : Nat → Nat → Int32, fX5_treeOf p (nI f) (nI n) to (N, SL, S, R, I, J) = some ((), (N, SL, S, R, I', J)) ∧ PgOk p I' L.ne L.st nw ∧ (∀ c, c ≠ to → (c < p ∨ p + 666 < c) → I' c = I c) ∧ ∀ j, j < 8 → I' to j = trA nw L.st f n j := by
  have h1 := hL.1
  have hns := hA.1.1.2.1
  have hnS : nS = 3 := rfl
  have hb := fun i hi => PgOk.by (i := i) hL hn h hi
  obtain ⟨p2, pn, pN, ch, c1, c2, c3⟩ := h
  obtain ⟨I', g1, g2, g3, g4⟩ := treeOf_spec (SL := SL) hA I J L.st L.ne h1.2.1 ht htn hts hto f n hfn hal pN
  have e1 : I' (p + 1) = I (p + 1) := g2 _ (by omega) (by omega) (by omega)
  refine ⟨I', g1, ⟨by rw [g2 p (by omega) (by omega) (by omega)]; exact p2, fun k hk => by rw [e1]; exact pn k hk, g3, ch, c1, by rw [g2 p (by omega) (by omega) (by omega)]; exact c2, fun i hi j hj => ?_⟩, fun c a1 a2 => g2 c a1 (by omega) (by omega), fun j hj => ?_⟩
  · rw [e1, g2 _ (by omega) (by omega) (by omega)]
    exact c3 i hi j hj
  · rw [g4 j hj]
    unfold trA
    rw [tree_congr (f := lfC (I (p + 1)) L.st) (g := lfA nw L.st) (by omega) (fun i _ hi => by
      unfold lfC lfA
      rw [hb i (by omega)])]
/-- leafOf(i) -/
theorem leaf_C (hA : PgAt N S R p) (I : Nat → Nat → Int32) (J : Nat → Nat → Int64) (L : Lg) (hL : LInv L) (nw : Nat → Nat) (hn : ∀ k, nw k < 256) (h : PgOk p I L.ne L.st nw) (i : Nat) (hi : i < L.ne) :
    ∃ I' : Nat → Nat → Int32, fX5_leafOf p (nI i) (N, SL, S, R, I, J) = some (p + 210 + (256 + i), (N, SL, S, R, I', J)) ∧ PgOk p I' L.ne L.st nw ∧ (∀ c, (c < p ∨ p + 666 < c) → I' c = I c) ∧ ∀ j, j < 8 → I' (p + 210 + (256 + i)) j = lfA nw L.st i j := by
  have h1 := hL.1
  have hns := hA.1.1.2.1
  have hnS : nS = 3 := rfl
  have hb := fun i hi => PgOk.by (i := i) hL hn h hi
  obtain ⟨p2, pn, pN, ch, c1, c2, c3⟩ := h
  obtain ⟨I', g1, g2, g3, g4⟩ := nodeOf_spec (SL := SL) hA I J L.st L.ne h1.2.1 0 i (by decide) (by rw [Nat.pow_zero]; omega) pN
  have e1 : I' (p + 1) = I (p + 1) := g2 _ (by omega) (by omega)
  refine ⟨I', ?_, ⟨by rw [g2 p (by omega) (by omega)]; exact p2, fun k hk => by rw [e1]; exact pn k hk, g3, ch, c1, by rw [g2 p (by omega) (by omega)]; exact c2, fun i hi j hj => ?_⟩, fun c a1 => g2 c (by omega) (by omega), fun j hj => ?_⟩
  · unfold fX5_leafOf
    rw [cV_mk hA.1.1]
    show bd (fX5_nodeOf p (nI 0) (nI i) _) _ = _
    rw [g1, bd_some]
  · rw [e1, g2 _ (by omega) (by omega)]
    exact c3 i hi j hj
  · have e := g4 j hj
    rw [Nat.pow_zero, Nat.mul_one] at e
    refine e.trans ?_
    show lfC (I (p + 1)) L.st i j = _
    unfold lfC lfA
    rw [hb i hi]
/-- the answer of hash */ -/
def aHash (L : Lg) (nw : Nat → Nat) (w x y : Int32) : Int32 := if (x < 0 ∨ nI L.ne < x) ∨ (y < 0 ∨ ¬ y < 32) then -1 else if w = 0 then hb (chA nw L.st x.toNatClampNeg) y.toNatClampNeg else if w = 1 then hb (trA nw L.st 0 x.toNatClampNeg) y.toNatClampNeg else if w = 2 then (if nI L.ne ≤ x then -1 else hb (lfA nw L.st x.toNatClampNeg) y.toNatClampNeg) else -1
theorem le_nI {x : Int32} {n : Nat} (hn : n < 2 ^ 31) (h : ¬ (x < 0 ∨ nI n < x)) : ∃ a, x = nI a ∧ a ≤ n := nI_sm (fun q => h (Or.inl q)) (Or.inr (Int32.not_lt.mp (fun q => h (Or.inr q)))) hn
theorem c_hash (hT : TopAt N S R) (I : Nat → Nat → Int32) (J : Nat → Nat → Int64) (L : Lg) (tn : Nat) (tl : Nat → Nat × Int64) (nw : Nat → Nat) (et : Nat → Option Nat) (hL : LInv L) (hn : ∀ k, nw k < 256) (h : CA I J L tn tl nw et) (w x y : Int32) :
    ∃ I' : Nat → Nat → Int32, fX8_hash 3 w x y (N, SL, S, R, I, J) = some (aHash L nw w x y, (N, SL, S, R, I', J)) ∧ CA I' J L tn tl nw et ∧ FB I I' := by
  have h1 := hL.1
  have hN := hT.1.2.1
  have hnS : nS = 3 := rfl
  have hP := hT.pg
  unfold fX8_hash fX8_hash_25 fX8_hash_118 aHash
  by_cases q : (x < 0 ∨ nI L.ne < x) ∨ (y < 0 ∨ ¬ y < 32)
  · refine ⟨I, ?_, h, fun _ _ => rfl⟩
    rw [if_pos q]
    by_cases q1 : x < 0
    · rw [if_pos q1]
    rw [if_neg q1, tp_f3 hT, gI_mk hP.1.1, h.2.2.2.1]
    by_cases q2 : nI L.ne < x
    · rw [if_pos q2]
    rw [if_neg q2]
    by_cases q3 : y < 0
    · rw [if_pos q3]
    rw [if_neg q3, if_neg (fun t => q.elim (fun z => z.elim q1 q2) (fun z => z.elim q3 (fun z => z t)))]
  · obtain ⟨n, rfl, hnn⟩ := le_nI (by omega) (fun t => q (Or.inl t))
    obtain ⟨b, rfl, hb⟩ := in_nI (n := 32) (by decide) (fun t => q (Or.inr t))
    rw [if_neg q, if_neg (nI_ge0 (by omega)), tp_f3 hT, gI_mk hP.1.1, h.2.2.2.1, if_neg (nI_nlt hnn (by omega)), if_neg (nI_ge0 (by omega)), if_pos (show nI b < (32 : Int32) from nI_lt (b := 32) hb (by decide)), nI_clamp (by omega), nI_clamp (by omega)]
    by_cases w0 : w = 0
    · obtain ⟨I', g1, g2, g3, g4⟩ := chain_C (SL := SL) hP I J L hL nw hn h.2.2.2 n hnn
      have fb : FB I I' := fun c hc => g3 c (by omega)
      refine ⟨I', ?_, h.fb fb g2, fb⟩
      rw [if_pos w0, if_pos w0, tp_f3 hT, cV_mk hP.1.1, g1, bd_some, byteOf_mk (by omega) (hP.2.2.2.1 n (by omega)).2 I' J b hb, bd_some, byC_hb, hb_ext g4 hb]
    rw [if_neg w0, if_neg w0]
    by_cases w1 : w = 1
    · obtain ⟨I', g1, g2, g3, g4⟩ := tree_C (SL := SL) hP I J L hL nw hn h.2.2.2 0 n (by omega) (fun e _ _ => Nat.zero_mod _) (to := 758) (by omega) (by omega) hT.2.2.1.2.1 (by omega)
      have fb : FB I I' := fun c hc => g3 c (by omega) (by omega)
      refine ⟨I', ?_, h.fb fb g2, fb⟩
      rw [if_pos w1, if_pos w1, tp_f3 hT, tp_f7 hT, cV_mk hP.1.1]
      show bd (fX5_treeOf 25 (nI 0) (nI n) 758 _) _ = _
      rw [g1, bd_some, tp_f7 hT, byteOf_mk (by omega) hT.2.2.1.2.1 I' J b hb, bd_some, byC_hb, hb_ext g4 hb]
    rw [if_neg w1, if_neg w1]
    by_cases w2 : w = 2
    · rw [if_pos w2, if_pos w2, tp_f3 hT, gI_mk hP.1.1, h.2.2.2.1]
      by_cases z : nI L.ne ≤ nI n
      · rw [if_pos z, if_pos z]
        exact ⟨I, rfl, h, fun _ _ => rfl⟩
      · have hlt : n < L.ne := by
          have z' : ¬ L.ne ≤ n := fun q => z ((nI_leI (by omega) (by omega)).mpr q)
          omega
        obtain ⟨I', g1, g2, g3, g4⟩ := leaf_C (SL := SL) hP I J L hL nw hn h.2.2.2 n hlt
        have fb : FB I I' := fun c hc => g3 c (by omega)
        refine ⟨I', ?_, h.fb fb g2, fb⟩
        rw [if_neg z, if_neg z, tp_f3 hT, cV_mk hP.1.1, g1, bd_some, byteOf_mk (by omega) (hP.2.2.2.2 (256 + n) (by omega)).2 I' J b hb, bd_some, byC_hb, hb_ext g4 hb]
    rw [if_neg w2, if_neg w2]
    exact ⟨I, rfl, h, fun _ _ => rfl⟩
end HashC
/-- the reference's digests are ready -/
def MS (I : Nat → Nat → Int32) : Prop := (∀ j, j < 64 → I 790 j = K0h j) ∧ I 759 42 = nI 0
def HFr (I I' : Nat → Nat → Int32) : Prop := (∀ c, c ≠ 759 → (c < 791 ∨ 796 < c) → I' c = I c) ∧ ∀ j, j ≠ 42 → I' 759 j = I 759 j
theorem MF2.hfr {I I' : Nat → Nat → Int32} (h : MF2 759 I I') : HFr I I' := ⟨fun c a b => h.1 c a (by omega), h.2⟩
theorem MF.hfr {I I' : Nat → Nat → Int32} (h : MF 759 I I') : HFr I I' := h.to2.hfr
theorem MA.hfr {I I' : Nat → Nat → Int32} {J : Nat → Nat → Int64} {L : Lg} {tn : Nat} {tl : Nat → Nat × Int64} {nw : Nat → Nat} {et : Nat → Option Nat} (h : MA I J L tn tl nw et) (f : HFr I I') : MA I' J L tn tl nw et := by
  obtain ⟨m1, m2, m3, m4, m5⟩ := h
  refine ⟨?_, m2.congr (fun c q1 q2 => f.1 c (by omega) (by omega)) (f.2 20 (by decide)), fun k hk => by rw [f.1 _ (by omega) (by omega)]; exact m3 k hk, ⟨by rw [f.2 37 (by decide)]; exact m4.1, m4.2.1, fun k hk => by rw [f.1 _ (by omega) (by omega)]; exact m4.2.2 k hk⟩, m5.congr (Nat.le_refl _) (f.2 25 (by decide)) (f.1 _ (by omega) (by omega)) (f.1 _ (by omega) (by omega))⟩
  unfold MRep MEnt
  rw [f.1 (759 + 1) (by omega) (by omega), f.1 (759 + 2) (by omega) (by omega), f.1 (759 + 3) (by omega) (by omega), f.1 (759 + 4) (by omega) (by omega), f.1 (759 + 10) (by omega) (by omega), f.1 (759 + 12) (by omega) (by omega), f.1 (759 + 13) (by omega) (by omega), f.1 (759 + 15) (by omega) (by omega), f.1 (759 + 17) (by omega) (by omega), f.1 (759 + 18) (by omega) (by omega)]
  exact m1
theorem MS.hfr {I I' : Nat → Nat → Int32} (h : MS I) (f : HFr I I') (h42 : I' 759 42 = nI 0) : MS I' := ⟨fun j hj => by rw [f.1 790 (by omega) (by omega)]; exact h.1 j hj, h42⟩
section HashM
variable {N SL : Nat} {S : Nat → Shp} {R : Nat → Nat → Option Nat}
theorem bysA {I : Nat → Nat → Int32} {L : Lg} {nw : Nat → Nat} (hL : LInv L) (hD : DaOk 759 I nw (L.st L.ne)) {i : Nat} (hi : i < L.ne) : (List.range (L.st (i + 1) - L.st i)).map (fun k => I (759 + 19) (L.st i + k)) = byA nw L.st i := by
  unfold byA
  refine List.map_congr_left (fun k hk => ?_)
  rw [List.mem_range] at hk
  have := LInv.st_in hL hi
  exact hD _ (by omega)
theorem chain_MD (hT : TopAt N S R) (I : Nat → Nat → Int32) (J : Nat → Nat → Int64) (L : Lg) (hL : LInv L) (nw : Nat → Nat) (hB : MBy 759 I L) (hD : DaOk 759 I nw (L.st L.ne)) (hS : MS I) (n : Nat) (hn : n ≤ L.ne) :
    ∃ I' : Nat → Nat → Int32, fX9_chain 759 (nI n) (N, SL, S, R, I, J) = some ((), (N, SL, S, R, I', J)) ∧ HFr I I' ∧ MS I' ∧ ∀ j, j < 32 → I' 794 j = hb (chA nw L.st n) j := by
  have h1 := hL.1
  obtain ⟨I', g1, g2, g3, g4⟩ := chain_D (SL := SL) hT.md I J n (by omega) L.st (fun i => L.st (i + 1) - L.st i) (fun i hi => by
    have a1 := hL.2.1.2.1 i (by omega)
    have a2 := LInv.st_in hL (show i < L.ne by omega)
    omega) hS.1 hS.2 (fun i hi => hB.2.1 i (by omega))
  refine ⟨I', g1, g2.hfr, hS.hfr g2.hfr g3, fun j hj => ?_⟩
  have e := g4 j hj
  rw [ch_congr (g := byA nw L.st) n (fun i hi => bysA hL hD (show i < L.ne by omega))] at e
  exact e
theorem tree_MD (hT : TopAt N S R) (I : Nat → Nat → Int32) (J : Nat → Nat → Int64) (L : Lg) (hL : LInv L) (nw : Nat → Nat) (hB : MBy 759 I L) (hD : DaOk 759 I nw (L.st L.ne)) (hS : MS I) (f t : Nat) (hft : f ≤ t) (ht : t ≤ L.ne) :
    ∃ I' : Nat → Nat → Int32, fX9_tree 759 (nI f) (nI t) (N, SL, S, R, I, J) = some ((), (N, SL, S, R, I', J)) ∧ HFr I I' ∧ MS I' ∧ ∀ j, j < 32 → I' 794 j = hb (trA nw L.st f (t - f)) j := by
  have h1 := hL.1
  obtain ⟨I', g1, g2, g3, g4⟩ := tree_D (SL := SL) hT.md I J f t hft (by omega) L.st (fun i => L.st (i + 1) - L.st i) (fun i hi => by
    have a1 := hL.2.1.2.1 i (by omega)
    have a2 := LInv.st_in hL (show i < L.ne by omega)
    omega) hS.1 hS.2 (fun i hi => hB.2.1 i (by omega))
  refine ⟨I', g1, g2.hfr, hS.hfr g2.hfr g3, fun j hj => ?_⟩
  have e := g4 j hj
  rw [tree_congr (g := lfA nw L.st) (show t - f ≤ 256 by omega) (fun i a1 a2 => by
    unfold lfM lfA byM
    rw [bysA hL hD (show i < L.ne by omega)])] at e
  exact e
theorem leaf_MD (hT : TopAt N S R) (I : Nat → Nat → Int32) (J : Nat → Nat → Int64) (L : Lg) (hL : LInv L) (nw : Nat → Nat) (hB : MBy 759 I L) (hD : DaOk 759 I nw (L.st L.ne)) (hS : MS I) (i : Nat) (hi : i < L.ne) :
    ∃ I' : Nat → Nat → Int32, fX9_leaf 759 (nI i) (N, SL, S, R, I, J) = some ((), (N, SL, S, R, I', J)) ∧ HFr I I' ∧ MS I' ∧ ∀ j, j < 32 → I' 794 j = hb (lfA nw L.st i) j := by
  have h1 := hL.1
  have a1 := hL.2.1.2.1 i hi
  have a2 := LInv.st_in hL hi
  obtain ⟨I', g1, g2, g3, g4⟩ := leaf_D (SL := SL) hT.md I J hS.1 hS.2 i (L.st i) (L.st (i + 1) - L.st i) (by omega) (hB.2.1 i hi).1 (hB.2.1 i hi).2 (by omega) (by omega)
  refine ⟨I', g1, g2.hfr, hS.hfr g2.hfr g3, fun j hj => ?_⟩
  have e := g4 j hj
  unfold bysM at e
  rw [bysA hL hD hi] at e
  exact e
theorem m_hash (hT : TopAt N S R) (I : Nat → Nat → Int32) (J : Nat → Nat → Int64) (L : Lg) (tn : Nat) (tl : Nat → Nat × Int64) (nw : Nat → Nat) (et : Nat → Option Nat) (hL : LInv L) (h : MA I J L tn tl nw et) (hS : MS I) (w x y : Int32) :
    ∃ I' : Nat → Nat → Int32, fX9_hash 759 w x y (N, SL, S, R, I, J) = some (aHash L nw w x y, (N, SL, S, R, I', J)) ∧ MS I' ∧ HFr I I' := by
  have h1 := hL.1
  have hA := hT.md
  obtain ⟨m1, m2, m3, m4, m5⟩ := h
  have nothing : HFr I I := ⟨fun _ _ _ => rfl, fun _ _ => rfl⟩
  have y31 : (y < 0 ∨ 31 < y) ↔ (y < 0 ∨ ¬ y < 32) := by
    have e1 : (31 : Int32).toInt = 31 := rfl
    have e2 : (32 : Int32).toInt = 32 := rfl
    rw [Int32.lt_iff_toInt_lt (x := 31), Int32.lt_iff_toInt_lt (y := 32), e1, e2]
    constructor
    · rintro (q | q)
      · exact Or.inl q
      · exact Or.inr (by omega)
    · rintro (q | q)
      · exact Or.inl q
      · exact Or.inr (by omega)
  have rd : ∀ (I' : Nat → Nat → Int32) (H : Nat → Int32) (b : Nat), b < 32 → (∀ j, j < 32 → I' 794 j = hb H j) → fX9_hash_82 759 (nI b) (N, SL, S, R, I', J) = some (hb H b, (N, SL, S, R, I', J)) := by
    intro I' H b hb' hh
    unfold fX9_hash_82
    rw [md_f45 hA, md_r35 hA hb']
    show some (I' 794 b, _) = _
    rw [hh b hb']
  have e0 : I (759 + 2) 0 = nI L.ne := m1.1.2.1
  unfold fX9_hash fX9_hash_49
  rw [in_mk, bd_some]
  by_cases z : w < 0 ∨ 2 < w
  · refine ⟨I, ?_, hS, nothing⟩
    rw [if_pos z, if_pos rfl]
    unfold aHash
    have z0 : w ≠ 0 := fun q => by rw [q] at z; exact absurd z (by decide)
    have z1 : w ≠ 1 := fun q => by rw [q] at z; exact absurd z (by decide)
    have z2 : w ≠ 2 := fun q => by rw [q] at z; exact absurd z (by decide)
    rw [if_neg z0, if_neg z1, if_neg z2]
    by_cases q : (x < 0 ∨ nI L.ne < x) ∨ (y < 0 ∨ ¬ y < 32)
    · rw [if_pos q]
    · rw [if_neg q]
  rw [if_neg z, if_neg (show ¬ (1 : Int32) = 0 by decide)]
  have w012 : w = 0 ∨ w = 1 ∨ w = 2 := by
    obtain ⟨k, rfl, hk⟩ := nI_sm (n := 2) (fun q => z (Or.inl q)) (Or.inr (Int32.not_lt.mp (fun q => z (Or.inr q)))) (by decide)
    have : k = 0 ∨ k = 1 ∨ k = 2 := by omega
    rcases this with q | q | q
    · exact Or.inl (by rw [q]; rfl)
    · exact Or.inr (Or.inl (by rw [q]; rfl))
    · exact Or.inr (Or.inr (by rw [q]; rfl))
  have r0 : ∀ K : Int32 → Option (Int32 × Mem), (gR (N, SL, S, R, I, J) 9 1 759 fun r => rI (N, SL, S, R, I, J) .int r (0 : Int32) K) = K (nI L.ne) := by
    intro K
    rw [md_f1 hA]
    show rI _ .int (759 + 2) (nI 0) _ = _
    rw [md_r2 hA (by omega), e0]
  by_cases w2 : w = 2
  · rw [if_pos w2, r0]
    unfold fX9_hash_33 fX9_hash_49 aHash
    rw [in_mk, bd_some]
    have w0 : ¬ w = 0 := by rw [w2]; decide
    have w1 : ¬ w = 1 := by rw [w2]; decide
    rw [if_neg w0, if_neg w1, if_pos w2]
    by_cases q : x < 0 ∨ nI L.ne - 1 < x
    · rw [if_pos q, if_pos rfl]
      refine ⟨I, ?_, hS, nothing⟩
      by_cases q2 : (x < 0 ∨ nI L.ne < x) ∨ (y < 0 ∨ ¬ y < 32)
      · rw [if_pos q2]
      · rw [if_neg q2, if_pos (Int32.not_lt.mp (((in_m1 (by omega)).mp q).resolve_left (fun t => q2 (Or.inl (Or.inl t)))))]
    · obtain ⟨n, rfl, hnn⟩ := in_nI (n := L.ne) (by omega) (fun t => q ((in_m1 (by omega)).mpr t))
      rw [if_neg q, if_neg (show ¬ (1 : Int32) = 0 by decide), in_mk, bd_some]
      by_cases q2 : y < 0 ∨ ¬ y < 32
      · rw [if_pos (y31.mpr q2), if_pos rfl, if_pos (Or.inr q2)]
        exact ⟨I, rfl, hS, nothing⟩
      · obtain ⟨b, rfl, hb'⟩ := in_nI (n := 32) (by decide) q2
        obtain ⟨I', g1, g2, g3, g4⟩ := leaf_MD (SL := SL) hT I J L hL nw m2 m3 hS n hnn
        refine ⟨I', ?_, g3, g2⟩
        rw [if_neg (fun t => q2 (y31.mp t)), if_neg (show ¬ (1 : Int32) = 0 by decide), if_neg w0, if_neg w1, md_o hA, g1, bd_some, rd I' _ b hb' g4, if_neg (fun t => t.elim (fun t => t.elim (nI_ge0 (by omega)) (nI_nlt (by omega) (by omega))) q2), if_neg (nI_lt_of (by omega) hnn), nI_clamp (by omega), nI_clamp (by omega)]
  · rw [if_neg w2, r0]
    unfold fX9_hash_33 fX9_hash_49 aHash
    rw [in_mk, bd_some]
    by_cases q : x < 0 ∨ nI L.ne < x
    · rw [if_pos q, if_pos rfl, if_pos (Or.inl q)]
      exact ⟨I, rfl, hS, nothing⟩
    · obtain ⟨n, rfl, hnn⟩ := le_nI (by omega) q
      rw [if_neg q, if_neg (show ¬ (1 : Int32) = 0 by decide), in_mk, bd_some]
      by_cases q2 : y < 0 ∨ ¬ y < 32
      · rw [if_pos (y31.mpr q2), if_pos rfl, if_pos (Or.inr q2)]
        exact ⟨I, rfl, hS, nothing⟩
      · obtain ⟨b, rfl, hb'⟩ := in_nI (n := 32) (by decide) q2
        rw [if_neg (fun t => q2 (y31.mp t)), if_neg (show ¬ (1 : Int32) = 0 by decide), if_neg (show ¬ ((nI n < 0 ∨ nI L.ne < nI n) ∨ (nI b < 0 ∨ ¬ nI b < 32)) from fun t => t.elim q q2), nI_clamp (by omega), nI_clamp (by omega)]
        by_cases w0 : w = 0
        · obtain ⟨I', g1, g2, g3, g4⟩ := chain_MD (SL := SL) hT I J L hL nw m2 m3 hS n hnn
          refine ⟨I', ?_, g3, g2⟩
          rw [if_pos w0, if_pos w0, md_o hA, g1, bd_some, rd I' _ b hb' g4]
        · have w1 : w = 1 := (w012.resolve_left w0).resolve_right w2
          obtain ⟨I', g1, g2, g3, g4⟩ := tree_MD (SL := SL) hT I J L hL nw m2 m3 hS 0 n (by omega) hnn
          rw [Nat.sub_zero] at g4
          refine ⟨I', ?_, g3, g2⟩
          rw [if_neg w0, if_neg w0, if_pos w1, if_pos w1, md_o hA]
          show bd (fX9_tree 759 (nI 0) (nI n) _) _ = _
          rw [g1, bd_some, rd I' _ b hb' g4]
end HashM
