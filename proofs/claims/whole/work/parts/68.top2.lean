-- P6: leg, clear, every; the reference's calls that make entries
/-- the told EVERYs of the reference: at which count of entries, and which -/
def EtM (m : Nat) (I : Nat → Nat → Int32) (ne : Nat) (et : Nat → Option Nat) : Prop := ∃ (t : Nat) (a v : Nat → Nat), I m 25 = nI t ∧ (∀ k, k < t → I (m + 23) k = nI (a k) ∧ I (m + 24) k = nI (v k) ∧ a k ≤ ne ∧ et (a k) = some (v k) ∧ v k ≤ 50 ∧ k ≤ a k) ∧ (∀ k, k + 1 < t → a k < a (k + 1)) ∧ ∀ i, et i ≠ none → ∃ k, k < t ∧ a k = i
/-- the reference: ledger, bytes, told legs, told EVERYs -/
def MA (I : Nat → Nat → Int32) (J : Nat → Nat → Int64) (L : Lg) (tn : Nat) (tl : Nat → Nat × Int64) (nw : Nat → Nat) (et : Nat → Option Nat) : Prop := MRep 759 0 I J L ∧ MBy 759 I L ∧ DaOk 759 I nw (L.st L.ne) ∧ ToldM 759 I J tn tl ∧ EtM 759 I L.ne et
def MFr (I I' : Nat → Nat → Int32) (J J' : Nat → Nat → Int64) : Prop := (∀ c, (c < 759 ∨ 789 < c) → I' c = I c) ∧ (∀ c, (c < 759 ∨ 789 < c) → J' c = J c) ∧ ∀ j, 40 ≤ j → I' 759 j = I 759 j
theorem EtM.congr {m : Nat} {I I' : Nat → Nat → Int32} {ne ne' : Nat} {et : Nat → Option Nat} (h : EtM m I ne et) (hne : ne ≤ ne') (f1 : I' m 25 = I m 25) (f2 : I' (m + 23) = I (m + 23)) (f3 : I' (m + 24) = I (m + 24)) : EtM m I' ne' et := by
  obtain ⟨t, a, v, h1, h2, h3⟩ := h
  refine ⟨t, a, v, by rw [f1]; exact h1, fun k hk => ?_, h3⟩
  rw [f2, f3]
  obtain ⟨o1, o2, o3, o4⟩ := h2 k hk
  exact ⟨o1, o2, by omega, o4⟩
section Top2
variable {N SL : Nat} {S : Nat → Shp} {R : Nat → Nat → Option Nat}
theorem RTo.ma {I : Nat → Nat → Int32} {J : Nat → Nat → Int64} {L : Lg} {tn : Nat} {tl : Nat → Nat × Int64} {nw : Nat → Nat} {et : Nat → Option Nat} (h : MA I J L tn tl nw et) {r : Option (Int32 × Mem)} {p : Int32 × Lg} (hk : Keeps L p) (hr : RTo N SL S R 759 I J nw (L.st L.ne) r p) :
    ∃ (I' : Nat → Nat → Int32) (J' : Nat → Nat → Int64), r = some (p.1, (N, SL, S, R, I', J')) ∧ MA I' J' p.2 tn tl (nwU nw (L.st L.ne) p.2) et ∧ MFr I I' J J' := by
  obtain ⟨I', J', a1, a2, a3, a4, a5⟩ := hr
  obtain ⟨h1, h2, h3, h4, h5⟩ := h
  refine ⟨I', J', a1, ⟨a2, a3, a4, ⟨by rw [a5.2.1 37 (by decide) (by omega)]; exact h4.1, h4.2.1, fun k hk => by rw [a5.1 (759 + 29) (by omega), a5.2.2 (759 + 30) (by omega)]; exact h4.2.2 k hk⟩, h5.congr hk.2.1.1 (a5.2.1 25 (by decide) (by omega)) (a5.1 _ (by omega)) (a5.1 _ (by omega))⟩, fun c hc => a5.1 c (by omega), fun c hc => a5.2.2 c (by omega), fun j hj => a5.2.1 j (by omega) (by omega)⟩
theorem m_open (hT : TopAt N S R) (I : Nat → Nat → Int32) (J : Nat → Nat → Int64) (L : Lg) (tn : Nat) (tl : Nat → Nat × Int64) (nw : Nat → Nat) (et : Nat → Option Nat) (hL : LInv L) (hd : ¬ Due L) (h : MA I J L tn tl nw et) (f : Int64) :
    ∃ (I' : Nat → Nat → Int32) (J' : Nat → Nat → Int64), fX9_open 759 f (N, SL, S, R, I, J) = some ((aOpen L f).1, (N, SL, S, R, I', J')) ∧ MA I' J' (aOpen L f).2 tn tl (nwU nw (L.st L.ne) (aOpen L f).2) et ∧ MFr I I' J J' := RTo.ma h (aOpen_keeps hL hd f) (open_R hT.md I J L h.1 h.2.1 hL nw h.2.2.1 f)
theorem m_hold (hT : TopAt N S R) (I : Nat → Nat → Int32) (J : Nat → Nat → Int64) (L : Lg) (tn : Nat) (tl : Nat → Nat × Int64) (nw : Nat → Nat) (et : Nat → Option Nat) (hL : LInv L) (hd : ¬ Due L) (h : MA I J L tn tl nw et) (key : Int64) (x : Int32) (v : Int64) :
    ∃ (I' : Nat → Nat → Int32) (J' : Nat → Nat → Int64), fX9_hold_ 759 key x v (N, SL, S, R, I, J) = some ((cHold L key x v).1, (N, SL, S, R, I', J')) ∧ MA I' J' (cHold L key x v).2 tn tl (nwU nw (L.st L.ne) (cHold L key x v).2) et ∧ MFr I I' J J' := RTo.ma h (cHold_keeps hL hd key x v) (hold_R hT.md I J L h.1 h.2.1 hL hd nw h.2.2.1 key x v)
theorem m_rel (hT : TopAt N S R) (I : Nat → Nat → Int32) (J : Nat → Nat → Int64) (L : Lg) (tn : Nat) (tl : Nat → Nat × Int64) (nw : Nat → Nat) (et : Nat → Option Nat) (hL : LInv L) (hd : ¬ Due L) (h : MA I J L tn tl nw et) (x : Int32) :
    ∃ (I' : Nat → Nat → Int32) (J' : Nat → Nat → Int64), fX9_release 759 x (N, SL, S, R, I, J) = some ((cRel L x).1, (N, SL, S, R, I', J')) ∧ MA I' J' (cRel L x).2 tn tl (nwU nw (L.st L.ne) (cRel L x).2) et ∧ MFr I I' J J' := RTo.ma h (cRel_keeps hL hd x) (rel_R hT.md I J L h.1 h.2.1 hL hd nw h.2.2.1 x)
theorem m_cap (hT : TopAt N S R) (I : Nat → Nat → Int32) (J : Nat → Nat → Int64) (L : Lg) (tn : Nat) (tl : Nat → Nat × Int64) (nw : Nat → Nat) (et : Nat → Option Nat) (hL : LInv L) (hd : ¬ Due L) (h : MA I J L tn tl nw et) (key : Int64) (x y : Int32) (v : Int64) :
    ∃ (I' : Nat → Nat → Int32) (J' : Nat → Nat → Int64), fX9_capture 759 key x y v (N, SL, S, R, I, J) = some ((cCap L key x y v).1, (N, SL, S, R, I', J')) ∧ MA I' J' (cCap L key x y v).2 tn tl (nwU nw (L.st L.ne) (cCap L key x y v).2) et ∧ MFr I I' J J' := RTo.ma h (cCap_keeps hL hd key x y v) (cap_R hT.md I J L h.1 h.2.1 hL nw h.2.2.1 key x y v)
theorem m_rev (hT : TopAt N S R) (I : Nat → Nat → Int32) (J : Nat → Nat → Int64) (L : Lg) (tn : Nat) (tl : Nat → Nat × Int64) (nw : Nat → Nat) (et : Nat → Option Nat) (hL : LInv L) (hd : ¬ Due L) (h : MA I J L tn tl nw et) (key : Int64) (x : Int32) :
    ∃ (I' : Nat → Nat → Int32) (J' : Nat → Nat → Int64), fX9_reverse 759 key x (N, SL, S, R, I, J) = some ((cRev L key x).1, (N, SL, S, R, I', J')) ∧ MA I' J' (cRev L key x).2 tn tl (nwU nw (L.st L.ne) (cRev L key x).2) et ∧ MFr I I' J J' := RTo.ma h (cRev_keeps hL hd key x) (rev_R hT.md I J L h.1 h.2.1 hL nw h.2.2.1 key x)
theorem m_post (hT : TopAt N S R) (I : Nat → Nat → Int32) (J : Nat → Nat → Int64) (L : Lg) (tn : Nat) (tl : Nat → Nat × Int64) (nw : Nat → Nat) (et : Nat → Option Nat) (hL : LInv L) (hd : ¬ Due L) (hlg : ∀ k, k < tn → (tl k).1 < 256 ∧ (tl k).2 ≠ 0 ∧ (tl k).2 ≠ -9223372036854775808) (h : MA I J L tn tl nw et) (key : Int64) :
    ∃ (I' : Nat → Nat → Int32) (J' : Nat → Nat → Int64), fX9_post 759 key (N, SL, S, R, I, J) = some ((cPost L key tn tl).1, (N, SL, S, R, I', J')) ∧ MA I' J' (cPost L key tn tl).2 (nPost (cPost L key tn tl) tn) tl (nwU nw (L.st L.ne) (cPost L key tn tl).2) et ∧ MFr I I' J J' := by
  have hk := cPost_keeps hL hd key tn tl h.2.2.2.1.2.1 hlg
  obtain ⟨I', J', a1, a2, a3, a4, a5, a6, a7, a8⟩ := post_R (SL := SL) hT.md I J L h.1 h.2.1 hL nw h.2.2.1 key tn tl h.2.2.2.1 hlg
  exact ⟨I', J', a1, ⟨a2, a3, a4, a5, h.2.2.2.2.congr hk.2.1.1 (a7 25 (by decide) (by decide) (by omega)) (a6 _ (by omega)) (a6 _ (by omega))⟩, fun c hc => a6 c (by omega), fun c hc => a8 c (by omega), fun j hj => a7 j (by omega) (by omega) (by omega)⟩
/-- a leg can be told -/
abbrev lNo (tn : Nat) (x : Int32) (v : Int64) : Prop := 8 ≤ tn ∨ (x < 0 ∨ 255 < x) ∨ v = 0 ∨ v = -9223372036854775808
def lNum (tn : Nat) (x : Int32) (v : Int64) : Nat := if lNo tn x v then tn else tn + 1
def lTo (tn : Nat) (tl : Nat → Nat × Int64) (x : Int32) (v : Int64) : Nat → Nat × Int64 := if lNo tn x v then tl else up tl tn (x.toNatClampNeg, v)
def lAns (tn : Nat) (x : Int32) (v : Int64) : Int32 := if lNo tn x v then -1 else nI (tn + 1)
theorem lTo_good {tn : Nat} {tl : Nat → Nat × Int64} {x : Int32} {v : Int64} (hlg : ∀ k, k < tn → (tl k).1 < 256 ∧ (tl k).2 ≠ 0 ∧ (tl k).2 ≠ -9223372036854775808) : ∀ k, k < lNum tn x v → (lTo tn tl x v k).1 < 256 ∧ (lTo tn tl x v k).2 ≠ 0 ∧ (lTo tn tl x v k).2 ≠ -9223372036854775808 := by
  unfold lNum lTo
  by_cases w : lNo tn x v
  · rw [if_pos w, if_pos w]; exact hlg
  · rw [if_neg w, if_neg w]
    intro k hk
    obtain ⟨a, e, ha⟩ := byte_of (fun q => w (Or.inr (Or.inl q)))
    by_cases q : k = tn
    · rw [q, up_eq, e]
      show (nI a).toNatClampNeg < 256 ∧ _
      rw [nI_clamp (by omega)]
      exact ⟨ha, fun z => w (Or.inr (Or.inr (Or.inl z))), fun z => w (Or.inr (Or.inr (Or.inr z)))⟩
    · rw [up_ne q]; exact hlg k (by omega)
theorem c_leg (hT : TopAt N S R) (I : Nat → Nat → Int32) (J : Nat → Nat → Int64) (L : Lg) (tn : Nat) (tl : Nat → Nat × Int64) (nw : Nat → Nat) (et : Nat → Option Nat) (hne : L.ne ≤ 200) (h : CA I J L tn tl nw et) (x : Int32) (v : Int64) :
    ∃ (I' : Nat → Nat → Int32) (J' : Nat → Nat → Int64), fX8_leg 3 x v (N, SL, S, R, I, J) = some (lAns tn x v, (N, SL, S, R, I', J')) ∧ CA I' J' L (lNum tn x v) (lTo tn tl x v) nw et ∧ FA I I' J J' := by
  have hnS : nS = 3 := rfl
  have h8 := h.2.1.2.1
  unfold fX8_leg fX8_leg_23
  rw [tp_f1 hT, lg_o hT.lg]
  by_cases w : lNo tn x v
  · refine ⟨I, J, ?_, ?_, fun _ _ => rfl, fun _ _ => rfl⟩
    · have e : fX4_add 21 x v (N, SL, S, R, I, J) = some (0, (N, SL, S, R, I, J)) := by
        unfold fX4_add fX4_add_30
        rw [lg_g hT.lg, h.2.1.1]
        by_cases w1 : 8 ≤ tn
        · rw [if_pos (show (8 : Int32) ≤ nI tn from (nI_leI (a := 8) (by decide) (by omega)).mpr w1), retZ_0]
        rw [if_neg (show ¬ (8 : Int32) ≤ nI tn from nI_lt_of (k := 8) (by decide) (by omega)), isByte_mk, bd_some]
        by_cases w2 : x < 0 ∨ 255 < x
        · rw [if_pos w2, if_pos rfl, retZ_0]
        rw [if_neg w2, if_neg (by decide)]
        by_cases w3 : v = 0
        · rw [if_pos w3, retZ_0]
        rw [if_neg w3]
        by_cases w4 : v = -9223372036854775808
        · rw [if_pos w4, retZ_0]
        · exact absurd w (fun q => q.elim w1 (fun q => q.elim w2 (fun q => q.elim w3 w4)))
      rw [e, bd_some, if_pos rfl]
      unfold lAns
      rw [if_pos w]
    · unfold lNum lTo
      rw [if_pos w, if_pos w]; exact h
  · obtain ⟨a, rfl, ha⟩ := byte_of (fun q => w (Or.inr (Or.inl q)))
    obtain ⟨I', J', g1, g2, g3, g4⟩ := legAdd (SL := SL) hT.lg I J tn tl (up tl tn (a, v)) h.2.1 (by
      have : ¬ 8 ≤ tn := fun q => w (Or.inl q)
      omega) a ha v (fun q => w (Or.inr (Or.inr (Or.inl q)))) (fun q => w (Or.inr (Or.inr (Or.inr q)))) (fun k hk => up_ne (by omega)) up_eq
    refine ⟨I', J', ?_, ?_, fun c hc => g3 c (by omega) (by omega), fun c hc => g4 c (by omega)⟩
    · rw [g1, bd_some, if_neg (by decide), tp_f1 hT, lg_g hT.lg, g2.1]
      unfold lAns
      rw [if_neg w]
    · unfold lNum lTo
      rw [if_neg w, if_neg w, nI_clamp (by omega)]
      exact ⟨CRep.congr (fun c q1 q2 => g3 c (by omega) (by omega)) (fun c q1 q2 _ => g4 c (by omega)) h.1, g2, fun i hi => by rw [g3 24 (by omega) (by omega)]; exact h.2.2.1 i hi, h.2.2.2.congr (by decide) hne (fun c hc => g3 c (by omega) (by omega))⟩
theorem m_leg (hT : TopAt N S R) (I : Nat → Nat → Int32) (J : Nat → Nat → Int64) (L : Lg) (tn : Nat) (tl : Nat → Nat × Int64) (nw : Nat → Nat) (et : Nat → Option Nat) (h : MA I J L tn tl nw et) (x : Int32) (v : Int64) :
    ∃ (I' : Nat → Nat → Int32) (J' : Nat → Nat → Int64), fX9_leg_ 759 x v (N, SL, S, R, I, J) = some (lAns tn x v, (N, SL, S, R, I', J')) ∧ MA I' J' L (lNum tn x v) (lTo tn tl x v) nw et ∧ MFr I I' J J' := by
  have hA := hT.md
  obtain ⟨m1, m2, m3, m4, m5⟩ := h
  have h8 := m4.2.1
  unfold fX9_leg_ fX9_leg__34
  rw [md_g hA, m4.1]
  by_cases w : lNo tn x v
  · refine ⟨I, J, ?_, ?_, fun _ _ => rfl, fun _ _ => rfl, fun _ _ => rfl⟩
    · unfold lAns
      rw [if_pos w]
      by_cases w1 : 8 ≤ tn
      · rw [if_pos (show nI tn = (8 : Int32) by rw [show tn = 8 by omega]; rfl)]
      rw [if_neg (show ¬ nI tn = (8 : Int32) from fun q => absurd ((nI_eq (b := 8) (by omega) (by decide)).mp q) (by omega)), in_mk, bd_some]
      by_cases w2 : x < 0 ∨ 255 < x
      · rw [if_pos w2, if_pos rfl]
      rw [if_neg w2, if_neg (by decide)]
      by_cases w3 : v = 0
      · rw [if_pos w3]
      rw [if_neg w3]
      by_cases w4 : v = -9223372036854775808
      · rw [if_pos w4]
      · exact absurd w (fun q => q.elim w1 (fun q => q.elim w2 (fun q => q.elim w3 w4)))
    · unfold lNum lTo
      rw [if_pos w, if_pos w]; exact ⟨m1, m2, m3, m4, m5⟩
  · obtain ⟨a, rfl, ha⟩ := byte_of (fun q => w (Or.inr (Or.inl q)))
    have h7 : tn < 8 := by
      have : ¬ 8 ≤ tn := fun q => w (Or.inl q)
      omega
    have f1 : ∀ c, c ≠ 759 → c ≠ 788 → u2 (u2 I 788 tn (nI a)) 759 37 (nI (tn + 1)) c = I c := fun c q1 q2 => by rw [u2_ne q1, u2_ne q2]
    have f2 : ∀ j, j ≠ 37 → u2 (u2 I 788 tn (nI a)) 759 37 (nI (tn + 1)) 759 j = I 759 j := fun j q => by rw [u2_at, up_ne q, u2_ne (by decide)]
    refine ⟨u2 (u2 I 788 tn (nI a)) 759 37 (nI (tn + 1)), u2 J 789 tn v, ?_, ?_, fun c hc => f1 c (by omega) (by omega), fun c hc => u2_ne (by omega), fun j hj => f2 j (by omega)⟩
    · rw [if_neg (show ¬ nI tn = (8 : Int32) from fun q => absurd ((nI_eq (b := 8) (by omega) (by decide)).mp q) (by omega)), in_mk, bd_some, if_neg (fun q => w (Or.inr (Or.inl q))), if_neg (by decide), if_neg (fun q => w (Or.inr (Or.inr (Or.inl q)))), if_neg (fun q => w (Or.inr (Or.inr (Or.inr q)))), md_f38 hA, md_g hA, m4.1, md_w29 hA h7, md_f39 hA, md_g hA, u2_ne (by decide), m4.1, md_w30 hA h7, md_g hA, u2_ne (by decide), m4.1, nI_1, md_p hA, md_g hA]
      unfold lAns
      rw [if_neg w]
      show some (u2 _ 759 37 _ 759 37, _) = _
      rw [u2_i]
    · unfold lNum lTo
      rw [if_neg w, if_neg w, nI_clamp (by omega)]
      refine ⟨?_, m2.congr (fun c q1 q2 => f1 c (by omega) (by omega)) (f2 20 (by decide)), fun k hk => by rw [f1 _ (by omega) (by omega)]; exact m3 k hk, ⟨u2_i, h7, fun k hk => ?_⟩, m5.congr (Nat.le_refl _) (f2 25 (by decide)) (f1 _ (by omega) (by omega)) (f1 _ (by omega) (by omega))⟩
      · have f3 : ∀ c, c ≠ 789 → u2 J 789 tn v c = J c := fun c q => u2_ne q
        unfold MRep MAcc MEnt
        rw [f1 (759 + 1) (by omega) (by omega), f1 (759 + 2) (by omega) (by omega), f1 (759 + 3) (by omega) (by omega), f1 (759 + 4) (by omega) (by omega), f1 (759 + 10) (by omega) (by omega), f1 (759 + 12) (by omega) (by omega), f1 (759 + 13) (by omega) (by omega), f1 (759 + 15) (by omega) (by omega), f1 (759 + 17) (by omega) (by omega), f1 (759 + 18) (by omega) (by omega), f3 (759 + 6) (by omega), f3 (759 + 7) (by omega), f3 (759 + 8) (by omega), f3 (759 + 9) (by omega), f3 (759 + 11) (by omega), f3 (759 + 14) (by omega), f3 (759 + 16) (by omega)]
        exact m1
      · show u2 (u2 I 788 tn (nI a)) 759 37 (nI (tn + 1)) 788 k = _ ∧ u2 J 789 tn v 789 k = _
        rw [u2_ne (by decide), u2_at, u2_at]
        by_cases q : k = tn
        · rw [q, up_eq, up_eq, up_eq]; exact ⟨rfl, rfl⟩
        · rw [up_ne q, up_ne q, up_ne q]; exact m4.2.2 k (by omega)
end Top2
