-- P6: each call, of class and reference
theorem TrG.mono {ne ne' : Nat} (h : ne ≤ ne') {tr : Tr} (hG : TrG ne tr) : TrG ne' tr := by
  cases tr with
  | none => trivial
  | some v =>
    obtain ⟨pf, fr, ti, hs⟩ := v
    have hG : TrOk pf fr ti ne := hG
    exact ⟨hG.1, Nat.le_trans hG.2.1 h, hG.2.2⟩
theorem RP.keep {L : Lg} {tn tn' : Nat} {tl : Nat → Nat × Int64} {nw : Nat → Nat} {et : Nat → Option Nat} {hd : Hd} {tr : Tr} (hP : RP (L, tn, tl, nw, et, hd, tr)) {p : Int32 × Lg} (hk : Keeps L p) (ht : tn' ≤ tn) : RP (p.2, tn', tl, nwU nw (L.st L.ne) p.2, et, hd, tr) := by
  obtain ⟨h1, h2, h3, h4, h5, h6⟩ := hP
  refine ⟨hk.1, hk.2.2, fun k => ?_, fun k q => h4 k (Nat.lt_of_lt_of_le q ht), fun k n c t h => Nat.le_trans (h5 k n c t h) hk.2.1.1, TrG.mono hk.2.1.1 h6⟩
  show (if k < L.st L.ne then nw k else p.2.yb k) < 256
  split
  · exact h3 k
  · exact hk.1.2.1.2.2 k
theorem nPost_le (p : Int32 × Lg) (n : Nat) : nPost p n ≤ n := by
  unfold nPost
  split
  · exact Nat.le_refl _
  · exact Nat.zero_le _
theorem evL_ne (L : Lg) (x : Int32) : (evL L x).ne = L.ne := by
  unfold evL
  split <;> rfl
section Calls
variable {N SL : Nat} {S : Nat → Shp} {R : Nat → Nat → Option Nat} {I I' : Nat → Nat → Int32} {J J' : Nat → Nat → Int64}
theorem m_two {hd : Hd} {tr : Tr} (h1 : HdM I hd) (h2 : TrM I tr) (f : ∀ c, 797 ≤ c → c ≤ 801 → I' c = I c) (g : ∀ j, 52 ≤ j → j ≤ 55 → I' 759 j = I 759 j) : HdM I' hd ∧ TrM I' tr := by
  refine ⟨fun k hk => ?_, h2.sfr g (f 801 (by omega) (by omega))⟩
  rw [f 797 (by omega) (by omega), f 798 (by omega) (by omega), f 799 (by omega) (by omega), f 800 (by omega) (by omega)]
  exact h1 k hk
theorem c_hd {hd : Hd} (h : HdC I hd) (f : ∀ c, 693 ≤ c → c ≤ 716 → I' c = I c) : HdC I' hd := by
  intro k hk
  rw [f (693 + 3 * k) (by omega) (by omega), f (694 + 3 * k) (by omega) (by omega), f (695 + 3 * k) (by omega) (by omega)]
  exact h k hk
theorem CA.cg {L : Lg} {tn : Nat} {tl : Nat → Nat × Int64} {nw : Nat → Nat} {et : Nat → Option Nat} (hne : L.ne ≤ 200) (h : CA I J L tn tl nw et) (f : ∀ c, c < 692 → I' c = I c) (g : ∀ c, c < 692 → J' c = J c) : CA I' J' L tn tl nw et := by
  obtain ⟨a1, a2, a3, a4⟩ := h
  refine ⟨CRep.congr (fun c q1 q2 => f c (by omega)) (fun c q1 q2 _ => g c (by omega)) a1, ⟨?_, a2.2.1, ?_⟩, ?_, a4.congr (by decide) hne (fun c q => f c (by have : nS = 3 := rfl; omega))⟩
  · rw [f 21 (by omega)]; exact a2.1
  · rw [f (21 + 1) (by omega), g (21 + 2) (by omega)]; exact a2.2.2
  · rw [f 24 (by omega)]; exact a3
theorem op_open (hT : TopAt N S R) (h : Both I J) (f : Int64) : Op N SL S R I J (fX8_open 3 f) (fX9_open 759 f) := by
  obtain ⟨⟨L, tn, tl, nw, et, hd, tr⟩, hP, hC, hM⟩ := h
  have hL : LInv L := hP.1
  have hnd : ¬ Due L := hP.2.1
  have hne : L.ne ≤ 200 := hL.1.2.1
  have hn : ∀ k, nw k < 256 := hP.2.2.1
  have hlg : ∀ k, k < tn → (tl k).1 < 256 ∧ (tl k).2 ≠ 0 ∧ (tl k).2 ≠ -9223372036854775808 := hP.2.2.2.1
  have hHG : HdG hd L.ne := hP.2.2.2.2.1
  have hTG : TrG L.ne tr := hP.2.2.2.2.2
  have hH : HdC I hd := hC.2.1
  have hR : TrC I tr := hC.2.2.1
  refine Op.mk' (s' := ((aOpen L f).2, tn, tl, nwU nw (L.st L.ne) (aOpen L f).2, et, hd, tr)) hP (RP.keep hP (aOpen_keeps hL hnd f) (Nat.le_refl _)) hM ((aOpen L f).1) ?_ ?_
  · obtain ⟨I', J', a1, a2, a3⟩ := c_open (SL := SL) hT I J L tn tl nw et hL hnd hC.1 f
    exact ⟨I', J', a1, ⟨a2, c_tails hne hTG hC.2 (fun c q1 q2 => a3.1 c (by omega)) (fun c q1 q2 => a3.2 c (by omega))⟩, fun c q => a3.1 c (by omega), fun c q => a3.2 c (by omega)⟩
  · intro I J hM
    obtain ⟨I', J', a1, a2, a3⟩ := m_open (SL := SL) hT I J L tn tl nw et hL hnd hM.1 f
    exact ⟨I', J', a1, ⟨a2, m_tails hM.2 (fun c q1 q2 => a3.1 c (by omega)) (a3.2.2 42 (by omega)) (fun j q1 q2 => a3.2.2 j (by omega))⟩, fun c q => a3.1 c (by omega), fun c q => a3.2.1 c (by omega)⟩
theorem op_hold (hT : TopAt N S R) (h : Both I J) (key : Int64) (x : Int32) (v : Int64) : Op N SL S R I J (fX8_hold 3 key x v) (fX9_hold_ 759 key x v) := by
  obtain ⟨⟨L, tn, tl, nw, et, hd, tr⟩, hP, hC, hM⟩ := h
  have hL : LInv L := hP.1
  have hnd : ¬ Due L := hP.2.1
  have hne : L.ne ≤ 200 := hL.1.2.1
  have hn : ∀ k, nw k < 256 := hP.2.2.1
  have hlg : ∀ k, k < tn → (tl k).1 < 256 ∧ (tl k).2 ≠ 0 ∧ (tl k).2 ≠ -9223372036854775808 := hP.2.2.2.1
  have hHG : HdG hd L.ne := hP.2.2.2.2.1
  have hTG : TrG L.ne tr := hP.2.2.2.2.2
  have hH : HdC I hd := hC.2.1
  have hR : TrC I tr := hC.2.2.1
  refine Op.mk' (s' := ((cHold L key x v).2, tn, tl, nwU nw (L.st L.ne) (cHold L key x v).2, et, hd, tr)) hP (RP.keep hP (cHold_keeps hL hnd key x v) (Nat.le_refl _)) hM ((cHold L key x v).1) ?_ ?_
  · obtain ⟨I', J', a1, a2, a3⟩ := c_hold (SL := SL) hT I J L tn tl nw et hL hnd hC.1 key x v
    exact ⟨I', J', a1, ⟨a2, c_tails hne hTG hC.2 (fun c q1 q2 => a3.1 c (by omega)) (fun c q1 q2 => a3.2 c (by omega))⟩, fun c q => a3.1 c (by omega), fun c q => a3.2 c (by omega)⟩
  · intro I J hM
    obtain ⟨I', J', a1, a2, a3⟩ := m_hold (SL := SL) hT I J L tn tl nw et hL hnd hM.1 key x v
    exact ⟨I', J', a1, ⟨a2, m_tails hM.2 (fun c q1 q2 => a3.1 c (by omega)) (a3.2.2 42 (by omega)) (fun j q1 q2 => a3.2.2 j (by omega))⟩, fun c q => a3.1 c (by omega), fun c q => a3.2.1 c (by omega)⟩
theorem op_rel (hT : TopAt N S R) (h : Both I J) (x : Int32) : Op N SL S R I J (fX8_release 3 x) (fX9_release 759 x) := by
  obtain ⟨⟨L, tn, tl, nw, et, hd, tr⟩, hP, hC, hM⟩ := h
  have hL : LInv L := hP.1
  have hnd : ¬ Due L := hP.2.1
  have hne : L.ne ≤ 200 := hL.1.2.1
  have hn : ∀ k, nw k < 256 := hP.2.2.1
  have hlg : ∀ k, k < tn → (tl k).1 < 256 ∧ (tl k).2 ≠ 0 ∧ (tl k).2 ≠ -9223372036854775808 := hP.2.2.2.1
  have hHG : HdG hd L.ne := hP.2.2.2.2.1
  have hTG : TrG L.ne tr := hP.2.2.2.2.2
  have hH : HdC I hd := hC.2.1
  have hR : TrC I tr := hC.2.2.1
  refine Op.mk' (s' := ((cRel L x).2, tn, tl, nwU nw (L.st L.ne) (cRel L x).2, et, hd, tr)) hP (RP.keep hP (cRel_keeps hL hnd x) (Nat.le_refl _)) hM ((cRel L x).1) ?_ ?_
  · obtain ⟨I', J', a1, a2, a3⟩ := c_rel (SL := SL) hT I J L tn tl nw et hL hnd hC.1 x
    exact ⟨I', J', a1, ⟨a2, c_tails hne hTG hC.2 (fun c q1 q2 => a3.1 c (by omega)) (fun c q1 q2 => a3.2 c (by omega))⟩, fun c q => a3.1 c (by omega), fun c q => a3.2 c (by omega)⟩
  · intro I J hM
    obtain ⟨I', J', a1, a2, a3⟩ := m_rel (SL := SL) hT I J L tn tl nw et hL hnd hM.1 x
    exact ⟨I', J', a1, ⟨a2, m_tails hM.2 (fun c q1 q2 => a3.1 c (by omega)) (a3.2.2 42 (by omega)) (fun j q1 q2 => a3.2.2 j (by omega))⟩, fun c q => a3.1 c (by omega), fun c q => a3.2.1 c (by omega)⟩
theorem op_cap (hT : TopAt N S R) (h : Both I J) (key : Int64) (x y : Int32) (v : Int64) : Op N SL S R I J (fX8_capture 3 key x y v) (fX9_capture 759 key x y v) := by
  obtain ⟨⟨L, tn, tl, nw, et, hd, tr⟩, hP, hC, hM⟩ := h
  have hL : LInv L := hP.1
  have hnd : ¬ Due L := hP.2.1
  have hne : L.ne ≤ 200 := hL.1.2.1
  have hn : ∀ k, nw k < 256 := hP.2.2.1
  have hlg : ∀ k, k < tn → (tl k).1 < 256 ∧ (tl k).2 ≠ 0 ∧ (tl k).2 ≠ -9223372036854775808 := hP.2.2.2.1
  have hHG : HdG hd L.ne := hP.2.2.2.2.1
  have hTG : TrG L.ne tr := hP.2.2.2.2.2
  have hH : HdC I hd := hC.2.1
  have hR : TrC I tr := hC.2.2.1
  refine Op.mk' (s' := ((cCap L key x y v).2, tn, tl, nwU nw (L.st L.ne) (cCap L key x y v).2, et, hd, tr)) hP (RP.keep hP (cCap_keeps hL hnd key x y v) (Nat.le_refl _)) hM ((cCap L key x y v).1) ?_ ?_
  · obtain ⟨I', J', a1, a2, a3⟩ := c_cap (SL := SL) hT I J L tn tl nw et hL hnd hC.1 key x y v
    exact ⟨I', J', a1, ⟨a2, c_tails hne hTG hC.2 (fun c q1 q2 => a3.1 c (by omega)) (fun c q1 q2 => a3.2 c (by omega))⟩, fun c q => a3.1 c (by omega), fun c q => a3.2 c (by omega)⟩
  · intro I J hM
    obtain ⟨I', J', a1, a2, a3⟩ := m_cap (SL := SL) hT I J L tn tl nw et hL hnd hM.1 key x y v
    exact ⟨I', J', a1, ⟨a2, m_tails hM.2 (fun c q1 q2 => a3.1 c (by omega)) (a3.2.2 42 (by omega)) (fun j q1 q2 => a3.2.2 j (by omega))⟩, fun c q => a3.1 c (by omega), fun c q => a3.2.1 c (by omega)⟩
theorem op_rev (hT : TopAt N S R) (h : Both I J) (key : Int64) (x : Int32) : Op N SL S R I J (fX8_reverse 3 key x) (fX9_reverse 759 key x) := by
  obtain ⟨⟨L, tn, tl, nw, et, hd, tr⟩, hP, hC, hM⟩ := h
  have hL : LInv L := hP.1
  have hnd : ¬ Due L := hP.2.1
  have hne : L.ne ≤ 200 := hL.1.2.1
  have hn : ∀ k, nw k < 256 := hP.2.2.1
  have hlg : ∀ k, k < tn → (tl k).1 < 256 ∧ (tl k).2 ≠ 0 ∧ (tl k).2 ≠ -9223372036854775808 := hP.2.2.2.1
  have hHG : HdG hd L.ne := hP.2.2.2.2.1
  have hTG : TrG L.ne tr := hP.2.2.2.2.2
  have hH : HdC I hd := hC.2.1
  have hR : TrC I tr := hC.2.2.1
  refine Op.mk' (s' := ((cRev L key x).2, tn, tl, nwU nw (L.st L.ne) (cRev L key x).2, et, hd, tr)) hP (RP.keep hP (cRev_keeps hL hnd key x) (Nat.le_refl _)) hM ((cRev L key x).1) ?_ ?_
  · obtain ⟨I', J', a1, a2, a3⟩ := c_rev (SL := SL) hT I J L tn tl nw et hL hnd hC.1 key x
    exact ⟨I', J', a1, ⟨a2, c_tails hne hTG hC.2 (fun c q1 q2 => a3.1 c (by omega)) (fun c q1 q2 => a3.2 c (by omega))⟩, fun c q => a3.1 c (by omega), fun c q => a3.2 c (by omega)⟩
  · intro I J hM
    obtain ⟨I', J', a1, a2, a3⟩ := m_rev (SL := SL) hT I J L tn tl nw et hL hnd hM.1 key x
    exact ⟨I', J', a1, ⟨a2, m_tails hM.2 (fun c q1 q2 => a3.1 c (by omega)) (a3.2.2 42 (by omega)) (fun j q1 q2 => a3.2.2 j (by omega))⟩, fun c q => a3.1 c (by omega), fun c q => a3.2.1 c (by omega)⟩
theorem op_post (hT : TopAt N S R) (h : Both I J) (key : Int64) : Op N SL S R I J (fX8_post 3 key) (fX9_post 759 key) := by
  obtain ⟨⟨L, tn, tl, nw, et, hd, tr⟩, hP, hC, hM⟩ := h
  have hL : LInv L := hP.1
  have hnd : ¬ Due L := hP.2.1
  have hne : L.ne ≤ 200 := hL.1.2.1
  have hn : ∀ k, nw k < 256 := hP.2.2.1
  have hlg : ∀ k, k < tn → (tl k).1 < 256 ∧ (tl k).2 ≠ 0 ∧ (tl k).2 ≠ -9223372036854775808 := hP.2.2.2.1
  have hHG : HdG hd L.ne := hP.2.2.2.2.1
  have hTG : TrG L.ne tr := hP.2.2.2.2.2
  have hH : HdC I hd := hC.2.1
  have hR : TrC I tr := hC.2.2.1
  refine Op.mk' (s' := ((cPost L key tn tl).2, nPost (cPost L key tn tl) tn, tl, nwU nw (L.st L.ne) (cPost L key tn tl).2, et, hd, tr)) hP (RP.keep hP (cPost_keeps hL hnd key tn tl hC.1.2.1.2.1 hlg) (nPost_le _ _)) hM ((cPost L key tn tl).1) ?_ ?_
  · obtain ⟨I', J', a1, a2, a3⟩ := c_post (SL := SL) hT I J L tn tl nw et hL hnd hlg hC.1 key
    exact ⟨I', J', a1, ⟨a2, c_tails hne hTG hC.2 (fun c q1 q2 => a3.1 c (by omega)) (fun c q1 q2 => a3.2 c (by omega))⟩, fun c q => a3.1 c (by omega), fun c q => a3.2 c (by omega)⟩
  · intro I J hM
    obtain ⟨I', J', a1, a2, a3⟩ := m_post (SL := SL) hT I J L tn tl nw et hL hnd hlg hM.1 key
    exact ⟨I', J', a1, ⟨a2, m_tails hM.2 (fun c q1 q2 => a3.1 c (by omega)) (a3.2.2 42 (by omega)) (fun j q1 q2 => a3.2.2 j (by omega))⟩, fun c q => a3.1 c (by omega), fun c q => a3.2.1 c (by omega)⟩
theorem op_leg (hT : TopAt N S R) (h : Both I J) (x : Int32) (v : Int64) : Op N SL S R I J (fX8_leg 3 x v) (fX9_leg_ 759 x v) := by
  obtain ⟨⟨L, tn, tl, nw, et, hd, tr⟩, hP, hC, hM⟩ := h
  have hL : LInv L := hP.1
  have hnd : ¬ Due L := hP.2.1
  have hne : L.ne ≤ 200 := hL.1.2.1
  have hn : ∀ k, nw k < 256 := hP.2.2.1
  have hlg : ∀ k, k < tn → (tl k).1 < 256 ∧ (tl k).2 ≠ 0 ∧ (tl k).2 ≠ -9223372036854775808 := hP.2.2.2.1
  have hHG : HdG hd L.ne := hP.2.2.2.2.1
  have hTG : TrG L.ne tr := hP.2.2.2.2.2
  have hH : HdC I hd := hC.2.1
  have hR : TrC I tr := hC.2.2.1
  refine Op.mk' (s' := (L, lNum tn x v, lTo tn tl x v, nw, et, hd, tr)) hP ⟨hL, hnd, hn, lTo_good hlg, hHG, hTG⟩ hM (lAns tn x v) ?_ ?_
  · obtain ⟨I', J', a1, a2, a3⟩ := c_leg (SL := SL) hT I J L tn tl nw et hne hC.1 x v
    exact ⟨I', J', a1, ⟨a2, c_tails hne hTG hC.2 (fun c q1 q2 => a3.1 c (by omega)) (fun c q1 q2 => a3.2 c (by omega))⟩, fun c q => a3.1 c (by omega), fun c q => a3.2 c (by omega)⟩
  · intro I J hM
    obtain ⟨I', J', a1, a2, a3⟩ := m_leg (SL := SL) hT I J L tn tl nw et hM.1 x v
    exact ⟨I', J', a1, ⟨a2, m_tails hM.2 (fun c q1 q2 => a3.1 c (by omega)) (a3.2.2 42 (by omega)) (fun j q1 q2 => a3.2.2 j (by omega))⟩, fun c q => a3.1 c (by omega), fun c q => a3.2.1 c (by omega)⟩
theorem op_clear (hT : TopAt N S R) (h : Both I J) : Op N SL S R I J (fX8_clear 3) (fX9_clear 759) := by
  obtain ⟨⟨L, tn, tl, nw, et, hd, tr⟩, hP, hC, hM⟩ := h
  have hL : LInv L := hP.1
  have hnd : ¬ Due L := hP.2.1
  have hne : L.ne ≤ 200 := hL.1.2.1
  have hn : ∀ k, nw k < 256 := hP.2.2.1
  have hlg : ∀ k, k < tn → (tl k).1 < 256 ∧ (tl k).2 ≠ 0 ∧ (tl k).2 ≠ -9223372036854775808 := hP.2.2.2.1
  have hHG : HdG hd L.ne := hP.2.2.2.2.1
  have hTG : TrG L.ne tr := hP.2.2.2.2.2
  have hH : HdC I hd := hC.2.1
  have hR : TrC I tr := hC.2.2.1
  refine Op.mk' (s' := (L, 0, tl, nw, et, hd, tr)) hP ⟨hL, hnd, hn, fun k q => absurd q (Nat.not_lt_zero _), hHG, hTG⟩ hM (nI tn) ?_ ?_
  · obtain ⟨I', J', a1, a2, a3⟩ := c_clear (SL := SL) hT I J L tn tl nw et hne hC.1
    exact ⟨I', J', a1, ⟨a2, c_tails hne hTG hC.2 (fun c q1 q2 => a3.1 c (by omega)) (fun c q1 q2 => a3.2 c (by omega))⟩, fun c q => a3.1 c (by omega), fun c q => a3.2 c (by omega)⟩
  · intro I J hM
    obtain ⟨I', J', a1, a2, a3⟩ := m_clear (SL := SL) hT I J L tn tl nw et hM.1
    exact ⟨I', J', a1, ⟨a2, m_tails hM.2 (fun c q1 q2 => a3.1 c (by omega)) (a3.2.2 42 (by omega)) (fun j q1 q2 => a3.2.2 j (by omega))⟩, fun c q => a3.1 c (by omega), fun c q => a3.2.1 c (by omega)⟩
theorem op_every (hT : TopAt N S R) (h : Both I J) (x : Int32) : Op N SL S R I J (fX8_every 3 x) (fX9_every 759 x) := by
  obtain ⟨⟨L, tn, tl, nw, et, hd, tr⟩, hP, hC, hM⟩ := h
  have hL : LInv L := hP.1
  have hnd : ¬ Due L := hP.2.1
  have hne : L.ne ≤ 200 := hL.1.2.1
  have hn : ∀ k, nw k < 256 := hP.2.2.1
  have hlg : ∀ k, k < tn → (tl k).1 < 256 ∧ (tl k).2 ≠ 0 ∧ (tl k).2 ≠ -9223372036854775808 := hP.2.2.2.1
  have hHG : HdG hd L.ne := hP.2.2.2.2.1
  have hTG : TrG L.ne tr := hP.2.2.2.2.2
  have hH : HdC I hd := hC.2.1
  have hR : TrC I tr := hC.2.2.1
  refine Op.mk' (s' := (evL L x, tn, tl, nw, evT L et x, hd, tr)) hP ⟨(evL_keeps hL hnd x).1, (evL_keeps hL hnd x).2, hn, hlg, fun k n c t q => by show n ≤ (evL L x).ne; rw [evL_ne]; exact hHG k n c t q, by show TrG (evL L x).ne tr; rw [evL_ne]; exact hTG⟩ hM (evA L x) ?_ ?_
  · obtain ⟨I', J', a1, a2, a3⟩ := c_every (SL := SL) hT I J L tn tl nw et hL hC.1 x
    exact ⟨I', J', a1, ⟨a2, c_tails hne hTG hC.2 (fun c q1 q2 => a3.1 c (by omega)) (fun c q1 q2 => a3.2 c (by omega))⟩, fun c q => a3.1 c (by omega), fun c q => a3.2 c (by omega)⟩
  · intro I J hM
    obtain ⟨I', J', a1, a2, a3⟩ := m_every (SL := SL) hT I J L tn tl nw et hL hM.1 x
    exact ⟨I', J', a1, ⟨a2, m_tails hM.2 (fun c q1 q2 => a3.1 c (by omega)) (a3.2.2 42 (by omega)) (fun j q1 q2 => a3.2.2 j (by omega))⟩, fun c q => a3.1 c (by omega), fun c q => a3.2.1 c (by omega)⟩
theorem op_alter (hT : TopAt N S R) (h : Both I J) (x y : Int32) : Op N SL S R I J (fX8_alter 3 x y) (fX9_alter 759 x y) := by
  obtain ⟨⟨L, tn, tl, nw, et, hd, tr⟩, hP, hC, hM⟩ := h
  have hL : LInv L := hP.1
  have hnd : ¬ Due L := hP.2.1
  have hne : L.ne ≤ 200 := hL.1.2.1
  have hn : ∀ k, nw k < 256 := hP.2.2.1
  have hlg : ∀ k, k < tn → (tl k).1 < 256 ∧ (tl k).2 ≠ 0 ∧ (tl k).2 ≠ -9223372036854775808 := hP.2.2.2.1
  have hHG : HdG hd L.ne := hP.2.2.2.2.1
  have hTG : TrG L.ne tr := hP.2.2.2.2.2
  have hH : HdC I hd := hC.2.1
  have hR : TrC I tr := hC.2.2.1
  refine Op.mk' (s' := (L, tn, tl, altNw L nw x y, et, hd, tr)) hP ⟨hL, hnd, altNw_lt hn, hlg, hHG, hTG⟩ hM (altAns L nw x y) ?_ ?_
  · obtain ⟨I', J', a1, a2, a3⟩ := c_alter (SL := SL) hT I J L tn tl nw et hL hn hC.1 x y
    exact ⟨I', J', a1, ⟨a2, c_tails hne hTG hC.2 (fun c q1 q2 => a3.1 c (by omega)) (fun c q1 q2 => a3.2 c (by omega))⟩, fun c q => a3.1 c (by omega), fun c q => a3.2 c (by omega)⟩
  · intro I J hM
    obtain ⟨I', J', a1, a2, a3⟩ := m_alter (SL := SL) hT I J L tn tl nw et hL hM.1 x y
    exact ⟨I', J', a1, ⟨a2, m_tails hM.2 (fun c q1 q2 => a3.1 c (by omega)) (a3.2.2 42 (by omega)) (fun j q1 q2 => a3.2.2 j (by omega))⟩, fun c q => a3.1 c (by omega), fun c q => a3.2.1 c (by omega)⟩
theorem op_account (hT : TopAt N S R) (h : Both I J) (x w : Int32) : Op N SL S R I J (fX8_account 3 x w) (fX9_account 759 x w) := by
  obtain ⟨⟨L, tn, tl, nw, et, hd, tr⟩, hP, hC, hM⟩ := h
  have hL : LInv L := hP.1
  have hnd : ¬ Due L := hP.2.1
  have hne : L.ne ≤ 200 := hL.1.2.1
  have hn : ∀ k, nw k < 256 := hP.2.2.1
  have hlg : ∀ k, k < tn → (tl k).1 < 256 ∧ (tl k).2 ≠ 0 ∧ (tl k).2 ≠ -9223372036854775808 := hP.2.2.2.1
  have hHG : HdG hd L.ne := hP.2.2.2.2.1
  have hTG : TrG L.ne tr := hP.2.2.2.2.2
  have hH : HdC I hd := hC.2.1
  have hR : TrC I tr := hC.2.2.1
  exact Op.mk' hP hP hM _ ⟨I, J, c_account hT I J L hL hC.1.1 x w, hC, fun _ _ => rfl, fun _ _ => rfl⟩ (fun I J hM => ⟨I, J, m_account hT I J L hL hM.1.1 x w, hM, fun _ _ => rfl, fun _ _ => rfl⟩)
theorem op_entry (hT : TopAt N S R) (h : Both I J) (x w : Int32) : Op N SL S R I J (fX8_entry 3 x w) (fX9_entry 759 x w) := by
  obtain ⟨⟨L, tn, tl, nw, et, hd, tr⟩, hP, hC, hM⟩ := h
  have hL : LInv L := hP.1
  have hnd : ¬ Due L := hP.2.1
  have hne : L.ne ≤ 200 := hL.1.2.1
  have hn : ∀ k, nw k < 256 := hP.2.2.1
  have hlg : ∀ k, k < tn → (tl k).1 < 256 ∧ (tl k).2 ≠ 0 ∧ (tl k).2 ≠ -9223372036854775808 := hP.2.2.2.1
  have hHG : HdG hd L.ne := hP.2.2.2.2.1
  have hTG : TrG L.ne tr := hP.2.2.2.2.2
  have hH : HdC I hd := hC.2.1
  have hR : TrC I tr := hC.2.2.1
  exact Op.mk' hP hP hM _ ⟨I, J, c_entry hT I J L hL hC.1.1 x w, hC, fun _ _ => rfl, fun _ _ => rfl⟩ (fun I J hM => ⟨I, J, m_entry hT I J L hL hM.1.1 hM.1.2.1 x w, hM, fun _ _ => rfl, fun _ _ => rfl⟩)
theorem op_data (hT : TopAt N S R) (h : Both I J) (x : Int32) : Op N SL S R I J (fX8_data 3 x) (fX9_data 759 x) := by
  obtain ⟨⟨L, tn, tl, nw, et, hd, tr⟩, hP, hC, hM⟩ := h
  have hL : LInv L := hP.1
  have hnd : ¬ Due L := hP.2.1
  have hne : L.ne ≤ 200 := hL.1.2.1
  have hn : ∀ k, nw k < 256 := hP.2.2.1
  have hlg : ∀ k, k < tn → (tl k).1 < 256 ∧ (tl k).2 ≠ 0 ∧ (tl k).2 ≠ -9223372036854775808 := hP.2.2.2.1
  have hHG : HdG hd L.ne := hP.2.2.2.2.1
  have hTG : TrG L.ne tr := hP.2.2.2.2.2
  have hH : HdC I hd := hC.2.1
  have hR : TrC I tr := hC.2.2.1
  exact Op.mk' hP hP hM _ ⟨I, J, c_data hT I J L hL nw hn hC.1.2.2.2 x, hC, fun _ _ => rfl, fun _ _ => rfl⟩ (fun I J hM => ⟨I, J, m_data hT I J L hL nw hM.1.2.1 hM.1.2.2.1 x, hM, fun _ _ => rfl, fun _ _ => rfl⟩)
theorem op_count (hT : TopAt N S R) (h : Both I J) (w : Int32) : Op N SL S R I J (fX8_count 3 w) (fX9_count 759 w) := by
  obtain ⟨⟨L, tn, tl, nw, et, hd, tr⟩, hP, hC, hM⟩ := h
  have hL : LInv L := hP.1
  have hnd : ¬ Due L := hP.2.1
  have hne : L.ne ≤ 200 := hL.1.2.1
  have hn : ∀ k, nw k < 256 := hP.2.2.1
  have hlg : ∀ k, k < tn → (tl k).1 < 256 ∧ (tl k).2 ≠ 0 ∧ (tl k).2 ≠ -9223372036854775808 := hP.2.2.2.1
  have hHG : HdG hd L.ne := hP.2.2.2.2.1
  have hTG : TrG L.ne tr := hP.2.2.2.2.2
  have hH : HdC I hd := hC.2.1
  have hR : TrC I tr := hC.2.2.1
  exact Op.mk' hP hP hM _ ⟨I, J, c_count hT I J L tn tl nw et hL hn hC.1 w, hC, fun _ _ => rfl, fun _ _ => rfl⟩ (fun I J hM => ⟨I, J, m_count hT I J L tn tl nw et hL hn hM.1 w, hM, fun _ _ => rfl, fun _ _ => rfl⟩)
theorem op_step (hT : TopAt N S R) (h : Both I J) (x y : Int32) : Op N SL S R I J (fX8_step 3 x y) (fX9_step_ 759 x y) := by
  obtain ⟨⟨L, tn, tl, nw, et, hd, tr⟩, hP, hC, hM⟩ := h
  have hL : LInv L := hP.1
  have hnd : ¬ Due L := hP.2.1
  have hne : L.ne ≤ 200 := hL.1.2.1
  have hn : ∀ k, nw k < 256 := hP.2.2.1
  have hlg : ∀ k, k < tn → (tl k).1 < 256 ∧ (tl k).2 ≠ 0 ∧ (tl k).2 ≠ -9223372036854775808 := hP.2.2.2.1
  have hHG : HdG hd L.ne := hP.2.2.2.2.1
  have hTG : TrG L.ne tr := hP.2.2.2.2.2
  have hH : HdC I hd := hC.2.1
  have hR : TrC I tr := hC.2.2.1
  exact Op.mk' hP hP hM _ ⟨I, J, c_step hT I J L.ne hne tr hR hTG x y, hC, fun _ _ => rfl, fun _ _ => rfl⟩ (fun I J hM => ⟨I, J, m_step hT I J L.ne hne tr hM.2.2.1 hTG x y, hM, fun _ _ => rfl, fun _ _ => rfl⟩)
theorem op_hash (hT : TopAt N S R) (h : Both I J) (w x y : Int32) : Op N SL S R I J (fX8_hash 3 w x y) (fX9_hash 759 w x y) := by
  obtain ⟨⟨L, tn, tl, nw, et, hd, tr⟩, hP, hC, hM⟩ := h
  have hL : LInv L := hP.1
  have hnd : ¬ Due L := hP.2.1
  have hne : L.ne ≤ 200 := hL.1.2.1
  have hn : ∀ k, nw k < 256 := hP.2.2.1
  have hlg : ∀ k, k < tn → (tl k).1 < 256 ∧ (tl k).2 ≠ 0 ∧ (tl k).2 ≠ -9223372036854775808 := hP.2.2.2.1
  have hHG : HdG hd L.ne := hP.2.2.2.2.1
  have hTG : TrG L.ne tr := hP.2.2.2.2.2
  have hH : HdC I hd := hC.2.1
  have hR : TrC I tr := hC.2.2.1
  refine Op.mk' hP hP hM (aHash L nw w x y) ?_ ?_
  · obtain ⟨I', a1, a2, a3⟩ := c_hash (SL := SL) hT I J L tn tl nw et hL hn hC.1 w x y
    exact ⟨I', J, a1, ⟨a2, c_tails hne hTG hC.2 (fun c q1 q2 => a3 c (by omega)) (fun _ _ _ => rfl)⟩, fun c q => a3 c (by omega), fun _ _ => rfl⟩
  · intro I J hM
    obtain ⟨I', a1, a2, a3⟩ := m_hash (SL := SL) hT I J L tn tl nw et hL hM.1 hM.2.2.2 w x y
    have t := m_two hM.2.1 hM.2.2.1 (fun c q1 q2 => a3.1 c (by omega) (by omega)) (fun j q1 q2 => a3.2 j (by omega))
    exact ⟨I', J, a1, ⟨hM.1.cg hL (fun c q1 q2 => a3.1 c (by omega) (by omega)) (fun j q => a3.2 j (by omega)) (fun _ _ _ => rfl), t.1, t.2, a2⟩, fun c q => a3.1 c (by omega) (by omega), fun _ _ => rfl⟩
theorem op_verify (hT : TopAt N S R) (h : Both I J) (x : Int32) : Op N SL S R I J (fX8_verify 3 x) (fX9_verify 759 x) := by
  obtain ⟨⟨L, tn, tl, nw, et, hd, tr⟩, hP, hC, hM⟩ := h
  have hL : LInv L := hP.1
  have hnd : ¬ Due L := hP.2.1
  have hne : L.ne ≤ 200 := hL.1.2.1
  have hn : ∀ k, nw k < 256 := hP.2.2.1
  have hlg : ∀ k, k < tn → (tl k).1 < 256 ∧ (tl k).2 ≠ 0 ∧ (tl k).2 ≠ -9223372036854775808 := hP.2.2.2.1
  have hHG : HdG hd L.ne := hP.2.2.2.2.1
  have hTG : TrG L.ne tr := hP.2.2.2.2.2
  have hH : HdC I hd := hC.2.1
  have hR : TrC I tr := hC.2.2.1
  refine Op.mk' hP hP hM (aVer L nw hd x) ?_ ?_
  · obtain ⟨I', a1, a2, a3⟩ := c_verify (SL := SL) hT I J L tn tl nw et hL hn hC.1 hd hH hHG x
    exact ⟨I', J, a1, ⟨a2, c_tails hne hTG hC.2 (fun c q1 q2 => a3 c (by omega)) (fun _ _ _ => rfl)⟩, fun c q => a3 c (by omega), fun _ _ => rfl⟩
  · intro I J hM
    obtain ⟨I', a1, a2, a3⟩ := m_verify (SL := SL) hT I J L tn tl nw et hL hM.1 hM.2.2.2 hd hM.2.1 hHG x
    have t := m_two hM.2.1 hM.2.2.1 (fun c q1 q2 => a3.1 c (by omega) (by omega)) (fun j q1 q2 => a3.2 j (by omega))
    exact ⟨I', J, a1, ⟨hM.1.cg hL (fun c q1 q2 => a3.1 c (by omega) (by omega)) (fun j q => a3.2 j (by omega)) (fun _ _ _ => rfl), t.1, t.2, a2⟩, fun c q => a3.1 c (by omega) (by omega), fun _ _ => rfl⟩
theorem op_keep (hT : TopAt N S R) (h : Both I J) (x : Int32) : Op N SL S R I J (fX8_keep 3 x) (fX9_keep 759 x) := by
  obtain ⟨⟨L, tn, tl, nw, et, hd, tr⟩, hP, hC, hM⟩ := h
  have hL : LInv L := hP.1
  have hnd : ¬ Due L := hP.2.1
  have hne : L.ne ≤ 200 := hL.1.2.1
  have hn : ∀ k, nw k < 256 := hP.2.2.1
  have hlg : ∀ k, k < tn → (tl k).1 < 256 ∧ (tl k).2 ≠ 0 ∧ (tl k).2 ≠ -9223372036854775808 := hP.2.2.2.1
  have hHG : HdG hd L.ne := hP.2.2.2.2.1
  have hTG : TrG L.ne tr := hP.2.2.2.2.2
  have hH : HdC I hd := hC.2.1
  have hR : TrC I tr := hC.2.2.1
  refine Op.mk' (s' := (L, tn, tl, nw, et, hdKeep L nw hd x, tr)) hP ⟨hL, hnd, hn, hlg, hdKeep_G hHG, hTG⟩ hM (aKeep L x) ?_ ?_
  · obtain ⟨I', a1, a2, a3, a4⟩ := c_keep (SL := SL) hT I J L tn tl nw et hL hn hC.1 hd hH x
    exact ⟨I', J, a1, ⟨a2, a3, hR.ft (fun c q1 q2 => a4 c (by omega)) (st9 hne hTG), hC.2.2.2.congr (fun c q1 q2 => a4 c (by omega)) (fun _ _ _ _ => rfl)⟩, fun c q => a4 c (by omega), fun _ _ => rfl⟩
  · intro I J hM
    obtain ⟨I', a1, a2, a4, a3⟩ := m_keep (SL := SL) hT I J L tn tl nw et hL hM.1 hM.2.2.2 hd hM.2.1 x
    exact ⟨I', J, a1, ⟨hM.1.cg hL (fun c q1 q2 => a3.1 c (by omega) (by omega) (by omega)) (fun j q => a3.2 j (by omega)) (fun _ _ _ => rfl), a4, TrM.sfr hM.2.2.1 (fun j q1 q2 => a3.2 j (by omega)) (a3.1 801 (by omega) (by omega) (by omega)), a2⟩, fun c q => a3.1 c (by omega) (by omega) (by omega), fun _ _ => rfl⟩
theorem op_path (hT : TopAt N S R) (h : Both I J) (x y : Int32) : Op N SL S R I J (fX8_path 3 x y) (fX9_path 759 x y) := by
  obtain ⟨⟨L, tn, tl, nw, et, hd, tr⟩, hP, hC, hM⟩ := h
  have hL : LInv L := hP.1
  have hnd : ¬ Due L := hP.2.1
  have hne : L.ne ≤ 200 := hL.1.2.1
  have hn : ∀ k, nw k < 256 := hP.2.2.1
  have hlg : ∀ k, k < tn → (tl k).1 < 256 ∧ (tl k).2 ≠ 0 ∧ (tl k).2 ≠ -9223372036854775808 := hP.2.2.2.1
  have hHG : HdG hd L.ne := hP.2.2.2.2.1
  have hTG : TrG L.ne tr := hP.2.2.2.2.2
  have hH : HdC I hd := hC.2.1
  have hR : TrC I tr := hC.2.2.1
  refine Op.mk' (s' := (L, tn, tl, nw, et, hd, (aTrail L nw false tr x y).2)) hP ⟨hL, hnd, hn, hlg, hHG, aTrail_G hne hTG⟩ hM (aTrail L nw false tr x y).1 ?_ ?_
  · obtain ⟨I', a1, a2, a3, a4⟩ := c_trail (SL := SL) hT I J L tn tl nw et hL hn hC.1 tr hR false x y
    rw [if_neg (by decide)] at a1
    exact ⟨I', J, a1, ⟨a2, c_hd hH (fun c q1 q2 => a4 c (by omega) (by omega)), a3, hC.2.2.2.congr (fun c q1 q2 => a4 c (by omega) (by omega)) (fun _ _ _ _ => rfl)⟩, fun c q => a4 c (by omega) (by omega), fun _ _ => rfl⟩
  · intro I J hM
    obtain ⟨I', a1, a2, a4, a3⟩ := m_trail (SL := SL) hT I J L tn tl nw et hL hM.1 hM.2.2.2 tr hM.2.2.1 false x y
    rw [if_neg (by decide)] at a1
    have hh : HdM I' hd := fun k hk => by
      rw [a3.1 797 (by omega) (by omega) (by omega), a3.1 798 (by omega) (by omega) (by omega), a3.1 799 (by omega) (by omega) (by omega), a3.1 800 (by omega) (by omega) (by omega)]
      exact hM.2.1 k hk
    exact ⟨I', J, a1, ⟨hM.1.cg hL (fun c q1 q2 => a3.1 c (by omega) (by omega) (by omega)) (fun j q => a3.2 j (by omega) (by omega)) (fun _ _ _ => rfl), hh, a4, a2⟩, fun c q => a3.1 c (by omega) (by omega) (by omega), fun _ _ => rfl⟩
theorem op_proof (hT : TopAt N S R) (h : Both I J) (x y : Int32) : Op N SL S R I J (fX8_proof 3 x y) (fX9_proof 759 x y) := by
  obtain ⟨⟨L, tn, tl, nw, et, hd, tr⟩, hP, hC, hM⟩ := h
  have hL : LInv L := hP.1
  have hnd : ¬ Due L := hP.2.1
  have hne : L.ne ≤ 200 := hL.1.2.1
  have hn : ∀ k, nw k < 256 := hP.2.2.1
  have hlg : ∀ k, k < tn → (tl k).1 < 256 ∧ (tl k).2 ≠ 0 ∧ (tl k).2 ≠ -9223372036854775808 := hP.2.2.2.1
  have hHG : HdG hd L.ne := hP.2.2.2.2.1
  have hTG : TrG L.ne tr := hP.2.2.2.2.2
  have hH : HdC I hd := hC.2.1
  have hR : TrC I tr := hC.2.2.1
  refine Op.mk' (s' := (L, tn, tl, nw, et, hd, (aTrail L nw true tr x y).2)) hP ⟨hL, hnd, hn, hlg, hHG, aTrail_G hne hTG⟩ hM (aTrail L nw true tr x y).1 ?_ ?_
  · obtain ⟨I', a1, a2, a3, a4⟩ := c_trail (SL := SL) hT I J L tn tl nw et hL hn hC.1 tr hR true x y
    rw [if_pos rfl] at a1
    exact ⟨I', J, a1, ⟨a2, c_hd hH (fun c q1 q2 => a4 c (by omega) (by omega)), a3, hC.2.2.2.congr (fun c q1 q2 => a4 c (by omega) (by omega)) (fun _ _ _ _ => rfl)⟩, fun c q => a4 c (by omega) (by omega), fun _ _ => rfl⟩
  · intro I J hM
    obtain ⟨I', a1, a2, a4, a3⟩ := m_trail (SL := SL) hT I J L tn tl nw et hL hM.1 hM.2.2.2 tr hM.2.2.1 true x y
    rw [if_pos rfl] at a1
    have hh : HdM I' hd := fun k hk => by
      rw [a3.1 797 (by omega) (by omega) (by omega), a3.1 798 (by omega) (by omega) (by omega), a3.1 799 (by omega) (by omega) (by omega), a3.1 800 (by omega) (by omega) (by omega)]
      exact hM.2.1 k hk
    exact ⟨I', J, a1, ⟨hM.1.cg hL (fun c q1 q2 => a3.1 c (by omega) (by omega) (by omega)) (fun j q => a3.2 j (by omega) (by omega)) (fun _ _ _ => rfl), hh, a4, a2⟩, fun c q => a3.1 c (by omega) (by omega) (by omega), fun _ _ => rfl⟩
theorem op_leads (hT : TopAt N S R) (h : Both I J) (x y : Int32) : Op N SL S R I J (fX8_leads 3 x y) (fX9_leads 759 x y) := by
  obtain ⟨⟨L, tn, tl, nw, et, hd, tr⟩, hP, hC, hM⟩ := h
  have hL : LInv L := hP.1
  have hnd : ¬ Due L := hP.2.1
  have hne : L.ne ≤ 200 := hL.1.2.1
  have hn : ∀ k, nw k < 256 := hP.2.2.1
  have hlg : ∀ k, k < tn → (tl k).1 < 256 ∧ (tl k).2 ≠ 0 ∧ (tl k).2 ≠ -9223372036854775808 := hP.2.2.2.1
  have hHG : HdG hd L.ne := hP.2.2.2.2.1
  have hTG : TrG L.ne tr := hP.2.2.2.2.2
  have hH : HdC I hd := hC.2.1
  have hR : TrC I tr := hC.2.2.1
  refine Op.mk' hP hP hM (aLeads L nw hd tr x y) ?_ ?_
  · obtain ⟨I', a1, a2, a3⟩ := c_leads (SL := SL) hT I J L tn tl nw et hL hn hC.1 hd hH hHG tr hR hTG x y
    exact ⟨I', J, a1, ⟨a2, c_hd hH (fun c q1 q2 => a3 c (by omega) (by omega)), hR.ft (fun c q1 q2 => a3 c (by omega) (by omega)) (st9 hne hTG), hC.2.2.2.congr (fun c q1 q2 => a3 c (by omega) (by omega)) (fun _ _ _ _ => rfl)⟩, fun c q => a3 c (by omega) (by omega), fun _ _ => rfl⟩
  · intro I J hM
    obtain ⟨I', a1, a2, a3⟩ := m_leads (SL := SL) hT I J L tn tl nw et hL hM.1 hM.2.2.2 hd hM.2.1 hHG tr hM.2.2.1 hTG x y
    have t := m_two hM.2.1 hM.2.2.1 (fun c q1 q2 => a3.1 c (by omega) (by omega) (by omega)) (fun j q1 q2 => a3.2 j (by omega) (by omega))
    exact ⟨I', J, a1, ⟨hM.1.cg hL (fun c q1 q2 => a3.1 c (by omega) (by omega) (by omega)) (fun j q => a3.2 j (by omega) (by omega)) (fun _ _ _ => rfl), t.1, t.2, a2⟩, fun c q => a3.1 c (by omega) (by omega) (by omega), fun _ _ => rfl⟩
theorem EtM.le {m ne : Nat} {et : Nat → Option Nat} (h : EtM m I ne et) : ∀ i n, et i = some n → n ≤ 50 := by
  obtain ⟨t, a, v, h1, h2, h3, h4⟩ := h
  intro i n e
  obtain ⟨k, k1, k2⟩ := h4 i (by rw [e]; exact fun q => (by cases q))
  obtain ⟨_, _, _, x3, x4, _⟩ := h2 k k1
  rw [k2, e] at x3
  cases x3
  exact x4
theorem op_audit (hT : TopAt N S R) (h : Both I J) : Op N SL S R I J (fX8_audit 3) (fX9_audit 759) := by
  obtain ⟨⟨L, tn, tl, nw, et, hd, tr⟩, hP, hC, hM⟩ := h
  have hL : LInv L := hP.1
  have hnd : ¬ Due L := hP.2.1
  have hne : L.ne ≤ 200 := hL.1.2.1
  have hn : ∀ k, nw k < 256 := hP.2.2.1
  have hlg : ∀ k, k < tn → (tl k).1 < 256 ∧ (tl k).2 ≠ 0 ∧ (tl k).2 ≠ -9223372036854775808 := hP.2.2.2.1
  have hHG : HdG hd L.ne := hP.2.2.2.2.1
  have hTG : TrG L.ne tr := hP.2.2.2.2.2
  have hH : HdC I hd := hC.2.1
  have hR : TrC I tr := hC.2.2.1
  refine Op.mk' hP hP hM (aAud L nw et) ?_ ?_
  · obtain ⟨I', J', a1, a2, a3, a4⟩ := c_audit (SL := SL) hT I J L tn tl nw et hL hn hC.1 hM.1.2.2.2.2.le hC.2.2.2
    exact ⟨I', J', a1, ⟨CA.cg hne hC.1 (fun c q => a3 c (by omega)) (fun c q => a4 c (by omega)), c_hd hH (fun c q1 q2 => a3 c (by omega)), hR.ft (fun c q1 q2 => a3 c (by omega)) (st9 hne hTG), a2⟩, fun c q => a3 c (by omega), fun c q => a4 c (by omega)⟩
  · intro I J hM
    obtain ⟨I', J', a1, a2, a3⟩ := m_audit (SL := SL) hT I J L tn tl nw et hL hn hM.1
    have fI : ∀ c j, ¬ Aw 759 c j → I' c j = I c j := a3.1
    have fJ : ∀ c j, ¬ Aw 759 c j → J' c j = J c j := a3.2
    unfold Aw Own Hf at fI fJ
    exact ⟨I', J', a1, ⟨a2, m_tails hM.2 (fun c q1 q2 => funext fun j => fI c j (by omega)) (fI 759 42 (by omega)) (fun j q1 q2 => fI 759 j (by omega))⟩, fun c q => funext fun j => fI c j (by omega), fun c q => funext fun j => fJ c j (by omega)⟩
end Calls
