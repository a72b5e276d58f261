-- P2: the constructors: what stands at the law's start
def a0 : Ab := (3, 0, [(0, .inl (.int, 8)), (1, .inl (.int, 64))], [], [], [])
def a1 : Ab := yM a0 (.inr 8) 8
def a2 : Ab := ((yX8_init 3 a1).getD ((), a1)).2
def a3 : Ab := yM a2 (.inr 9) 67
def a4 : Ab := ((yX9_init 759 a3).getD ((), a3)).2
def aS : List (Nat × Shp) := a4.2.2.1
def aR : List (Nat × Nat × Nat) := a4.2.2.2.1
def aI : List (Nat × Nat × Int32) := a4.2.2.2.2.1
def aZ : List Nat := a4.2.2.2.2.2
set_option maxRecDepth 100000 in
theorem a2_some : (yX8_init 3 a1).isSome = true := by decide +kernel
set_option maxRecDepth 100000 in
theorem a2_1 : a2.1 = 759 := by decide +kernel
set_option maxRecDepth 100000 in
theorem a4_some : (yX9_init 759 a3).isSome = true := by decide +kernel
set_option maxRecDepth 100000 in
theorem a4_1 : a4.1 = 807 ∧ a4.2.1 ≤ 200000 := by decide +kernel
theorem of_some {o : Option (Unit × Ab)} {d : Unit × Ab} (h : o.isSome = true) : o = some ((), (o.getD d).2) := by
  cases o with
  | none => cases h
  | some y => rfl
theorem a0_iv : Iv a0 := ⟨Nat.le_refl _, fun q hq => (by cases hq), fun q hq => (by cases hq)⟩
/-- the law begins with the logs' memory -/
theorem law_begin (L : Nat) (xs : Nat → Int32) : fL_law 2 (M00 L xs) = fL_law_18 FU 2 3 759 0 (Rp L (mI (M00 L xs)) a4) := by
  have e0 : M00 L xs = Rp L (mI (M00 L xs)) a0 := by
    have eS : mSh (M00 L xs) = fun c => (lk1 a0.2.2.1 c).getD (.inl (.int, L)) := by
      funext c
      show (if c = 0 then _ else if c = 1 then _ else _) = (lk1 [(0, .inl (.int, 8)), (1, .inl (.int, 64))] c).getD (.inl (.int, L))
      rw [lk1_c, lk1_c]
      by_cases q : c = 0
      · rw [if_pos q, if_pos q]; rfl
      · rw [if_neg q, if_neg q]
        by_cases w : c = 1
        · rw [if_pos w, if_pos w]; rfl
        · rw [if_neg w, if_neg w]; rfl
    show (3, 0, mSh (M00 L xs), _, _, _) = _
    rw [eS]
    rfl
  have h2 : yX8_init 3 a1 = some ((), a2) := of_some a2_some
  have h4 : yX9_init 759 a3 = some ((), a4) := of_some a4_some
  have i1 : Iv a1 := yM_iv a0_iv _ _
  obtain ⟨g1, g2⟩ := sfX8_init (L := L) (I0 := mI (M00 L xs)) i1 3 _ h2
  obtain ⟨g3, g4⟩ := sfX9_init (L := L) (I0 := mI (M00 L xs)) (yM_iv (s := a2) g2 (.inr 9) 67) 759 _ h4
  generalize hI : mI (M00 L xs) = I0 at e0 g1 g3 ⊢
  rw [e0]
  unfold fL_law nwO
  rw [nwM_rp a0_iv]
  show bd (fX8_init 3 (Rp L I0 a1)) _ = _
  rw [g1, bd_some]
  show bd (fX9_init a2.1 (nwM (Rp L I0 a2) (.inr 9) 67)) (fun _u8 M7 => fL_law_18 FU 2 3 a2.1 0 M7) = _
  rw [nwM_rp g2, a2_1]
  show bd (fX9_init 759 (Rp L I0 a3)) _ = _
  rw [g3, bd_some]
theorem sS {L : Nat} {I0 : Nat → Nat → Int32} {c : Nat} {v : Shp} (h : lk1 aS c = some v) : mSh (Rp L I0 a4) c = v := by
  show (lk1 aS c).getD _ = v
  rw [h]
  rfl
set_option maxRecDepth 100000 in
theorem rows_1 : (∀ i, i < 201 → lkR aR (25 + 7) i = some (25 + 8 + i) ∧ lk1 aS (25 + 8 + i) = some (.inl (.int, 8))) := by decide +kernel
set_option maxRecDepth 100000 in
theorem rows_2 : (∀ i, i < 456 → lkR aR (25 + 209) i = some (25 + 210 + i) ∧ lk1 aS (25 + 210 + i) = some (.inl (.int, 8))) := by decide +kernel
set_option maxRecDepth 100000 in
theorem rows_3 : (∀ k, k < 8 → lkR aR 692 k = some (693 + 3 * k) ∧ lk1 aS (693 + 3 * k) = some (.inr 2) ∧ lkR aR (693 + 3 * k) 0 = some (694 + 3 * k) ∧ lkR aR (693 + 3 * k) 1 = some (695 + 3 * k) ∧ lk1 aS (694 + 3 * k) = some (.inl (.int, 8)) ∧ lk1 aS (695 + 3 * k) = some (.inl (.int, 8))) ∧ ∀ i, i < 9 → lkR aR 718 i = some (719 + i) ∧ lk1 aS (719 + i) = some (.inl (.int, 8)) := by decide +kernel
set_option maxRecDepth 100000 in
theorem rows_4 : (∀ q ∈ mdR, lkR aR 759 q.1 = some (759 + q.2)) ∧ ∀ q ∈ mdS, lk1 aS (759 + q.1) = some (.inl (q.2.1, q.2.2)) := by decide +kernel
section Begin
variable {L : Nat} {I0 : Nat → Nat → Int32}
theorem ob_a {c ci : Nat} (h : lk1 aS c = some (.inr ci)) (h1 : c < 807) (h2 : 3 ≤ c) : Ob 807 (mSh (Rp L I0 a4)) c ci := ⟨h1, h2, sS h⟩
theorem led_a (b : Nat) (h : b + 16 < 807 ∧ 3 ≤ b ∧ (lk1 aS b = some (.inr 3) ∧ lk1 aS (b + 12) = some (.inr 1) ∧ lk1 aS (b + 12 + 1) = some (.inl (.byte, 82)) ∧ lk1 aS (b + 14) = some (.inr 4) ∧ lk1 aS (b + 14 + 1) = some (.inl (.int, 8)) ∧ lk1 aS (b + 14 + 2) = some (.inl (.long, 8))) ∧ (lkR aR (b + 12) 0 = some (b + 12 + 1) ∧ lkR aR (b + 14) 0 = some (b + 14 + 1) ∧ lkR aR (b + 14) 1 = some (b + 14 + 2) ∧ lkR aR b 13 = some (b + 12) ∧ lkR aR b 14 = some (b + 14)) ∧ (lkR aR b 0 = some (b + 1) ∧ lkR aR b 1 = some (b + 2) ∧ lkR aR b 2 = some (b + 3) ∧ lkR aR b 3 = some (b + 4) ∧ lkR aR b 5 = some (b + 5) ∧ lkR aR b 6 = some (b + 6) ∧ lkR aR b 7 = some (b + 7) ∧ lkR aR b 8 = some (b + 8) ∧ lkR aR b 9 = some (b + 9) ∧ lkR aR b 10 = some (b + 10) ∧ lkR aR b 11 = some (b + 11)) ∧ lk1 aS (b + 1) = some (.inl (.long, 40)) ∧ lk1 aS (b + 2) = some (.inl (.long, 40)) ∧ lk1 aS (b + 3) = some (.inl (.long, 40)) ∧ lk1 aS (b + 4) = some (.inl (.long, 40)) ∧ lk1 aS (b + 5) = some (.inl (.byte, 16400)) ∧ lk1 aS (b + 6) = some (.inl (.int, 201)) ∧ lk1 aS (b + 7) = some (.inl (.long, 200)) ∧ lk1 aS (b + 8) = some (.inl (.int, 200)) ∧ lk1 aS (b + 9) = some (.inl (.int, 200)) ∧ lk1 aS (b + 10) = some (.inl (.int, 1600)) ∧ lk1 aS (b + 11) = some (.inl (.long, 1600))) : LedAt 807 (mSh (Rp L I0 a4)) (mR (Rp L I0 a4)) b := by
  obtain ⟨h1, h2, ⟨o1, o2, o3, o4, o5, o6⟩, ⟨p1, p2, p3, p4, p5⟩, hr, hs⟩ := h
  refine ⟨⟨ob_a o1 (by omega) h2, h1, ⟨ob_a o2 (by omega) (by omega), by omega, p1, sS o3⟩, ⟨ob_a o4 (by omega) (by omega), by omega, p2, p3, sS o5, sS o6⟩, p4, p5⟩, hr, ?_⟩
  obtain ⟨s0, s1, s2, s3, s4, s5, s6, s7, s8, s9, s10⟩ := hs
  exact ⟨sS s0, sS s1, sS s2, sS s3, sS s4, sS s5, sS s6, sS s7, sS s8, sS s9, sS s10⟩
set_option maxRecDepth 100000 in
theorem led_4 : LedAt 807 (mSh (Rp L I0 a4)) (mR (Rp L I0 a4)) 4 := led_a 4 (by decide +kernel)
set_option maxRecDepth 100000 in
theorem led_738 : LedAt 807 (mSh (Rp L I0 a4)) (mR (Rp L I0 a4)) 738 := led_a 738 (by decide +kernel)
theorem lgs_a (g : Nat) (h : g + 2 < 807 ∧ 3 ≤ g ∧ lk1 aS g = some (.inr 4) ∧ lk1 aS (g + 1) = some (.inl (.int, 8)) ∧ lk1 aS (g + 2) = some (.inl (.long, 8)) ∧ lkR aR g 0 = some (g + 1) ∧ lkR aR g 1 = some (g + 2)) : LgAt 807 (mSh (Rp L I0 a4)) (mR (Rp L I0 a4)) g := by
  obtain ⟨h1, h2, o1, o2, o3, p1, p2⟩ := h
  exact ⟨ob_a o1 (by omega) h2, h1, p1, p2, sS o2, sS o3⟩
theorem sha_a (g : Nat) (h : g + 3 < 807 ∧ 3 ≤ g ∧ (lk1 aS g = some (.inr 6) ∧ lk1 aS (g + 1) = some (.inl (.byte, 128)) ∧ lk1 aS (g + 2) = some (.inl (.int, 64)) ∧ lk1 aS (g + 3) = some (.inl (.int, 8))) ∧ (lkR aR g 0 = some (g + 1) ∧ lkR aR g 2 = some (g + 2) ∧ lkR aR g 3 = some (g + 3)) ∧ lk1 aS 0 = some (.inl (.int, 8)) ∧ lk1 aS 1 = some (.inl (.int, 64))) : ShaAt 807 (mSh (Rp L I0 a4)) (mR (Rp L I0 a4)) g := by
  obtain ⟨h1, h2, ⟨o1, o2, o3, o4⟩, hr, t1, t2⟩ := h
  exact ⟨ob_a o1 (by omega) h2, h1, hr, ⟨sS o2, sS o3, sS o4⟩, by decide, sS t1, sS t2⟩
set_option maxRecDepth 100000 in
theorem lgs_21 : LgAt 807 (mSh (Rp L I0 a4)) (mR (Rp L I0 a4)) 21 := lgs_a 21 (by decide +kernel)
set_option maxRecDepth 100000 in
theorem lgs_755 : LgAt 807 (mSh (Rp L I0 a4)) (mR (Rp L I0 a4)) 755 := lgs_a 755 (by decide +kernel)
set_option maxRecDepth 100000 in
theorem sha_28 : ShaAt 807 (mSh (Rp L I0 a4)) (mR (Rp L I0 a4)) (25 + 3) := sha_a (25 + 3) (by decide +kernel)
set_option maxRecDepth 100000 in
theorem sha_731 : ShaAt 807 (mSh (Rp L I0 a4)) (mR (Rp L I0 a4)) 731 := sha_a 731 (by decide +kernel)
set_option maxRecDepth 100000 in
theorem rows_5 : (lk1 aS 25 = some (.inr 5) ∧ lk1 aS (25 + 1) = some (.inl (.byte, 16400)) ∧ lk1 aS (25 + 2) = some (.inl (.int, 201)) ∧ lk1 aS (25 + 7) = some (.inl (.array .int, 201)) ∧ lk1 aS (25 + 209) = some (.inl (.array .int, 456)) ∧ lk1 aS (25 + 666) = some (.inl (.boolean, 456))) ∧ (lkR aR 25 0 = some (25 + 1) ∧ lkR aR 25 1 = some (25 + 2) ∧ lkR aR 25 3 = some (25 + 3) ∧ lkR aR 25 4 = some (25 + 7) ∧ lkR aR 25 6 = some (25 + 209) ∧ lkR aR 25 7 = some (25 + 666)) := by decide +kernel
theorem pg_25 : PgAt 807 (mSh (Rp L I0 a4)) (mR (Rp L I0 a4)) 25 := by
  obtain ⟨⟨o1, o2, o3, o4, o5, o6⟩, hr⟩ := rows_5
  exact ⟨⟨ob_a o1 (by decide) (by decide), by decide, sha_28⟩, hr, ⟨sS o2, sS o3, sS o4, sS o5, sS o6⟩, fun i hi => ⟨(rows_1 i hi).1, sS (rows_1 i hi).2⟩, fun i hi => ⟨(rows_2 i hi).1, sS (rows_2 i hi).2⟩⟩
set_option maxRecDepth 100000 in
theorem rows_6 : (lk1 aS 3 = some (.inr 8) ∧ lk1 aS 759 = some (.inr 9) ∧ lk1 aS 717 = some (.inr 7) ∧ lk1 aS 737 = some (.inr 0)) ∧ (lkR aR 3 0 = some 4 ∧ lkR aR 3 1 = some 21 ∧ lkR aR 3 2 = some 24 ∧ lkR aR 3 3 = some 25 ∧ lkR aR 3 4 = some 692 ∧ lkR aR 3 5 = some 717 ∧ lkR aR 3 6 = some 737 ∧ lkR aR 3 7 = some 758) ∧ (lk1 aS 24 = some (.inl (.int, 201)) ∧ lk1 aS 758 = some (.inl (.int, 8)) ∧ lk1 aS 692 = some (.inl (.object "ChainBooks$Head", 8))) ∧ (lkR aR 717 0 = some 718 ∧ lkR aR 717 6 = some 728 ∧ lkR aR 717 7 = some 729 ∧ lkR aR 717 8 = some 730 ∧ lkR aR 717 12 = some 731 ∧ lkR aR 717 13 = some 735 ∧ lkR aR 717 14 = some 736) ∧ (lk1 aS 718 = some (.inl (.array .int, 9)) ∧ lk1 aS 728 = some (.inl (.boolean, 8)) ∧ lk1 aS 729 = some (.inl (.int, 8)) ∧ lk1 aS 730 = some (.inl (.int, 8)) ∧ lk1 aS 735 = some (.inl (.int, 8)) ∧ lk1 aS 736 = some (.inl (.int, 8))) ∧ lkR aR 737 0 = some 738 ∧ lkR aR 737 1 = some 755 := by decide +kernel
theorem top_at : TopAt 807 (mSh (Rp L I0 a4)) (mR (Rp L I0 a4)) := by
  obtain ⟨⟨o1, o2, o3, o4⟩, hr, ⟨s1, s2, s3⟩, ⟨q1, q2, q3, q4, q5, q6, q7⟩, ⟨t1, t2, t3, t4, t5, t6⟩, u1', u2'⟩ := rows_6
  refine ⟨⟨ob_a o1 (by decide) (by decide), by decide, led_4, lgs_21, pg_25, ⟨ob_a o2 (by decide) (by decide), by decide, rows_4.1, fun q hq => sS (rows_4.2 q hq)⟩⟩, hr, ⟨sS s1, sS s2, sS s3⟩, fun k hk => ?_, ⟨⟨ob_a o3 (by decide) (by decide), sha_731, q1, q2, q3, q4, q5, q6, q7⟩, ⟨sS t1, sS t2, sS t3, sS t4, sS t5, sS t6⟩, fun i hi => ⟨(rows_3.2 i hi).1, sS (rows_3.2 i hi).2⟩⟩, ob_a o4 (by decide) (by decide), u1', u2', led_738, lgs_755⟩
  obtain ⟨v1, v2, v3, v4, v5, v6⟩ := rows_3.1 k hk
  exact ⟨v1, ob_a v2 (by omega) (by omega), v3, v4, sS v5, sS v6⟩
end Begin
