-- P2: the constructors: what stands at the law's start
def lg_0 : Ab := (3, 0, [(0, .inl (.int, 8)), (1, .inl (.int, 64))], [], [], [])
def lg_1 : Ab := yM lg_0 (.inr 8) 8
def lg_2 : Ab := ((qX8_init 3 lg_1).getD ((), lg_1)).2
def lg_3 : Ab := yM lg_2 (.inr 9) 67
def lg_4 : Ab := ((qX9_init 759 lg_3).getD ((), lg_3)).2
set_option maxRecDepth 100000 in
theorem lg2_some : (qX8_init 3 lg_1).isSome = true := by decide +kernel
set_option maxRecDepth 100000 in
theorem lg2_1 : lg_2.1 = 759 := by decide +kernel
set_option maxRecDepth 100000 in
theorem lg4_some : (qX9_init 759 lg_3).isSome = true := by decide +kernel
theorem of_some {o : Option (Unit × Ab)} {d : Unit × Ab} (h : o.isSome = true) : o = some ((), (o.getD d).2) := by
  cases o with
  | none => cases h
  | some y => rfl
theorem lg1_eq : lg_1 = yM lg_0 (.inr 8) 8 := by unfold lg_1; rfl
theorem lg3_eq : lg_3 = yM lg_2 (.inr 9) 67 := by unfold lg_3; rfl
theorem lg2_ok : qX8_init 3 lg_1 = some ((), lg_2) := by
  unfold lg_2
  exact of_some (d := ((), lg_1)) lg2_some
theorem lg4_ok : qX9_init 759 lg_3 = some ((), lg_4) := by
  unfold lg_4
  exact of_some (d := ((), lg_3)) lg4_some
theorem lg0_iv : Iv lg_0 := ⟨Nat.le_refl _, fun q hq => (by cases hq), fun q hq => (by cases hq)⟩
theorem begin_of {b1 b2 b3 b4 : Ab} (e1 : b1 = yM lg_0 (.inr 8) 8) (e3 : b3 = yM b2 (.inr 9) 67) (h2 : qX8_init 3 b1 = some ((), b2)) (h4 : qX9_init 759 b3 = some ((), b4)) (hb : b2.1 = 759) (L : Nat) (xs : Nat → Int32) : fL_law 2 (M00 L xs) = fL_law_18 FU 2 3 759 0 (Rp L (mI (M00 L xs)) b4) := by
  have e0 : M00 L xs = Rp L (mI (M00 L xs)) lg_0 := by
    have eS : mSh (M00 L xs) = fun c => (lk1 lg_0.2.2.1 c).getD (.inl (.int, L)) := by
      funext c
      show (if c = 0 then _ else if c = 1 then _ else _) = (lk1 [(0, .inl (.int, 8)), (1, .inl (.int, 64))] c).getD (.inl (.int, L))
      rw [lk1_c, lk1_c]
      by_cases q : c = 0
      · rw [if_pos q, if_pos q]; rfl
      · rw [if_neg q, if_neg q]
        by_cases w : c = 1
        · rw [if_pos w, if_pos w]; rfl
        · rw [if_neg w, if_neg w]; rfl
    show (3, 0, mSh (M00 L xs), _, _, _) = _
    rw [eS]
    rfl
  have i1 : Iv b1 := by rw [e1]; exact yM_iv lg0_iv _ _
  obtain ⟨g1, g2⟩ := sfX8_init (L := L) (I0 := mI (M00 L xs)) i1 3 _ h2
  have g2' : Iv b2 := g2
  have i3 : Iv b3 := by rw [e3]; exact yM_iv g2' _ _
  obtain ⟨g3, g4⟩ := sfX9_init (L := L) (I0 := mI (M00 L xs)) i3 759 _ h4
  generalize hI : mI (M00 L xs) = I0 at e0 g1 g3 ⊢
  rw [e0]
  unfold fL_law nwO
  rw [nwM_rp lg0_iv, ← e1]
  show bd (fX8_init 3 (Rp L I0 b1)) _ = _
  rw [g1, bd_some]
  show bd (fX9_init b2.1 (nwM (Rp L I0 b2) (.inr 9) 67)) (fun _u8 M7 => fL_law_18 FU 2 3 b2.1 0 M7) = _
  rw [nwM_rp g2', hb, ← e3, g3, bd_some]
def expS : List (Nat × Shp) := [(25, .inr 5), (26, .inl (.byte, 16400)), (27, .inl (.int, 201)), (32, .inl (.array .int, 201)), (234, .inl (.array .int, 456)), (691, .inl (.boolean, 456)), (4, .inr 3), (16, .inr 1), (17, .inl (.byte, 82)), (18, .inr 4), (19, .inl (.int, 8)), (20, .inl (.long, 8)), (5, .inl (.long, 40)), (6, .inl (.long, 40)), (7, .inl (.long, 40)), (8, .inl (.long, 40)), (9, .inl (.byte, 16400)), (10, .inl (.int, 201)), (11, .inl (.long, 200)), (12, .inl (.int, 200)), (13, .inl (.int, 200)), (14, .inl (.int, 1600)), (15, .inl (.long, 1600)), (738, .inr 3), (750, .inr 1), (751, .inl (.byte, 82)), (752, .inr 4), (753, .inl (.int, 8)), (754, .inl (.long, 8)), (739, .inl (.long, 40)), (740, .inl (.long, 40)), (741, .inl (.long, 40)), (742, .inl (.long, 40)), (743, .inl (.byte, 16400)), (744, .inl (.int, 201)), (745, .inl (.long, 200)), (746, .inl (.int, 200)), (747, .inl (.int, 200)), (748, .inl (.int, 1600)), (749, .inl (.long, 1600)), (21, .inr 4), (22, .inl (.int, 8)), (23, .inl (.long, 8)), (755, .inr 4), (756, .inl (.int, 8)), (757, .inl (.long, 8)), (28, .inr 6), (29, .inl (.byte, 128)), (30, .inl (.int, 64)), (31, .inl (.int, 8)), (0, .inl (.int, 8)), (1, .inl (.int, 64)), (731, .inr 6), (732, .inl (.byte, 128)), (733, .inl (.int, 64)), (734, .inl (.int, 8)), (3, .inr 8), (759, .inr 9), (24, .inl (.int, 201)), (758, .inl (.int, 8)), (692, .inl (.object "ChainBooks$Head", 8)), (717, .inr 7), (718, .inl (.array .int, 9)), (728, .inl (.boolean, 8)), (729, .inl (.int, 8)), (730, .inl (.int, 8)), (735, .inl (.int, 8)), (736, .inl (.int, 8)), (737, .inr 0)]
def expR : List (Nat × Nat × Nat) := [(25, 0, 26), (25, 1, 27), (25, 3, 28), (25, 4, 32), (25, 6, 234), (25, 7, 691), (16, 0, 17), (18, 0, 19), (18, 1, 20), (4, 13, 16), (4, 14, 18), (4, 0, 5), (4, 1, 6), (4, 2, 7), (4, 3, 8), (4, 5, 9), (4, 6, 10), (4, 7, 11), (4, 8, 12), (4, 9, 13), (4, 10, 14), (4, 11, 15), (750, 0, 751), (752, 0, 753), (752, 1, 754), (738, 13, 750), (738, 14, 752), (738, 0, 739), (738, 1, 740), (738, 2, 741), (738, 3, 742), (738, 5, 743), (738, 6, 744), (738, 7, 745), (738, 8, 746), (738, 9, 747), (738, 10, 748), (738, 11, 749), (21, 0, 22), (21, 1, 23), (755, 0, 756), (755, 1, 757), (28, 0, 29), (28, 2, 30), (28, 3, 31), (731, 0, 732), (731, 2, 733), (731, 3, 734), (3, 0, 4), (3, 1, 21), (3, 2, 24), (3, 3, 25), (3, 4, 692), (3, 5, 717), (3, 6, 737), (3, 7, 758), (717, 0, 718), (717, 6, 728), (717, 7, 729), (717, 8, 730), (717, 12, 731), (717, 13, 735), (717, 14, 736), (737, 0, 738), (737, 1, 755)]
def zCs : List Nat := [4, 4 + 6, 21, 25, 25 + 2, 25 + 8 + 0, 25 + 666, 717, 738, 738 + 6, 759, 759 + 1, 759 + 2, 759 + 3, 759 + 4, 798]
/-- what the logs tell of the places -/
def Lay1 (s : Ab) : Prop := (∀ q ∈ expS, lk1 s.2.2.1 q.1 = some q.2) ∧ (∀ q ∈ expR, lkR s.2.2.2.1 q.1 q.2.1 = some q.2.2) ∧ (∀ i, i < 201 → lkR s.2.2.2.1 (25 + 7) i = some (25 + 8 + i) ∧ lk1 s.2.2.1 (25 + 8 + i) = some (.inl (.int, 8))) ∧ (∀ i, i < 456 → lkR s.2.2.2.1 (25 + 209) i = some (25 + 210 + i) ∧ lk1 s.2.2.1 (25 + 210 + i) = some (.inl (.int, 8))) ∧ (∀ k, k < 8 → lkR s.2.2.2.1 692 k = some (693 + 3 * k)) ∧ (∀ k, k < 8 → lk1 s.2.2.1 (693 + 3 * k) = some (.inr 2)) ∧ (∀ k, k < 8 → lkR s.2.2.2.1 (693 + 3 * k) 0 = some (694 + 3 * k)) ∧ (∀ k, k < 8 → lkR s.2.2.2.1 (693 + 3 * k) 1 = some (695 + 3 * k)) ∧ (∀ k, k < 8 → lk1 s.2.2.1 (694 + 3 * k) = some (.inl (.int, 8))) ∧ (∀ k, k < 8 → lk1 s.2.2.1 (695 + 3 * k) = some (.inl (.int, 8))) ∧ (∀ q ∈ mdR, lkR s.2.2.2.1 759 q.1 = some (759 + q.2)) ∧ (∀ q ∈ mdS, lk1 s.2.2.1 (759 + q.1) = some (.inl (q.2.1, q.2.2))) ∧ (∀ i, i < 9 → lkR s.2.2.2.1 718 i = some (719 + i) ∧ lk1 s.2.2.1 (719 + i) = some (.inl (.int, 8)))
/-- what they tell of the ints -/
def Lay2 (s : Ab) : Prop := (∀ c ∈ zCs, ∀ q ∈ s.2.2.2.2.1, q.1 ≠ c) ∧ (∀ c ∈ zCs, inZ s.2.2.2.2.2 c = true) ∧ (∀ c ∈ [0, 1, 2], ∀ q ∈ s.2.2.2.2.1, q.1 ≠ c) ∧ (∀ c ∈ [0, 1, 2], inZ s.2.2.2.2.2 c = false) ∧ (∀ i, i < 201 → lkI s.2.2.2.2.1 24 i = some (-1)) ∧ (∀ k, k < 8 → lkI s.2.2.2.2.1 (693 + 3 * k) 2 = some (-1)) ∧ (∀ j, j < 64 → lkI s.2.2.2.2.1 790 j = some (K0h j)) ∧ (lk1 s.2.2.1 2 = none)
set_option maxRecDepth 100000 in
theorem ev_hS : ∀ q ∈ expS, lk1 lg_4.2.2.1 q.1 = some q.2 := by decide +kernel
set_option maxRecDepth 100000 in
theorem ev_hR : ∀ q ∈ expR, lkR lg_4.2.2.2.1 q.1 q.2.1 = some q.2.2 := by decide +kernel
set_option maxRecDepth 100000 in
theorem ev_h1 : ∀ i, i < 201 → lkR lg_4.2.2.2.1 (25 + 7) i = some (25 + 8 + i) ∧ lk1 lg_4.2.2.1 (25 + 8 + i) = some (.inl (.int, 8)) := by decide +kernel
set_option maxRecDepth 100000 in
theorem ev_h2 : ∀ i, i < 456 → lkR lg_4.2.2.2.1 (25 + 209) i = some (25 + 210 + i) ∧ lk1 lg_4.2.2.1 (25 + 210 + i) = some (.inl (.int, 8)) := by decide +kernel
set_option maxRecDepth 100000 in
theorem ev_h3a : ∀ k, k < 8 → lkR lg_4.2.2.2.1 692 k = some (693 + 3 * k) := by decide +kernel
set_option maxRecDepth 100000 in
theorem ev_h3b : ∀ k, k < 8 → lk1 lg_4.2.2.1 (693 + 3 * k) = some (.inr 2) := by decide +kernel
set_option maxRecDepth 100000 in
theorem ev_h3c : ∀ k, k < 8 → lkR lg_4.2.2.2.1 (693 + 3 * k) 0 = some (694 + 3 * k) := by decide +kernel
set_option maxRecDepth 100000 in
theorem ev_h3d : ∀ k, k < 8 → lkR lg_4.2.2.2.1 (693 + 3 * k) 1 = some (695 + 3 * k) := by decide +kernel
set_option maxRecDepth 100000 in
theorem ev_h3e : ∀ k, k < 8 → lk1 lg_4.2.2.1 (694 + 3 * k) = some (.inl (.int, 8)) := by decide +kernel
set_option maxRecDepth 100000 in
theorem ev_h3f : ∀ k, k < 8 → lk1 lg_4.2.2.1 (695 + 3 * k) = some (.inl (.int, 8)) := by decide +kernel
set_option maxRecDepth 100000 in
theorem ev_h4 : ∀ q ∈ mdR, lkR lg_4.2.2.2.1 759 q.1 = some (759 + q.2) := by decide +kernel
set_option maxRecDepth 100000 in
theorem ev_h5 : ∀ q ∈ mdS, lk1 lg_4.2.2.1 (759 + q.1) = some (.inl (q.2.1, q.2.2)) := by decide +kernel
set_option maxRecDepth 100000 in
theorem ev_h6 : ∀ i, i < 9 → lkR lg_4.2.2.2.1 718 i = some (719 + i) ∧ lk1 lg_4.2.2.1 (719 + i) = some (.inl (.int, 8)) := by decide +kernel
set_option maxRecDepth 100000 in
theorem ev_hz1 : ∀ c ∈ zCs, ∀ q ∈ lg_4.2.2.2.2.1, q.1 ≠ c := by decide +kernel
set_option maxRecDepth 100000 in
theorem ev_hz2 : ∀ c ∈ zCs, inZ lg_4.2.2.2.2.2 c = true := by decide +kernel
set_option maxRecDepth 100000 in
theorem ev_hn1 : ∀ c ∈ [0, 1, 2], ∀ q ∈ lg_4.2.2.2.2.1, q.1 ≠ c := by decide +kernel
set_option maxRecDepth 100000 in
theorem ev_hn2 : ∀ c ∈ [0, 1, 2], inZ lg_4.2.2.2.2.2 c = false := by decide +kernel
set_option maxRecDepth 100000 in
theorem ev_hv1 : ∀ i, i < 201 → lkI lg_4.2.2.2.2.1 24 i = some (-1) := by decide +kernel
set_option maxRecDepth 100000 in
theorem ev_hv2 : ∀ k, k < 8 → lkI lg_4.2.2.2.2.1 (693 + 3 * k) 2 = some (-1) := by decide +kernel
set_option maxRecDepth 100000 in
theorem ev_hv3 : ∀ j, j < 64 → lkI lg_4.2.2.2.2.1 790 j = some (K0h j) := by decide +kernel
set_option maxRecDepth 100000 in
theorem ev_hv4 : lk1 lg_4.2.2.1 2 = none := by decide +kernel
set_option maxRecDepth 100000 in
theorem ev_n : lg_4.1 = 807 := by decide +kernel
set_option maxRecDepth 100000 in
theorem ev_l : lg_4.2.1 ≤ 200000 := by decide +kernel
theorem law_begin (L : Nat) (xs : Nat → Int32) : ∃ s : Ab, fL_law 2 (M00 L xs) = fL_law_18 FU 2 3 759 0 (Rp L (mI (M00 L xs)) s) ∧ s.1 = 807 ∧ s.2.1 ≤ 200000 ∧ Lay1 s ∧ Lay2 s :=
  ⟨lg_4, begin_of lg1_eq lg3_eq lg2_ok lg4_ok lg2_1 L xs, ev_n, ev_l, ⟨ev_hS, ev_hR, ev_h1, ev_h2, ev_h3a, ev_h3b, ev_h3c, ev_h3d, ev_h3e, ev_h3f, ev_h4, ev_h5, ev_h6⟩, ev_hz1, ev_hz2, ev_hn1, ev_hn2, ev_hv1, ev_hv2, ev_hv3, ev_hv4⟩
section Begin
variable {L : Nat} {I0 : Nat → Nat → Int32} {s : Ab}
theorem sS {c : Nat} {v : Shp} (h : lk1 s.2.2.1 c = some v) : mSh (Rp L I0 s) c = v := by
  show (lk1 s.2.2.1 c).getD _ = v
  rw [h]
  rfl
theorem ob_a {c ci : Nat} (h : lk1 s.2.2.1 c = some (.inr ci)) (h1 : c < 807) (h2 : 3 ≤ c) : Ob 807 (mSh (Rp L I0 s)) c ci := ⟨h1, h2, sS h⟩
set_option maxRecDepth 100000 in
theorem led_4 (hS : ∀ q ∈ expS, lk1 s.2.2.1 q.1 = some q.2) (hR : ∀ q ∈ expR, lkR s.2.2.2.1 q.1 q.2.1 = some q.2.2) : LedAt 807 (mSh (Rp L I0 s)) (mR (Rp L I0 s)) 4 := ⟨⟨(ob_a (hS (4, .inr 3) (List.mem_of_getElem? (i := 6) rfl)) (by decide) (by decide)), (by decide), ⟨(ob_a (hS (16, .inr 1) (List.mem_of_getElem? (i := 7) rfl)) (by decide) (by decide)), (by decide), (hR (16, 0, 17) (List.mem_of_getElem? (i := 6) rfl)), (sS (hS (17, .inl (.byte, 82)) (List.mem_of_getElem? (i := 8) rfl)))⟩, ⟨(ob_a (hS (18, .inr 4) (List.mem_of_getElem? (i := 9) rfl)) (by decide) (by decide)), (by decide), (hR (18, 0, 19) (List.mem_of_getElem? (i := 7) rfl)), (hR (18, 1, 20) (List.mem_of_getElem? (i := 8) rfl)), (sS (hS (19, .inl (.int, 8)) (List.mem_of_getElem? (i := 10) rfl))), (sS (hS (20, .inl (.long, 8)) (List.mem_of_getElem? (i := 11) rfl)))⟩, (hR (4, 13, 16) (List.mem_of_getElem? (i := 9) rfl)), (hR (4, 14, 18) (List.mem_of_getElem? (i := 10) rfl))⟩, ⟨(hR (4, 0, 5) (List.mem_of_getElem? (i := 11) rfl)), (hR (4, 1, 6) (List.mem_of_getElem? (i := 12) rfl)), (hR (4, 2, 7) (List.mem_of_getElem? (i := 13) rfl)), (hR (4, 3, 8) (List.mem_of_getElem? (i := 14) rfl)), (hR (4, 5, 9) (List.mem_of_getElem? (i := 15) rfl)), (hR (4, 6, 10) (List.mem_of_getElem? (i := 16) rfl)), (hR (4, 7, 11) (List.mem_of_getElem? (i := 17) rfl)), (hR (4, 8, 12) (List.mem_of_getElem? (i := 18) rfl)), (hR (4, 9, 13) (List.mem_of_getElem? (i := 19) rfl)), (hR (4, 10, 14) (List.mem_of_getElem? (i := 20) rfl)), (hR (4, 11, 15) (List.mem_of_getElem? (i := 21) rfl))⟩, (sS (hS (5, .inl (.long, 40)) (List.mem_of_getElem? (i := 12) rfl))), (sS (hS (6, .inl (.long, 40)) (List.mem_of_getElem? (i := 13) rfl))), (sS (hS (7, .inl (.long, 40)) (List.mem_of_getElem? (i := 14) rfl))), (sS (hS (8, .inl (.long, 40)) (List.mem_of_getElem? (i := 15) rfl))), (sS (hS (9, .inl (.byte, 16400)) (List.mem_of_getElem? (i := 16) rfl))), (sS (hS (10, .inl (.int, 201)) (List.mem_of_getElem? (i := 17) rfl))), (sS (hS (11, .inl (.long, 200)) (List.mem_of_getElem? (i := 18) rfl))), (sS (hS (12, .inl (.int, 200)) (List.mem_of_getElem? (i := 19) rfl))), (sS (hS (13, .inl (.int, 200)) (List.mem_of_getElem? (i := 20) rfl))), (sS (hS (14, .inl (.int, 1600)) (List.mem_of_getElem? (i := 21) rfl))), (sS (hS (15, .inl (.long, 1600)) (List.mem_of_getElem? (i := 22) rfl)))⟩
set_option maxRecDepth 100000 in
theorem led_738 (hS : ∀ q ∈ expS, lk1 s.2.2.1 q.1 = some q.2) (hR : ∀ q ∈ expR, lkR s.2.2.2.1 q.1 q.2.1 = some q.2.2) : LedAt 807 (mSh (Rp L I0 s)) (mR (Rp L I0 s)) 738 := ⟨⟨(ob_a (hS (738, .inr 3) (List.mem_of_getElem? (i := 23) rfl)) (by decide) (by decide)), (by decide), ⟨(ob_a (hS (750, .inr 1) (List.mem_of_getElem? (i := 24) rfl)) (by decide) (by decide)), (by decide), (hR (750, 0, 751) (List.mem_of_getElem? (i := 22) rfl)), (sS (hS (751, .inl (.byte, 82)) (List.mem_of_getElem? (i := 25) rfl)))⟩, ⟨(ob_a (hS (752, .inr 4) (List.mem_of_getElem? (i := 26) rfl)) (by decide) (by decide)), (by decide), (hR (752, 0, 753) (List.mem_of_getElem? (i := 23) rfl)), (hR (752, 1, 754) (List.mem_of_getElem? (i := 24) rfl)), (sS (hS (753, .inl (.int, 8)) (List.mem_of_getElem? (i := 27) rfl))), (sS (hS (754, .inl (.long, 8)) (List.mem_of_getElem? (i := 28) rfl)))⟩, (hR (738, 13, 750) (List.mem_of_getElem? (i := 25) rfl)), (hR (738, 14, 752) (List.mem_of_getElem? (i := 26) rfl))⟩, ⟨(hR (738, 0, 739) (List.mem_of_getElem? (i := 27) rfl)), (hR (738, 1, 740) (List.mem_of_getElem? (i := 28) rfl)), (hR (738, 2, 741) (List.mem_of_getElem? (i := 29) rfl)), (hR (738, 3, 742) (List.mem_of_getElem? (i := 30) rfl)), (hR (738, 5, 743) (List.mem_of_getElem? (i := 31) rfl)), (hR (738, 6, 744) (List.mem_of_getElem? (i := 32) rfl)), (hR (738, 7, 745) (List.mem_of_getElem? (i := 33) rfl)), (hR (738, 8, 746) (List.mem_of_getElem? (i := 34) rfl)), (hR (738, 9, 747) (List.mem_of_getElem? (i := 35) rfl)), (hR (738, 10, 748) (List.mem_of_getElem? (i := 36) rfl)), (hR (738, 11, 749) (List.mem_of_getElem? (i := 37) rfl))⟩, (sS (hS (739, .inl (.long, 40)) (List.mem_of_getElem? (i := 29) rfl))), (sS (hS (740, .inl (.long, 40)) (List.mem_of_getElem? (i := 30) rfl))), (sS (hS (741, .inl (.long, 40)) (List.mem_of_getElem? (i := 31) rfl))), (sS (hS (742, .inl (.long, 40)) (List.mem_of_getElem? (i := 32) rfl))), (sS (hS (743, .inl (.byte, 16400)) (List.mem_of_getElem? (i := 33) rfl))), (sS (hS (744, .inl (.int, 201)) (List.mem_of_getElem? (i := 34) rfl))), (sS (hS (745, .inl (.long, 200)) (List.mem_of_getElem? (i := 35) rfl))), (sS (hS (746, .inl (.int, 200)) (List.mem_of_getElem? (i := 36) rfl))), (sS (hS (747, .inl (.int, 200)) (List.mem_of_getElem? (i := 37) rfl))), (sS (hS (748, .inl (.int, 1600)) (List.mem_of_getElem? (i := 38) rfl))), (sS (hS (749, .inl (.long, 1600)) (List.mem_of_getElem? (i := 39) rfl)))⟩
set_option maxRecDepth 100000 in
theorem lgs_21 (hS : ∀ q ∈ expS, lk1 s.2.2.1 q.1 = some q.2) (hR : ∀ q ∈ expR, lkR s.2.2.2.1 q.1 q.2.1 = some q.2.2) : LgAt 807 (mSh (Rp L I0 s)) (mR (Rp L I0 s)) 21 := ⟨(ob_a (hS (21, .inr 4) (List.mem_of_getElem? (i := 40) rfl)) (by decide) (by decide)), (by decide), (hR (21, 0, 22) (List.mem_of_getElem? (i := 38) rfl)), (hR (21, 1, 23) (List.mem_of_getElem? (i := 39) rfl)), (sS (hS (22, .inl (.int, 8)) (List.mem_of_getElem? (i := 41) rfl))), (sS (hS (23, .inl (.long, 8)) (List.mem_of_getElem? (i := 42) rfl)))⟩
set_option maxRecDepth 100000 in
theorem lgs_755 (hS : ∀ q ∈ expS, lk1 s.2.2.1 q.1 = some q.2) (hR : ∀ q ∈ expR, lkR s.2.2.2.1 q.1 q.2.1 = some q.2.2) : LgAt 807 (mSh (Rp L I0 s)) (mR (Rp L I0 s)) 755 := ⟨(ob_a (hS (755, .inr 4) (List.mem_of_getElem? (i := 43) rfl)) (by decide) (by decide)), (by decide), (hR (755, 0, 756) (List.mem_of_getElem? (i := 40) rfl)), (hR (755, 1, 757) (List.mem_of_getElem? (i := 41) rfl)), (sS (hS (756, .inl (.int, 8)) (List.mem_of_getElem? (i := 44) rfl))), (sS (hS (757, .inl (.long, 8)) (List.mem_of_getElem? (i := 45) rfl)))⟩
set_option maxRecDepth 100000 in
theorem sha_28 (hS : ∀ q ∈ expS, lk1 s.2.2.1 q.1 = some q.2) (hR : ∀ q ∈ expR, lkR s.2.2.2.1 q.1 q.2.1 = some q.2.2) : ShaAt 807 (mSh (Rp L I0 s)) (mR (Rp L I0 s)) 28 := ⟨(ob_a (hS (28, .inr 6) (List.mem_of_getElem? (i := 46) rfl)) (by decide) (by decide)), (by decide), ⟨(hR (28, 0, 29) (List.mem_of_getElem? (i := 42) rfl)), (hR (28, 2, 30) (List.mem_of_getElem? (i := 43) rfl)), (hR (28, 3, 31) (List.mem_of_getElem? (i := 44) rfl))⟩, ⟨(sS (hS (29, .inl (.byte, 128)) (List.mem_of_getElem? (i := 47) rfl))), (sS (hS (30, .inl (.int, 64)) (List.mem_of_getElem? (i := 48) rfl))), (sS (hS (31, .inl (.int, 8)) (List.mem_of_getElem? (i := 49) rfl)))⟩, (by decide), (sS (hS (0, .inl (.int, 8)) (List.mem_of_getElem? (i := 50) rfl))), (sS (hS (1, .inl (.int, 64)) (List.mem_of_getElem? (i := 51) rfl)))⟩
set_option maxRecDepth 100000 in
theorem sha_731 (hS : ∀ q ∈ expS, lk1 s.2.2.1 q.1 = some q.2) (hR : ∀ q ∈ expR, lkR s.2.2.2.1 q.1 q.2.1 = some q.2.2) : ShaAt 807 (mSh (Rp L I0 s)) (mR (Rp L I0 s)) 731 := ⟨(ob_a (hS (731, .inr 6) (List.mem_of_getElem? (i := 52) rfl)) (by decide) (by decide)), (by decide), ⟨(hR (731, 0, 732) (List.mem_of_getElem? (i := 45) rfl)), (hR (731, 2, 733) (List.mem_of_getElem? (i := 46) rfl)), (hR (731, 3, 734) (List.mem_of_getElem? (i := 47) rfl))⟩, ⟨(sS (hS (732, .inl (.byte, 128)) (List.mem_of_getElem? (i := 53) rfl))), (sS (hS (733, .inl (.int, 64)) (List.mem_of_getElem? (i := 54) rfl))), (sS (hS (734, .inl (.int, 8)) (List.mem_of_getElem? (i := 55) rfl)))⟩, (by decide), (sS (hS (0, .inl (.int, 8)) (List.mem_of_getElem? (i := 50) rfl))), (sS (hS (1, .inl (.int, 64)) (List.mem_of_getElem? (i := 51) rfl)))⟩
set_option maxRecDepth 100000 in
theorem pg_25 (hS : ∀ q ∈ expS, lk1 s.2.2.1 q.1 = some q.2) (hR : ∀ q ∈ expR, lkR s.2.2.2.1 q.1 q.2.1 = some q.2.2) (h1 : ∀ i, i < 201 → lkR s.2.2.2.1 (25 + 7) i = some (25 + 8 + i) ∧ lk1 s.2.2.1 (25 + 8 + i) = some (.inl (.int, 8))) (h2 : ∀ i, i < 456 → lkR s.2.2.2.1 (25 + 209) i = some (25 + 210 + i) ∧ lk1 s.2.2.1 (25 + 210 + i) = some (.inl (.int, 8))) : PgAt 807 (mSh (Rp L I0 s)) (mR (Rp L I0 s)) 25 := ⟨⟨(ob_a (hS (25, .inr 5) (List.mem_of_getElem? (i := 0) rfl)) (by decide) (by decide)), (by decide), sha_28 hS hR⟩, ⟨(hR (25, 0, 26) (List.mem_of_getElem? (i := 0) rfl)), (hR (25, 1, 27) (List.mem_of_getElem? (i := 1) rfl)), (hR (25, 3, 28) (List.mem_of_getElem? (i := 2) rfl)), (hR (25, 4, 32) (List.mem_of_getElem? (i := 3) rfl)), (hR (25, 6, 234) (List.mem_of_getElem? (i := 4) rfl)), (hR (25, 7, 691) (List.mem_of_getElem? (i := 5) rfl))⟩, ⟨(sS (hS (26, .inl (.byte, 16400)) (List.mem_of_getElem? (i := 1) rfl))), (sS (hS (27, .inl (.int, 201)) (List.mem_of_getElem? (i := 2) rfl))), (sS (hS (32, .inl (.array .int, 201)) (List.mem_of_getElem? (i := 3) rfl))), (sS (hS (234, .inl (.array .int, 456)) (List.mem_of_getElem? (i := 4) rfl))), (sS (hS (691, .inl (.boolean, 456)) (List.mem_of_getElem? (i := 5) rfl)))⟩, fun i hi => ⟨(h1 i hi).1, sS (h1 i hi).2⟩, fun i hi => ⟨(h2 i hi).1, sS (h2 i hi).2⟩⟩
set_option maxRecDepth 100000 in
theorem top_of (hS : ∀ q ∈ expS, lk1 s.2.2.1 q.1 = some q.2) (hR : ∀ q ∈ expR, lkR s.2.2.2.1 q.1 q.2.1 = some q.2.2) (h1 : ∀ i, i < 201 → lkR s.2.2.2.1 (25 + 7) i = some (25 + 8 + i) ∧ lk1 s.2.2.1 (25 + 8 + i) = some (.inl (.int, 8))) (h2 : ∀ i, i < 456 → lkR s.2.2.2.1 (25 + 209) i = some (25 + 210 + i) ∧ lk1 s.2.2.1 (25 + 210 + i) = some (.inl (.int, 8))) (h3a : ∀ k, k < 8 → lkR s.2.2.2.1 692 k = some (693 + 3 * k)) (h3b : ∀ k, k < 8 → lk1 s.2.2.1 (693 + 3 * k) = some (.inr 2)) (h3c : ∀ k, k < 8 → lkR s.2.2.2.1 (693 + 3 * k) 0 = some (694 + 3 * k)) (h3d : ∀ k, k < 8 → lkR s.2.2.2.1 (693 + 3 * k) 1 = some (695 + 3 * k)) (h3e : ∀ k, k < 8 → lk1 s.2.2.1 (694 + 3 * k) = some (.inl (.int, 8))) (h3f : ∀ k, k < 8 → lk1 s.2.2.1 (695 + 3 * k) = some (.inl (.int, 8))) (h4 : ∀ q ∈ mdR, lkR s.2.2.2.1 759 q.1 = some (759 + q.2)) (h5 : ∀ q ∈ mdS, lk1 s.2.2.1 (759 + q.1) = some (.inl (q.2.1, q.2.2))) (h6 : ∀ i, i < 9 → lkR s.2.2.2.1 718 i = some (719 + i) ∧ lk1 s.2.2.1 (719 + i) = some (.inl (.int, 8))) : TopAt 807 (mSh (Rp L I0 s)) (mR (Rp L I0 s)) := by
  refine ⟨⟨(ob_a (hS (3, .inr 8) (List.mem_of_getElem? (i := 56) rfl)) (by decide) (by decide)), (by decide), led_4 hS hR, lgs_21 hS hR, pg_25 hS hR h1 h2, ⟨(ob_a (hS (759, .inr 9) (List.mem_of_getElem? (i := 57) rfl)) (by decide) (by decide)), (by decide), h4, fun q hq => sS (h5 q hq)⟩⟩, ⟨(hR (3, 0, 4) (List.mem_of_getElem? (i := 48) rfl)), (hR (3, 1, 21) (List.mem_of_getElem? (i := 49) rfl)), (hR (3, 2, 24) (List.mem_of_getElem? (i := 50) rfl)), (hR (3, 3, 25) (List.mem_of_getElem? (i := 51) rfl)), (hR (3, 4, 692) (List.mem_of_getElem? (i := 52) rfl)), (hR (3, 5, 717) (List.mem_of_getElem? (i := 53) rfl)), (hR (3, 6, 737) (List.mem_of_getElem? (i := 54) rfl)), (hR (3, 7, 758) (List.mem_of_getElem? (i := 55) rfl))⟩, ⟨(sS (hS (24, .inl (.int, 201)) (List.mem_of_getElem? (i := 58) rfl))), (sS (hS (758, .inl (.int, 8)) (List.mem_of_getElem? (i := 59) rfl))), sS (hS (692, .inl (.object "ChainBooks$Head", 8)) (List.mem_of_getElem? (i := 60) rfl))⟩, fun k hk => ⟨h3a k hk, ob_a (h3b k hk) (by omega) (by omega), h3c k hk, h3d k hk, sS (h3e k hk), sS (h3f k hk)⟩, ⟨⟨(ob_a (hS (717, .inr 7) (List.mem_of_getElem? (i := 61) rfl)) (by decide) (by decide)), sha_731 hS hR, (hR (717, 0, 718) (List.mem_of_getElem? (i := 56) rfl)), (hR (717, 6, 728) (List.mem_of_getElem? (i := 57) rfl)), (hR (717, 7, 729) (List.mem_of_getElem? (i := 58) rfl)), (hR (717, 8, 730) (List.mem_of_getElem? (i := 59) rfl)), (hR (717, 12, 731) (List.mem_of_getElem? (i := 60) rfl)), (hR (717, 13, 735) (List.mem_of_getElem? (i := 61) rfl)), (hR (717, 14, 736) (List.mem_of_getElem? (i := 62) rfl))⟩, ⟨(sS (hS (718, .inl (.array .int, 9)) (List.mem_of_getElem? (i := 62) rfl))), (sS (hS (728, .inl (.boolean, 8)) (List.mem_of_getElem? (i := 63) rfl))), (sS (hS (729, .inl (.int, 8)) (List.mem_of_getElem? (i := 64) rfl))), (sS (hS (730, .inl (.int, 8)) (List.mem_of_getElem? (i := 65) rfl))), (sS (hS (735, .inl (.int, 8)) (List.mem_of_getElem? (i := 66) rfl))), (sS (hS (736, .inl (.int, 8)) (List.mem_of_getElem? (i := 67) rfl)))⟩, fun i hi => ⟨(h6 i hi).1, sS (h6 i hi).2⟩⟩, (ob_a (hS (737, .inr 0) (List.mem_of_getElem? (i := 68) rfl)) (by decide) (by decide)), (hR (737, 0, 738) (List.mem_of_getElem? (i := 63) rfl)), (hR (737, 1, 755) (List.mem_of_getElem? (i := 64) rfl)), led_738 hS hR, lgs_755 hS hR⟩
theorem top_at (h : Lay1 s) : TopAt 807 (mSh (Rp L I0 s)) (mR (Rp L I0 s)) := by
  obtain ⟨hS, hR, h1, h2, h3a, h3b, h3c, h3d, h3e, h3f, h4, h5, h6⟩ := h
  exact top_of hS hR h1 h2 h3a h3b h3c h3d h3e h3f h4 h5 h6
end Begin
