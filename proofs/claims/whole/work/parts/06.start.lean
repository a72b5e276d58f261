def FIRSTl : List Int32 := [1779033703, -1150833019, 1013904242, -1521486534, 1359893119, -1694144372, 528734635, 1541459225]
def ROUNDl : List Int32 := [1116352408, 1899447441, -1245643825, -373957723, 961987163, 1508970993, -1841331548, -1424204075, -670586216, 310598401, 607225278, 1426881987, 1925078388, -2132889090, -1680079193, -1046744716, -459576895, -272742522, 264347078, 604807628, 770255983, 1249150122, 1555081692, 1996064986, -1740746414, -1473132947, -1341970488, -1084653625, -958395405, -710438585, 113926993, 338241895, 666307205, 773529912, 1294757372, 1396182291, 1695183700, 1986661051, -2117940946, -1838011259, -1564481375, -1474664885, -1035236496, -949202525, -778901479, -694614492, -200395387, 275423344, 430227734, 506948616, 659060556, 883997877, 958139571, 1322822218, 1537002063, 1747873779, 1955562222, 2024104815, -2067236844, -1933114872, -1866530822, -1538233109, -1090935817, -965641998]
/-- the memory at the law's start: the two static rows, and the script -/
def M00 (L : Nat) (xs : Nat → Int32) : Mem := (3, 0, fun c => if c = 0 then .inl (.int, 8) else if c = 1 then .inl (.int, 64) else .inl (.int, L), fun _ _ => none, fun c i => if c = 0 then FIRSTl.getD i 0 else if c = 1 then ROUNDl.getD i 0 else xs i, fun _ _ => 0)
set_option maxRecDepth 100000 in
theorem st_first : ∀ j, j < 8 → Cond.eq (.elem (.static "ChainBooks$Sha" "FIRST" "[I") (.int (Int32.ofNat j))) (.int (FIRSTl.getD j 0)) ∈ flatC (Jvm.Cond.and given_1 narrow_1) := by decide +kernel
set_option maxRecDepth 100000 in
theorem st_round : ∀ j, j < 64 → Cond.eq (.elem (.static "ChainBooks$Sha" "ROUND" "[I") (.int (Int32.ofNat j))) (.int (ROUNDl.getD j 0)) ∈ flatC (Jvm.Cond.and given_1 narrow_1) := by decide +kernel
theorem arr_of {args : Array Value} {s : State} {ty : FieldType} (h : (Cond.arrayClass ty).before args s = true) : ∃ cA : ClassId, ArrOfT s cA ty ∧ s.vm.findClass ("[" ++ ty.toString) = some cA := by
  obtain ⟨cA, kA, comp, h1, h2, h3⟩ := Cond.arrayClass_spec h
  first
  | exact ⟨cA, fun n z => ⟨fun k h => (by cases h), kA, h2, comp, h3⟩, h1⟩
  | exact ⟨cA, fun n z => ⟨fun k h => (by cases h), kA, by assumption, comp, by assumption⟩, by assumption⟩
set_option maxHeartbeats 4000000 in
set_option maxRecDepth 100000 in
/-- THE LAW OUT OF THE PURE CLAIM -/
theorem start_of (hpure : ∀ (L : Nat) (xs : Nat → Int32), L ≤ 3584 → ∃ Me : Mem, fL_law 2 (M00 L xs) = some (1, Me) ∧ Me.1 ≤ 600003 ∧ Me.2.1 ≤ 7302250) {p : Program} {e : Env} {s : State} {m : MethodId} {below : List Frame} {meth : Method} {c : Code} (l : Launch) {b L : Nat} {xs : Nat → Int32} (hL : L ≤ 3584) (C0 : lw_At p s m meth c b L xs) : W p l e room_1 s m #[Value.ref b] below meth c s.heap [] 0 0 (lw_Z below #[Value.ref b] s) (entryFrame m ([Value.ref b] : List Value).toArray 4) := by
  obtain ⟨hx, hb, hr, hml, hown, hts, hX, hbl, hlocks, hgv⟩ := id C0
  have hs := flat_of_before _ hgv
  obtain ⟨c0, iS0, hKn0⟩ := u_known (C := RX0) (T := TX0) (N := 2) (n := 2) hts (fun w h => (List.mem_filter.mp (inX0 w h)).1) (hts _ (tn2 (List.mem_of_getElem? (i := 43) rfl)))
  obtain ⟨c1, iS1, hKn1⟩ := u_known (C := RX1) (T := TX1) (N := 2) (n := 2) hts (fun w h => (List.mem_filter.mp (inX1 w h)).1) (hts _ (tn1 (List.mem_of_getElem? (i := 28) rfl)))
  obtain ⟨c2, iS2, hKn2⟩ := u_known (C := RX2) (T := TX2) (N := 3) (n := 3) hts (fun w h => (List.mem_filter.mp (inX2 w h)).1) (hts _ (tn1 (List.mem_of_getElem? (i := 202) rfl)))
  obtain ⟨c3, iS3, hKn3⟩ := u_known (C := RX3) (T := TX3) (N := 18) (n := 18) hts (fun w h => (List.mem_filter.mp (inX3 w h)).1) (hts _ (tn1 (List.mem_of_getElem? (i := 22) rfl)))
  obtain ⟨c4, iS4, hKn4⟩ := u_known (C := RX4) (T := TX4) (N := 3) (n := 3) hts (fun w h => (List.mem_filter.mp (inX4 w h)).1) (hts _ (tn1 (List.mem_of_getElem? (i := 46) rfl)))
  obtain ⟨c5, iS5, hKn5⟩ := u_known (C := RX5) (T := TX5) (N := 8) (n := 8) hts (fun w h => (List.mem_filter.mp (inX5 w h)).1) (hts _ (tn1 (List.mem_of_getElem? (i := 145) rfl)))
  obtain ⟨c6, iS6, hKn6⟩ := u_known (C := RX6) (T := TX6) (N := 4) (n := 4) hts (fun w h => (List.mem_filter.mp (inX6 w h)).1) (hts _ (tn1 (List.mem_of_getElem? (i := 151) rfl)))
  obtain ⟨c7, iS7, hKn7⟩ := u_known (C := RX7) (T := TX7) (N := 15) (n := 15) hts (fun w h => (List.mem_filter.mp (inX7 w h)).1) (hts _ (tn1 (List.mem_of_getElem? (i := 222) rfl)))
  obtain ⟨c8, iS8, hKn8⟩ := u_known (C := RX8) (T := TX8) (N := 8) (n := 8) hts (fun w h => (List.mem_filter.mp (inX8 w h)).1) (hts _ (tn1 (List.mem_of_getElem? (i := 14) rfl)))
  obtain ⟨c9, iS9, hKn9⟩ := u_known (C := RX9) (T := TX9) (N := 67) (n := 67) hts (fun w h => (List.mem_filter.mp (inX9 w h)).1) (hts _ (tn3 (List.mem_of_getElem? (i := 238) rfl)))
  obtain ⟨dC, dI, hKc⟩ : ∃ (dC : Nat → ClassId) (dI : Nat → Nat → Nat), ∀ (k : Nat) (q : vw_C), vwCl[k]? = some q → u_Kn s q.1 q.2.1 q.2.2 (dC k) (dI k) := by
    refine ⟨fun k => [c0, c1, c2, c3, c4, c5, c6, c7, c8, c9].getD k c0, fun k => [iS0, iS1, iS2, iS3, iS4, iS5, iS6, iS7, iS8, iS9].getD k iS0, ?_⟩
    intro k q hq
    match k, hq with
    | 0, hq => cases hq; exact hKn0
    | 1, hq => cases hq; exact hKn1
    | 2, hq => cases hq; exact hKn2
    | 3, hq => cases hq; exact hKn3
    | 4, hq => cases hq; exact hKn4
    | 5, hq => cases hq; exact hKn5
    | 6, hq => cases hq; exact hKn6
    | 7, hq => cases hq; exact hKn7
    | 8, hq => cases hq; exact hKn8
    | 9, hq => cases hq; exact hKn9
    | k + 10, hq => simp [vwCl] at hq
  obtain ⟨aI, aI1, aI2⟩ := arr_of (hts _ (tn1 (List.mem_of_getElem? (i := 44) rfl)))
  obtain ⟨aB, aB1, aB2⟩ := arr_of (hts _ (tn1 (List.mem_of_getElem? (i := 43) rfl)))
  obtain ⟨aZ, aZ1, aZ2⟩ := arr_of (hts _ (tn1 (List.mem_of_getElem? (i := 199) rfl)))
  obtain ⟨aJ, aJ1, aJ2⟩ := arr_of (hts _ (tn1 (List.mem_of_getElem? (i := 42) rfl)))
  have hAOA : AOA s := (hts _ (tn1 (List.mem_of_getElem? (i := 170) rfl)))
  have hAOH : va_AO "ChainBooks$Head" s := (hts _ (tn1 (List.mem_of_getElem? (i := 201) rfl)))
  obtain ⟨g1, aG, gk, g2, g3, g4, g5⟩ := Cond.arrayOver_specA hAOA
  obtain ⟨o1, aO, ok, o2, o9, o3, o4, o5⟩ := Cond.arrayOver_spec hAOH
  have hA : ∀ a : Nat, a < s.heap.size → ¬ (fun q : Nat => s.heap.size ≤ q) a := fun a h => Nat.not_le.mpr h
  obtain ⟨tF, tF1, tF2⟩ := va_Tof (tm := .static "ChainBooks$Sha" "FIRST" "[I") (ty := .int) (N := 8) (f := fun j => .int (FIRSTl.getD j 0)) (A := fun q : Nat => s.heap.size ≤ q) (by decide) (hs _ (by decide +kernel)) (va_eqt (hs (.eq (.length (.static "ChainBooks$Sha" "FIRST" "[I")) (.int 8)) (by decide +kernel))) (fun j hj => va_eqt (hs _ (st_first j hj))) hA
  obtain ⟨tR, tR1, tR2⟩ := va_Tof (tm := .static "ChainBooks$Sha" "ROUND" "[I") (ty := .int) (N := 64) (f := fun j => .int (ROUNDl.getD j 0)) (A := fun q : Nat => s.heap.size ≤ q) (by decide) (hs _ (by decide +kernel)) (va_eqt (hs (.eq (.length (.static "ChainBooks$Sha" "ROUND" "[I")) (.int 64)) (by decide +kernel))) (fun j hj => va_eqt (hs _ (st_round j hj))) hA
  have zF := va_Zref (C := "ChainBooks$Sha") (n := "FIRST") (d := "[I") (A := fun q : Nat => s.heap.size ≤ q) (hts _ (tn3 (List.mem_of_getElem? (i := 73) rfl))) (hts _ (tn1 (List.mem_of_getElem? (i := 6) rfl))) tF1 hA
  have zR := va_Zref (C := "ChainBooks$Sha") (n := "ROUND") (d := "[I") (A := fun q : Nat => s.heap.size ≤ q) (hts _ (tn3 (List.mem_of_getElem? (i := 86) rfl))) (hts _ (tn1 (List.mem_of_getElem? (i := 6) rfl))) tR1 hA
  obtain ⟨cF, cF1, cF2, cF3, cF4, cF5, cF6, -⟩ := tF2
  obtain ⟨cR, cR1, cR2, cR3, cR4, cR5, cR6, -⟩ := tR2
  obtain ⟨cX, cX1, cX2, cX3, cX4, cX5⟩ := hX
  have ltF : tF < s.heap.size := (Array.getElem?_eq_some_iff.mp cF1).1
  have ltR : tR < s.heap.size := (Array.getElem?_eq_some_iff.mp cR1).1
  obtain ⟨cid, hi1, hi2, hi3, hi4, hi5, hi6⟩ : ∃ cid : FieldType → ClassId, cid .int = aI ∧ cid .byte = aB ∧ cid .boolean = aZ ∧ cid .long = aJ ∧ cid (.array .int) = aG ∧ cid (.object "ChainBooks$Head") = aO := ⟨fun t => match t with | .int => aI | .byte => aB | .boolean => aZ | .long => aJ | .array _ => aG | _ => aO, rfl, rfl, rfl, rfl, rfl, rfl⟩
  obtain ⟨sa, sa0, sa1, sa2⟩ : ∃ sa : Nat → Nat, sa 0 = tF ∧ sa 1 = tR ∧ sa 2 = b := ⟨fun k => if k = 0 then tF else if k = 1 then tR else b, rfl, rfl, rfl⟩
  have hns : nS = 3 := rfl
  obtain ⟨G, hG⟩ : ∃ G : Gx, G = ((dC, dI), cid, s.heap.size, sa) := ⟨_, rfl⟩
  have gs : ∀ c, c < nS → sa c < s.heap.size := fun c hc => by
    rcases (show c = 0 ∨ c = 1 ∨ c = 2 by omega) with rfl | rfl | rfl
    · rw [sa0]; exact ltF
    · rw [sa1]; exact ltR
    · rw [sa2]; exact hbl
  have gcell : ∀ c, c < nS → ∃ cell : Cell, s.heap[sa c]? = some cell ∧ s.isArrayOf cell .int := fun c hc => by
    rcases (show c = 0 ∨ c = 1 ∨ c = 2 by omega) with rfl | rfl | rfl
    · rw [sa0]; exact ⟨cF, cF1, cF2⟩
    · rw [sa1]; exact ⟨cR, cR1, cR2⟩
    · rw [sa2]; exact ⟨cX, cX1, cX2⟩
  have hKn : Kn G s := by
    subst hG
    refine ⟨⟨hKc, fun k q hq => ?_⟩, gs, Nat.le_refl _, fun j C n d hj => ?_, fun q hq => ?_, hAOH, hAOA, fun c hc cell hq => ?_⟩
    · match k, hq with
      | 0, hq => cases hq; exact ⟨by show ArrOfT s (cid .int) .int; rw [hi1]; exact aI1, by show s.vm.findClass _ = some (cid .int); rw [hi1]; exact aI2⟩
      | 1, hq => cases hq; exact ⟨by show ArrOfT s (cid .byte) .byte; rw [hi2]; exact aB1, by show s.vm.findClass _ = some (cid .byte); rw [hi2]; exact aB2⟩
      | 2, hq => cases hq; exact ⟨by show ArrOfT s (cid .boolean) .boolean; rw [hi3]; exact aZ1, by show s.vm.findClass _ = some (cid .boolean); rw [hi3]; exact aZ2⟩
      | 3, hq => cases hq; exact ⟨by show ArrOfT s (cid .long) .long; rw [hi4]; exact aJ1, by show s.vm.findClass _ = some (cid .long); rw [hi4]; exact aJ2⟩
      | 4, hq => cases hq; exact ⟨by show ArrOfT s (cid (.array .int)) (.array .int); rw [hi5]; exact fun n z => ⟨fun k h => (by cases h), gk, g3, g1, g4⟩, by show s.vm.findClass _ = some (cid (.array .int)); rw [hi5]; exact g5⟩
      | 5, hq => cases hq; exact ⟨by show ArrOfT s (cid (.object "ChainBooks$Head")) _; rw [hi6]; exact fun n z => ⟨fun k h => (by cases h), ok, o3, o1, o4⟩, ⟨ok, o1, by show s.vm.classes[cid (.object "ChainBooks$Head")]? = _; rw [hi6]; exact o3, o4, o2, by show _ = some (cid (.object "ChainBooks$Head")); rw [hi6]; exact o5⟩⟩
      | k + 6, hq => simp [tysG, aTys] at hq
    · match j, hj with
      | 0, hj => cases hj; show va_Z _ _ _ (.ref (sa 0)) _ s s.heap; rw [sa0]; exact zF
      | 1, hj => cases hj; show va_Z _ _ _ (.ref (sa 1)) _ s s.heap; rw [sa1]; exact zR
      | j + 2, hj => simp [sTab] at hj
    · exact va_Nw.of rfl (hts _ (lwN_in q hq))
    · obtain ⟨cell', h1, h2⟩ := gcell c hc
      have : cell = cell' := Option.some.inj (hq.symm.trans h1)
      rw [this]; exact h2
  have a0 : adr G 0 = tF := by subst hG; exact sa0
  have a1 : adr G 1 = tR := by subst hG; exact sa1
  have a2 : adr G 2 = b := by subst hG; exact sa2
  have hHold : Hold G (M00 L xs) s.heap := by
    refine ⟨Nat.le_refl 3, by subst hG; show s.heap.size = s.heap.size + (3 - nS); rw [hns]; rfl, fun c h1 h2 => absurd h2 (by show ¬ c < 3; omega), fun c hc => ?_⟩
    rcases (show c = 0 ∨ c = 1 ∨ c = 2 by omega) with rfl | rfl | rfl
    · rw [a0]; exact ⟨8, cF, rfl, cF1, cF3, ⟨cF4, cF5⟩, cF6⟩
    · rw [a1]; exact ⟨64, cR, rfl, cR1, cR3, ⟨cR4, cR5⟩, cR6⟩
    · rw [a2]; exact ⟨L, cX, rfl, cX1, cX3, ⟨Nat.le_of_eq cX4.symm, by rw [cX4]⟩, cX5⟩
  obtain ⟨Me, hf, b1, b2⟩ := hpure L xs hL
  have q := (jL_law G l 2 (M00 L xs) 1 Me hf).2 (p, l, e, room_1, s, m, #[Value.ref b], below, meth, c) (M00 L xs) rfl ⟨hx, hb, hml, hown, fun w hw => hts w (List.mem_filter.mp hw).1, hlocks, hr, fun h => absurd h (by decide), hKn⟩ (Nat.le_of_ble_eq_true rfl) (Nat.le_of_ble_eq_true rfl) (Nat.le_refl _) (Nat.le_refl _) (by show Me.1 - 3 ≤ 600000; omega) (by show Me.2.1 - 0 ≤ 7302250; omega) s.heap [] _ hHold va_S.rf (by rw [a2]; exact lv_entry [Value.ref b] (n := 4) (Nat.le_of_ble_eq_true rfl))
  rw [lg_entry_eq]
  intro T hT X
  obtain ⟨t, h1, h2⟩ := q T hT X
  exact ⟨t, h1, h2 ⟨rfl, by subst hG; rfl, by rw [a2]⟩⟩
