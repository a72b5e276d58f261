section CoreD
variable {G : Gx} {l : Launch} {cc : ByteArray} {nL : Nat} {own : String} {ret : Option FieldType} {nm : String} {fr lc : Nat} {α : Type} {Q : Cx → Mem → α → Mem → State → Prop} {M M' : Mem} {pc pc' : Nat} {lv lv' : List (Nat × Value)} {st st' : List Value}

theorem J_iald {k : Int32 → Option (α × Mem)} {c : Nat} {i : Int32} (hdg : decode cc pc = .ok (.iaload, 1)) (k1 : J G l cc nL own ret nm fr lc Q (pc + 1) lv (.int (mI M c i.toNatClampNeg) :: st) M (k (mI M c i.toNatClampNeg))) : J G l cc nL own ret nm fr lc Q pc lv (.int i :: .ref (adr G c) :: st) M (rI M .int c i k) := by
  unfold rI
  refine J_ite (fun h => ?_) (fun _ => J_none)
  obtain ⟨hc, n, e, hi⟩ := okA_spec h
  refine J_stepH (fun x A H _ _ _ _ _ hH hS _ w => ?_) k1
  rcases Nat.lt_or_ge c nS with q | q
  · obtain ⟨n', cell, g1, g2, g3, g4, g5⟩ := hH.2.2.2 c q
    have en : n' = n := by rw [e] at g1; cases g1; rfl
    subst en
    have hlt : i.toNatClampNeg < n' := Nat.not_le.mp fun z => hi (Or.inr z)
    have ea : adr G c = G.2.2.2 c := by unfold adr; rw [if_pos q]
    have hK := A.2.2.2.2.2.2.2.2
    have hb : ¬ rA G (adr G c) := by rw [ea]; exact Nat.not_le.mpr (hK.2.1 c q)
    have hbs : adr G c < (xs x).heap.size := by rw [ea]; exact Nat.lt_of_lt_of_le (hK.2.1 c q) hK.2.2.1
    have g6 : (xs x).heap[G.2.2.2 c]? = some cell := by rw [← ea, ← hS.2.1 _ hbs hb]; exact g2
    exact W.iald A.1 A.2.1 g2 (hK.2.2.2.2.2.2.2 c q cell g6) g3 (fun z => hi (z.elim Or.inl (fun z => Or.inr (Nat.le_trans g4.1 z)))) (g5 _ hlt) rfl rfl hdg w
  · exact va_iald A.1 A.2.1 A.2.2.2.2.2.2.2.2.1 (va_P1 (hold_arr hH q hc e)) 0 0 rfl rfl hi hdg w
theorem J_bald {k : Int32 → Option (α × Mem)} {c : Nat} {i : Int32} (hdg : decode cc pc = .ok (.baload, 1)) (k1 : J G l cc nL own ret nm fr lc Q (pc + 1) lv (.int (mI M c i.toNatClampNeg) :: st) M (k (mI M c i.toNatClampNeg))) : J G l cc nL own ret nm fr lc Q pc lv (.int i :: .ref (adr G c) :: st) M (rI M .byte c i k) := by
  unfold rI
  refine J_ite (fun h => ?_) (fun _ => J_none)
  obtain ⟨hc, n, e, hi⟩ := okA_spec h
  exact J_stepH (fun x A H _ _ _ _ _ hH _ _ w => va_bald A.1 A.2.1 A.2.2.2.2.2.2.2.2.1 (va_P1 (hold_arr hH (hold_ns hH e (by decide)) hc e)) 0 1 rfl rfl hi hdg w) k1
theorem J_zald {k : Int32 → Option (α × Mem)} {c : Nat} {i : Int32} (hdg : decode cc pc = .ok (.baload, 1)) (k1 : J G l cc nL own ret nm fr lc Q (pc + 1) lv (.int (mI M c i.toNatClampNeg) :: st) M (k (mI M c i.toNatClampNeg))) : J G l cc nL own ret nm fr lc Q pc lv (.int i :: .ref (adr G c) :: st) M (rI M .boolean c i k) := by
  unfold rI
  refine J_ite (fun h => ?_) (fun _ => J_none)
  obtain ⟨hc, n, e, hi⟩ := okA_spec h
  exact J_stepH (fun x A H _ _ _ _ _ hH _ _ w => va_zald A.1 A.2.1 A.2.2.2.2.2.2.2.2.1 (va_P1 (hold_arr hH (hold_ns hH e (by decide)) hc e)) 0 2 rfl rfl hi hdg w) k1
theorem J_lald {k : Int64 → Option (α × Mem)} {c : Nat} {i : Int32} (hdg : decode cc pc = .ok (.laload, 1)) (k1 : J G l cc nL own ret nm fr lc Q (pc + 1) lv (.long (mJ M c i.toNatClampNeg) :: st) M (k (mJ M c i.toNatClampNeg))) : J G l cc nL own ret nm fr lc Q pc lv (.int i :: .ref (adr G c) :: st) M (rJ M c i k) := by
  unfold rJ
  refine J_ite (fun h => ?_) (fun _ => J_none)
  obtain ⟨hc, n, e, hi⟩ := okA_spec h
  exact J_stepH (fun x A H _ _ _ _ _ hH _ _ w => va_lald A.1 A.2.1 A.2.2.2.2.2.2.2.2.1 (va_P1 (hold_arr hH (hold_ns hH e (by decide)) hc e)) 0 3 rfl rfl hi hdg w) k1
theorem J_aaldI {k : Nat → Option (α × Mem)} {c : Nat} {i : Int32} (hdg : decode cc pc = .ok (.aaload, 1)) (k1 : ∀ a, J G l cc nL own ret nm fr lc Q (pc + 1) lv (.ref (adr G a) :: st) M (k a)) : J G l cc nL own ret nm fr lc Q pc lv (.int i :: .ref (adr G c) :: st) M (rR M (.array .int) c i k) := by
  unfold rR
  refine J_ite (fun h => ?_) (fun _ => J_none)
  obtain ⟨hc, n, e, hi⟩ := okA_spec h
  have hlt : i.toNatClampNeg < n := Nat.not_le.mp fun q => hi (Or.inr q)
  cases hm : mR M c i.toNatClampNeg with
  | none => exact J_none
  | some a =>
    refine J_stepH (fun x A H _ _ _ _ _ hH _ _ w => ?_) (k1 a)
    have hP := va_P1 (hold_arr hH (hold_ns hH e (by decide)) hc e)
    refine W.aald (v := .ref (adr G a)) (ty := (.array .int)) A.1 A.2.1 (hP 0 _ rfl) ((A.2.2.2.2.2.2.2.2.1.2 4 _ rfl).1 n (fun j => va_rf ((mR M c j).map (adr G)))) rfl (fun q => by cases q) (by show ¬ (i < 0 ∨ (arrV _ _ _).slots.size ≤ _); rw [arrV_size]; exact hi) (by show (arrV _ _ _).slots[_]? = _; rw [arrV_read _ _ hlt]; show some (va_rf (Option.map (adr G) (mR M c i.toNatClampNeg))) = _; rw [hm]; rfl) rfl rfl hdg w
theorem J_aaldO {k : Nat → Option (α × Mem)} {c : Nat} {i : Int32} (hdg : decode cc pc = .ok (.aaload, 1)) (k1 : ∀ a, J G l cc nL own ret nm fr lc Q (pc + 1) lv (.ref (adr G a) :: st) M (k a)) : J G l cc nL own ret nm fr lc Q pc lv (.int i :: .ref (adr G c) :: st) M (rR M (.object "ChainBooks$Head") c i k) := by
  unfold rR
  refine J_ite (fun h => ?_) (fun _ => J_none)
  obtain ⟨hc, n, e, hi⟩ := okA_spec h
  have hlt : i.toNatClampNeg < n := Nat.not_le.mp fun q => hi (Or.inr q)
  cases hm : mR M c i.toNatClampNeg with
  | none => exact J_none
  | some a =>
    refine J_stepH (fun x A H _ _ _ _ _ hH _ _ w => ?_) (k1 a)
    have hP := va_P1 (hold_arr hH (hold_ns hH e (by decide)) hc e)
    refine W.aald (v := .ref (adr G a)) (ty := (.object "ChainBooks$Head")) A.1 A.2.1 (hP 0 _ rfl) ((A.2.2.2.2.2.2.2.2.1.2 5 _ rfl).1 n (fun j => va_rf ((mR M c j).map (adr G)))) rfl (fun q => by cases q) (by show ¬ (i < 0 ∨ (arrV _ _ _).slots.size ≤ _); rw [arrV_size]; exact hi) (by show (arrV _ _ _).slots[_]? = _; rw [arrV_read _ _ hlt]; show some (va_rf (Option.map (adr G) (mR M c i.toNatClampNeg))) = _; rw [hm]; rfl) rfl rfl hdg w
theorem J_iast {k : Mem → Option (α × Mem)} {c : Nat} {i v : Int32} (hdg : decode cc pc = .ok (.iastore, 1)) (k1 : J G l cc nL own ret nm fr lc Q (pc + 1) lv st (stI M c i.toNatClampNeg (vp_nar .int v)) (k (stI M c i.toNatClampNeg (vp_nar .int v)))) : J G l cc nL own ret nm fr lc Q pc lv (.int v :: .int i :: .ref (adr G c) :: st) M (wI M .int c i v k) := by
  unfold wI
  refine J_ite (fun h => ?_) (fun _ => J_none)
  obtain ⟨hc, n, e, hi⟩ := okA_spec h.1
  refine J_stepS (M' := stI M c i.toNatClampNeg (vp_nar .int v)) rfl rfl (fun x A H locs ls _ _ _ hH hS _ w => ?_) k1
  have ha := hold_arr hH h.2 hc e
  refine W.iast A.1 A.2.1 ha ((A.2.2.2.2.2.2.2.2.1.2 0 _ rfl).1 n (fun j => .int (mI M c j))) (fun q => by cases q) (by show ¬ (i < 0 ∨ (arrV _ _ _).slots.size ≤ _); rw [arrV_size]; exact hi) rfl rfl hdg fun H1 e1 z oq => ?_
  refine w H1 _ (hold_set hH A.2.2.2.2.2.2.2.2.2.1 h.2 rfl z oq (fun c' q => ⟨rfl, rfl, u2_ne q, rfl⟩) ?_) (hS.put z oq (adr_rA h.2))
  have hcn : cont G (stI M c i.toNatClampNeg (vp_nar .int v)) c = .inl (G.2.1 .int, n, .inl (upd (mI M c) i.toNatClampNeg (vp_nar .int v))) := by
    unfold cont
    rw [show mSh (stI M c i.toNatClampNeg (vp_nar .int v)) c = .inl (.int, n) from e]
    show (Sum.inl (G.2.1 .int, n, .inl (u2 (mI M) c i.toNatClampNeg (vp_nar .int v) c)) : va_E) = _
    rw [u2_eqI]
  rw [hcn]
  show H1[adr G c]? = some (vp_cell _ _)
  rw [e1]
  show some (Cell.setSlot (vp_cell _ (n, .inl (mI M c))) _ _) = _
  rw [vp_cell_i, vp_cell_i, arrV_store]
  congr 2
  funext q
  by_cases hq : q = i.toNatClampNeg
  · subst hq
    simp [updV, upd, vp_nar, narrow]
  · simp [updV, upd, hq]
theorem J_bast {k : Mem → Option (α × Mem)} {c : Nat} {i v : Int32} (hdg : decode cc pc = .ok (.bastore, 1)) (k1 : J G l cc nL own ret nm fr lc Q (pc + 1) lv st (stI M c i.toNatClampNeg (vp_nar .byte v)) (k (stI M c i.toNatClampNeg (vp_nar .byte v)))) : J G l cc nL own ret nm fr lc Q pc lv (.int v :: .int i :: .ref (adr G c) :: st) M (wI M .byte c i v k) := by
  unfold wI
  refine J_ite (fun h => ?_) (fun _ => J_none)
  obtain ⟨hc, n, e, hi⟩ := okA_spec h.1
  refine J_stepS (M' := stI M c i.toNatClampNeg (vp_nar .byte v)) rfl rfl (fun x A H locs ls _ _ _ hH hS _ w => ?_) k1
  have ha := hold_arr hH h.2 hc e
  refine W.bast A.1 A.2.1 ha ((A.2.2.2.2.2.2.2.2.1.2 1 _ rfl).1 n (fun j => .int (mI M c j))) (fun q => by cases q) (by show ¬ (i < 0 ∨ (arrV _ _ _).slots.size ≤ _); rw [arrV_size]; exact hi) rfl rfl hdg fun H1 e1 z oq => ?_
  refine w H1 _ (hold_set hH A.2.2.2.2.2.2.2.2.2.1 h.2 rfl z oq (fun c' q => ⟨rfl, rfl, u2_ne q, rfl⟩) ?_) (hS.put z oq (adr_rA h.2))
  have hcn : cont G (stI M c i.toNatClampNeg (vp_nar .byte v)) c = .inl (G.2.1 .byte, n, .inl (upd (mI M c) i.toNatClampNeg (vp_nar .byte v))) := by
    unfold cont
    rw [show mSh (stI M c i.toNatClampNeg (vp_nar .byte v)) c = .inl (.byte, n) from e]
    show (Sum.inl (G.2.1 .byte, n, .inl (u2 (mI M) c i.toNatClampNeg (vp_nar .byte v) c)) : va_E) = _
    rw [u2_eqI]
  rw [hcn]
  show H1[adr G c]? = some (vp_cell _ _)
  rw [e1]
  show some (Cell.setSlot (vp_cell _ (n, .inl (mI M c))) _ _) = _
  rw [vp_cell_i, vp_cell_i, arrV_store]
  congr 2
  funext q
  by_cases hq : q = i.toNatClampNeg
  · subst hq
    simp [updV, upd, vp_nar, narrow]
  · simp [updV, upd, hq]
theorem J_zast {k : Mem → Option (α × Mem)} {c : Nat} {i v : Int32} (hdg : decode cc pc = .ok (.bastore, 1)) (k1 : J G l cc nL own ret nm fr lc Q (pc + 1) lv st (stI M c i.toNatClampNeg (vp_nar .boolean v)) (k (stI M c i.toNatClampNeg (vp_nar .boolean v)))) : J G l cc nL own ret nm fr lc Q pc lv (.int v :: .int i :: .ref (adr G c) :: st) M (wI M .boolean c i v k) := by
  unfold wI
  refine J_ite (fun h => ?_) (fun _ => J_none)
  obtain ⟨hc, n, e, hi⟩ := okA_spec h.1
  refine J_stepS (M' := stI M c i.toNatClampNeg (vp_nar .boolean v)) rfl rfl (fun x A H locs ls _ _ _ hH hS _ w => ?_) k1
  have ha := hold_arr hH h.2 hc e
  refine W.zast A.1 A.2.1 ha ((A.2.2.2.2.2.2.2.2.1.2 2 _ rfl).1 n (fun j => .int (mI M c j))) (fun q => by cases q) (by show ¬ (i < 0 ∨ (arrV _ _ _).slots.size ≤ _); rw [arrV_size]; exact hi) rfl rfl hdg fun H1 e1 z oq => ?_
  refine w H1 _ (hold_set hH A.2.2.2.2.2.2.2.2.2.1 h.2 rfl z oq (fun c' q => ⟨rfl, rfl, u2_ne q, rfl⟩) ?_) (hS.put z oq (adr_rA h.2))
  have hcn : cont G (stI M c i.toNatClampNeg (vp_nar .boolean v)) c = .inl (G.2.1 .boolean, n, .inl (upd (mI M c) i.toNatClampNeg (vp_nar .boolean v))) := by
    unfold cont
    rw [show mSh (stI M c i.toNatClampNeg (vp_nar .boolean v)) c = .inl (.boolean, n) from e]
    show (Sum.inl (G.2.1 .boolean, n, .inl (u2 (mI M) c i.toNatClampNeg (vp_nar .boolean v) c)) : va_E) = _
    rw [u2_eqI]
  rw [hcn]
  show H1[adr G c]? = some (vp_cell _ _)
  rw [e1]
  show some (Cell.setSlot (vp_cell _ (n, .inl (mI M c))) _ _) = _
  rw [vp_cell_i, vp_cell_i, arrV_store]
  congr 2
  funext q
  by_cases hq : q = i.toNatClampNeg
  · subst hq
    simp [updV, upd, vp_nar, narrow]
  · simp [updV, upd, hq]
theorem J_last {k : Mem → Option (α × Mem)} {c : Nat} {i : Int32} {v : Int64} (hdg : decode cc pc = .ok (.lastore, 1)) (k1 : J G l cc nL own ret nm fr lc Q (pc + 1) lv st (stJ M c i.toNatClampNeg v) (k (stJ M c i.toNatClampNeg v))) : J G l cc nL own ret nm fr lc Q pc lv (.long v :: .int i :: .ref (adr G c) :: st) M (wJ M c i v k) := by
  unfold wJ
  refine J_ite (fun h => ?_) (fun _ => J_none)
  obtain ⟨hc, n, e, hi⟩ := okA_spec h.1
  refine J_stepS (M' := stJ M c i.toNatClampNeg v) rfl rfl (fun x A H locs ls _ _ _ hH hS _ w => ?_) k1
  have ha := hold_arr hH h.2 hc e
  refine W.last A.1 A.2.1 ha ((A.2.2.2.2.2.2.2.2.1.2 3 _ rfl).1 n (fun j => .long (mJ M c j))) (fun q => by cases q) (by show ¬ (i < 0 ∨ (arrV _ _ _).slots.size ≤ _); rw [arrV_size]; exact hi) rfl rfl hdg fun H1 e1 z oq => ?_
  refine w H1 _ (hold_set hH A.2.2.2.2.2.2.2.2.2.1 h.2 rfl z oq (fun c' q => ⟨rfl, rfl, rfl, (u2_ne q)⟩) ?_) (hS.put z oq (adr_rA h.2))
  have hcn : cont G (stJ M c i.toNatClampNeg v) c = .inl (G.2.1 .long, n, .inr (.inl (vp_updL (mJ M c) i.toNatClampNeg v))) := by
    unfold cont
    rw [show mSh (stJ M c i.toNatClampNeg v) c = .inl (.long, n) from e]
    show (Sum.inl (G.2.1 .long, n, .inr (.inl (u2 (mJ M) c i.toNatClampNeg v c))) : va_E) = _
    rw [u2_eqJ]
  rw [hcn]
  show H1[adr G c]? = some (vp_cell _ _)
  rw [e1]
  show some (Cell.setSlot (vp_cell _ (n, .inr (.inl (mJ M c)))) _ _) = _
  rw [vp_cell_l, vp_cell_l, arrV_store]
  congr 2
  funext q
  by_cases hq : q = i.toNatClampNeg
  · subst hq
    simp [updV, vp_updL]
  · simp [updV, vp_updL, hq]
end CoreD
