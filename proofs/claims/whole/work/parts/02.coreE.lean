theorem lw_good : ∀ w ∈ lwT, goodWord w = true := fun _ h => (List.mem_filter.mp h).2
theorem good_tbl {w : Cond} (h : w ∈ lwT) : GoodIn lwT (w :: lwT) := fun z hz => by
  rcases List.mem_cons.mp hz with rfl | hz
  · exact ⟨h, good_of_word (lw_good _ h)⟩
  · exact ⟨hz, good_of_word (lw_good _ hz)⟩
/-- a field: its class's number, its place, its type, final or not, its names -/
def FdOk (ci f : Nat) (ty : FieldType) (fin : Bool) (cn n d : String) : Prop := ∃ (C : String) (T : u_T) (N : Nat) (ty0 : Nat → FieldType), vwCl[ci]? = some (C, T, N) ∧ (∀ w ∈ u_ws C T N, w ∈ lwT) ∧ f < N ∧ (cfT ci)[f]? = some ty ∧ T f = (cn, n, d, fin) ∧ (∀ k, k < N → parseFieldDescriptor (T k).2.2.1 = some (ty0 k)) ∧ (∀ a, a < N → ∀ b, b < N → a ≠ b → (T a).2.1 ≠ (T b).2.1) ∧ parseFieldDescriptor d = some ty
theorem fval_I {G : Gx} {M : Mem} {c f j : Nat} {v : Int32} {t : FieldType} (hj : j ≠ f) : fval G (stI M c f v) c j t = fval G M c j t := by
  have h : mI (stI M c f v) c j = mI M c j := by
    show u2 (mI M) c f v c j = _
    unfold u2; rw [if_neg (fun q => hj q.2)]
  cases t <;> first | rfl | exact congrArg Value.int h
theorem fval_J {G : Gx} {M : Mem} {c f j : Nat} {v : Int64} {t : FieldType} (hj : j ≠ f) : fval G (stJ M c f v) c j t = fval G M c j t := by
  have h : mJ (stJ M c f v) c j = mJ M c j := by
    show u2 (mJ M) c f v c j = _
    unfold u2; rw [if_neg (fun q => hj q.2)]
  cases t <;> first | rfl | exact congrArg Value.long h
theorem fval_R {G : Gx} {M : Mem} {c f j : Nat} {v : Option Nat} {t : FieldType} (hj : j ≠ f) : fval G (stR M c f v) c j t = fval G M c j t := by
  have h : mR (stR M c f v) c j = mR M c j := by
    show u2 (mR M) c f v c j = _
    unfold u2; rw [if_neg (fun q => hj q.2)]
  cases t <;> first | rfl | exact congrArg (fun z => va_rf (z.map (adr G))) h
section CoreE
variable {G : Gx} {l : Launch} {cc : ByteArray} {nL : Nat} {own : String} {ret : Option FieldType} {nm : String} {fr lc : Nat} {α : Type} {Q : Cx → Mem → α → Mem → State → Prop} {M M' : Mem} {pc pc' : Nat} {lv lv' : List (Nat × Value)} {st st' : List Value}
theorem getf_core {x : Cx} (A : Act G x cc nL own ret nm) {ci f idx c : Nat} {ty : FieldType} {fin : Bool} {cn n d : String} (F : FdOk ci f ty fin cn n d) (hw : Cond.fieldLink own idx cn n d ∈ lwT) (hdg : decode cc pc = .ok (.getfield idx, 3)) (hc : c < M.1) (e : mSh M c = .inr ci) {H : Heap} {locs : List Loc} {ls : Array Slot} {cells slots : Nat} {Q' : State → Prop} (hH : Hold G M H) (w : WW x H locs cells slots Q' (F0 (xm x) (pc + 3) ls (fval G M c f ty :: st))) : WW x H locs cells slots Q' (F0 (xm x) pc ls (.ref (adr G c) :: st)) := by
  obtain ⟨C, T, N, ty0, h1, h2, h3, h4, h5, h6, h7, h8⟩ := F
  refine va_get (D := G.1) (ci := ci) (v := fval G M c f ty) (C := C) (T := T) (N := N) (ref := cn) (index := idx) A.1 A.2.1 A.2.2.2.2.1 h2 A.2.2.2.1 A.2.2.2.2.2.2.2.2.1 (va_P1 (hold_obj hH hc e)) 0 rfl h1 f h3 (by rw [h5]; exact A.2.2.2.2.1 _ hw) (fun z hz => by rw [h5] at hz ⊢; exact hz) ?_ hdg w
  rw [fvals_get, h4, Nat.zero_add]
  rfl
theorem J_getI {k : Int32 → Option (α × Mem)} {ci f idx c : Nat} {ty : FieldType} {fin : Bool} {cn n d : String} (F : FdOk ci f ty fin cn n d) (hw : Cond.fieldLink own idx cn n d ∈ lwT) (hv : fval G M c f ty = .int (mI M c f)) (hdg : decode cc pc = .ok (.getfield idx, 3)) (k1 : J G l cc nL own ret nm fr lc Q (pc + 3) lv (.int (mI M c f) :: st) M (k (mI M c f))) : J G l cc nL own ret nm fr lc Q pc lv (.ref (adr G c) :: st) M (gI M ci f c k) := by
  unfold gI
  refine J_ite (fun h => ?_) (fun _ => J_none)
  obtain ⟨hc, -, e⟩ := okO_spec h
  exact J_stepH (fun x A H _ _ _ _ _ hH _ _ w => getf_core A F hw hdg hc e hH (by rw [hv]; exact w)) k1
theorem J_getJ {k : Int64 → Option (α × Mem)} {ci f idx c : Nat} {ty : FieldType} {fin : Bool} {cn n d : String} (F : FdOk ci f ty fin cn n d) (hw : Cond.fieldLink own idx cn n d ∈ lwT) (hv : fval G M c f ty = .long (mJ M c f)) (hdg : decode cc pc = .ok (.getfield idx, 3)) (k1 : J G l cc nL own ret nm fr lc Q (pc + 3) lv (.long (mJ M c f) :: st) M (k (mJ M c f))) : J G l cc nL own ret nm fr lc Q pc lv (.ref (adr G c) :: st) M (gJ M ci f c k) := by
  unfold gJ
  refine J_ite (fun h => ?_) (fun _ => J_none)
  obtain ⟨hc, -, e⟩ := okO_spec h
  exact J_stepH (fun x A H _ _ _ _ _ hH _ _ w => getf_core A F hw hdg hc e hH (by rw [hv]; exact w)) k1
theorem J_getR {k : Nat → Option (α × Mem)} {ci f idx c : Nat} {ty : FieldType} {fin : Bool} {cn n d : String} (F : FdOk ci f ty fin cn n d) (hw : Cond.fieldLink own idx cn n d ∈ lwT) (hv : fval G M c f ty = va_rf ((mR M c f).map (adr G))) (hdg : decode cc pc = .ok (.getfield idx, 3)) (k1 : ∀ a, J G l cc nL own ret nm fr lc Q (pc + 3) lv (.ref (adr G a) :: st) M (k a)) : J G l cc nL own ret nm fr lc Q pc lv (.ref (adr G c) :: st) M (gR M ci f c k) := by
  unfold gR
  refine J_ite (fun h => ?_) (fun _ => J_none)
  obtain ⟨hc, -, e⟩ := okO_spec h
  cases hm : mR M c f with
  | none => exact J_none
  | some a =>
    refine J_stepH (fun x A H _ _ _ _ _ hH _ _ w => getf_core A F hw hdg hc e hH ?_) (k1 a)
    rw [hv, hm]
    exact w
theorem putf_core {x : Cx} (A : Act G x cc nL own ret nm) {ci f idx c : Nat} {ty : FieldType} {cn n d : String} {v : Value} (F : FdOk ci f ty false cn n d) (hw : Cond.fieldLink own idx cn n d ∈ lwT) (hdg : decode cc pc = .ok (.putfield idx, 3)) (hc : c < M.1) (hns : nS ≤ c) (e : mSh M c = .inr ci) (hn : narrow ty v = v) (hfit : fits ty v = true)
    (e1 : M'.1 = M.1) (e2 : mSh M' = mSh M) (hv : fval G M' c f ty = v) (hof : ∀ k t, k ≠ f → fval G M' c k t = fval G M c k t) (ho : ∀ c', c' ≠ c → mSh M' c' = mSh M c' ∧ mR M' c' = mR M c' ∧ mI M' c' = mI M c' ∧ mJ M' c' = mJ M c') {H : Heap} {locs : List Loc} {ls : Array Slot} {cells slots : Nat} {Q' : State → Prop} (hH : Hold G M H) (hS : va_S (rA G) (xs x).heap H locs)
    (w : ∀ (H1 : Heap) (locs1 : List Loc), Hold G M' H1 → va_S (rA G) (xs x).heap H1 locs1 → WW x H1 locs1 cells slots Q' (F0 (xm x) (pc + 3) ls st)) : WW x H locs cells slots Q' (F0 (xm x) pc ls (v :: .ref (adr G c) :: st)) := by
  obtain ⟨C, T, N, ty0, h1, h2, h3, h4, h5, h6, h7, h8⟩ := F
  have hK := A.2.2.2.2.2.2.2.2.1
  have hts := A.2.2.2.2.1
  have hap := va_apart (own := own) hts h2 ty0 h6 h7 hK h1
  obtain ⟨r, g1, cell, q1, q2, q3, q4⟩ := hold_obj hH hc e
  have hr : r = (C, T, N) := Option.some.inj (g1.symm.trans h1)
  subst hr
  obtain ⟨hSl, hfc, kC, hkC, hkind⟩ := hK.1 ci _ h1
  obtain ⟨cf, kf, fi, fd, hi, hsl⟩ := hSl f h3
  have hlay := hts _ (h2 _ (u_in_lay h3))
  unfold u_lay at hlay
  rw [if_neg (by rw [h5]; exact Bool.false_ne_true)] at hlay
  have hst := (u_facts hfc hkC (u_lays hts h2 h3) hi).1
  have h9 := u_store hfc hkC hkind hlay hi (by rw [h5]; exact h8) hn hfit
  refine W.putK A.1 A.2.1 (own := own) (ref := cn) (name := n) (desc := d) (index := idx) (f := fd) ⟨A.2.2.2.1, hts _ hw, ⟨_, _, _, (by have hi : (xs x).fieldFound? (T f).1 (T f).2.1 (T f).2.2.1 = _ := hi; rw [h5] at hi; exact hi)⟩, hst⟩ (by rw [q2]; exact h9) q1 q3 (by rw [hsl]; exact k2_hasslot (q4 f h3)) rfl rfl hdg fun H1 i1 i2 i3 => ?_
  rw [hsl] at i1 ⊢
  refine w H1 _ (hold_set hH A.2.2.2.2.2.2.2.2.2.1 hns e1 i2 i3 ho ?_) (hS.put i2 i3 (adr_rA hns))
  have hcn : cont G M' c = .inr (ci, (fvals G M c 0 (cfT ci)).set f v) := by
    unfold cont
    rw [e2, e]
    show (Sum.inr (ci, fvals G M' c 0 (cfT ci)) : va_E) = _
    rw [fvals_set h4 hv hof]
  rw [hcn]
  exact ⟨_, h1, t_OB.to (V := updV (vp_V (fvals G M c 0 (cfT ci))) f v) ⟨_, i1, q2, q3, t_set q4 hap h3 v⟩ (fun j _ => vp_updV_set (by rw [fvals_len]; exact (List.getElem?_eq_some_iff.mp h4).1) v j)⟩
theorem J_putI {k : Mem → Option (α × Mem)} {ci f idx c : Nat} {cn n d : String} {v : Int32} (F : FdOk ci f .int false cn n d) (hw : Cond.fieldLink own idx cn n d ∈ lwT) (hdg : decode cc pc = .ok (.putfield idx, 3)) (k1 : J G l cc nL own ret nm fr lc Q (pc + 3) lv st (stI M c f v) (k (stI M c f v))) : J G l cc nL own ret nm fr lc Q pc lv (.int v :: .ref (adr G c) :: st) M (pI M ci f c v k) := by
  unfold pI
  refine J_ite (fun h => ?_) (fun _ => J_none)
  obtain ⟨hc, hns, e⟩ := okO_spec h
  refine J_stepS (M' := stI M c f v) rfl rfl (fun x A H _ _ _ _ _ hH hS _ w => putf_core (M' := stI M c f v) A F hw hdg hc hns e (vp_nar_int v) rfl rfl rfl ?_ ?_ (fun c' q => ⟨rfl, rfl, u2_ne q, rfl⟩) hH hS w) k1
  · show Value.int (u2 (mI M) c f v c f) = _
    unfold u2; rw [if_pos ⟨rfl, rfl⟩]
  · exact fun j t hj => fval_I hj
theorem J_putZ {k : Mem → Option (α × Mem)} {ci f idx c : Nat} {cn n d : String} {v : Int32} (F : FdOk ci f .boolean false cn n d) (hw : Cond.fieldLink own idx cn n d ∈ lwT) (hdg : decode cc pc = .ok (.putfield idx, 3)) (k1 : J G l cc nL own ret nm fr lc Q (pc + 3) lv st (stI M c f v) (k (stI M c f v))) : J G l cc nL own ret nm fr lc Q pc lv (.int v :: .ref (adr G c) :: st) M (pZ M ci f c v k) := by
  unfold pZ
  refine J_ite (fun h => ?_) (fun _ => J_none)
  obtain ⟨hc, hns, e⟩ := okO_spec h.1
  refine J_stepS (M' := stI M c f v) rfl rfl (fun x A H _ _ _ _ _ hH hS _ w => putf_core (M' := stI M c f v) A F hw hdg hc hns e (by rcases h.2 with rfl | rfl <;> decide) (by rcases h.2 with rfl | rfl <;> decide) rfl rfl ?_ ?_ (fun c' q => ⟨rfl, rfl, u2_ne q, rfl⟩) hH hS w) k1
  · show Value.int (u2 (mI M) c f v c f) = _
    unfold u2; rw [if_pos ⟨rfl, rfl⟩]
  · exact fun j t hj => fval_I hj
theorem J_putJ {k : Mem → Option (α × Mem)} {ci f idx c : Nat} {cn n d : String} {v : Int64} (F : FdOk ci f .long false cn n d) (hw : Cond.fieldLink own idx cn n d ∈ lwT) (hdg : decode cc pc = .ok (.putfield idx, 3)) (k1 : J G l cc nL own ret nm fr lc Q (pc + 3) lv st (stJ M c f v) (k (stJ M c f v))) : J G l cc nL own ret nm fr lc Q pc lv (.long v :: .ref (adr G c) :: st) M (pJ M ci f c v k) := by
  unfold pJ
  refine J_ite (fun h => ?_) (fun _ => J_none)
  obtain ⟨hc, hns, e⟩ := okO_spec h
  refine J_stepS (M' := stJ M c f v) rfl rfl (fun x A H _ _ _ _ _ hH hS _ w => putf_core (M' := stJ M c f v) A F hw hdg hc hns e rfl rfl rfl rfl ?_ ?_ (fun c' q => ⟨rfl, rfl, rfl, u2_ne q⟩) hH hS w) k1
  · show Value.long (u2 (mJ M) c f v c f) = _
    unfold u2; rw [if_pos ⟨rfl, rfl⟩]
  · exact fun j t hj => fval_J hj
end CoreE
