-- MAKING: a new cell stands at the end
def nwM (M : Mem) (sh : Shp) (n : Nat) : Mem := (M.1 + 1, M.2.1 + n, (fun c => if c = M.1 then sh else mSh M c), u1 (mR M) M.1 (fun _ => none), u1 (mI M) M.1 (fun _ => 0), u1 (mJ M) M.1 (fun _ => 0))
def nwO {β : Type} (M : Mem) (ci n : Nat) (k : Nat → Mem → Option β) : Option β := k M.1 (nwM M (.inr ci) n)
def nwA {β : Type} (M : Mem) (ty : FieldType) (n : Int32) (k : Nat → Mem → Option β) : Option β := if ¬ n < 0 ∧ n.toNatClampNeg ≤ 60000000 then k M.1 (nwM M (.inl (ty, n.toNatClampNeg)) n.toNatClampNeg) else none
def wR {β : Type} (M : Mem) (ci c : Nat) (i : Int32) (x : Nat) (k : Mem → Option β) : Option β := if (okA M (.object "ChainBooks$Head") c i = true ∧ nS ≤ c) ∧ okO M ci x = true then k (stR M c i.toNatClampNeg (some x)) else none
/-- new int[n][k]: the outer row at M.1, the inner ones behind it -/
def nwGM (M : Mem) (n k : Nat) : Mem := (M.1 + 1 + n, M.2.1 + n + n * k, (fun c => if c = M.1 then .inl (.array .int, n) else if M.1 < c ∧ c < M.1 + 1 + n then .inl (.int, k) else mSh M c), u1 (mR M) M.1 (fun i => if i < n then some (M.1 + 1 + i) else none), (fun c => if M.1 < c ∧ c < M.1 + 1 + n then (fun _ => 0) else mI M c), mJ M)
def nwG {β : Type} (M : Mem) (n k : Int32) (kk : Nat → Mem → Option β) : Option β := if (¬ n < 0 ∧ ¬ k < 0) ∧ n.toNatClampNeg ≤ 1000000 ∧ k.toNatClampNeg ≤ 1000000 then kk M.1 (nwGM M n.toNatClampNeg k.toNatClampNeg) else none
def zval : FieldType → Value
  | .long => .long 0
  | .array _ => .null
  | .object _ => .null
  | _ => .int 0
theorem fvals_z {G : Gx} {M : Mem} {c : Nat} (h2 : mR M c = fun _ => none) (h3 : mI M c = fun _ => 0) (h4 : mJ M c = fun _ => 0) : ∀ (l : List FieldType) (b : Nat), fvals G M c b l = l.map zval
  | [], _ => rfl
  | ty :: r, b => by
    unfold fvals
    rw [fvals_z h2 h3 h4 r (b + 1), List.map_cons]
    congr 1
    unfold fval
    rw [h2, h3, h4]
    cases ty <;> rfl
/-- a class's objects as they are made -/
def NwOk (ci n : Nat) (C : String) : Prop := ∃ (T : u_T) (ty : Nat → FieldType), vwCl[ci]? = some (C, T, n) ∧ (∀ w ∈ u_ws C T n, w ∈ lwT) ∧ (∀ k, k < n → parseFieldDescriptor (T k).2.2.1 = some (ty k)) ∧ (∀ j, j < n → defaultValue (ty j) = vp_V ((cfT ci).map zval) j) ∧ Cond.instantiable C n ∈ lwT ∧ Cond.initialized C ∈ lwT
theorem hold_push {G : Gx} {M M' : Mem} {H H1 : Heap} (hH : Hold G M H) (e : M'.1 = M.1 + 1) (z : H1.size = H.size + 1) (oq : ∀ q, q < H.size → H1[q]? = H[q]?) (ho : ∀ c', c' ≠ M.1 → mSh M' c' = mSh M c' ∧ mR M' c' = mR M c' ∧ mI M' c' = mI M c' ∧ mJ M' c' = mJ M c') (hc : va_at G.1 vwCl (adr G M.1, cont G M' M.1) H1) : Hold G M' H1 := by
  refine ⟨by rw [e]; exact Nat.le_trans hH.1 (Nat.le_succ _), by rw [z, e, hH.2.1]; have := hH.1; omega, fun c' hn' hc' => ?_, fun c' hc' => ?_⟩
  · by_cases q : c' = M.1
    · subst q; exact hc
    · rw [cont_congr (ho c' q).1 (ho c' q).2.1 (ho c' q).2.2.1 (ho c' q).2.2.2]
      have h := hH.2.2.1 c' hn' (by rw [e] at hc'; omega)
      exact h.kept (oq _ h.lt)
  · have q : c' ≠ M.1 := by have := hH.1; omega
    obtain ⟨n, cell, g1, g2, g3, g4, g5⟩ := hH.2.2.2 c' hc'
    exact ⟨n, cell, by rw [(ho c' q).1]; exact g1, by rw [oq _ (Array.getElem?_eq_some_iff.mp g2).1]; exact g2, g3, g4, fun j hj => by rw [(ho c' q).2.2.1]; exact g5 j hj⟩
theorem adr_top {G : Gx} {M : Mem} {H : Heap} (hH : Hold G M H) : adr G M.1 = H.size := by
  unfold adr
  rw [if_neg (Nat.not_lt.mpr hH.1), hH.2.1]
section CoreK
variable {G : Gx} {l : Launch} {cc : ByteArray} {nL : Nat} {own : String} {ret : Option FieldType} {nm : String} {fr lc : Nat} {α : Type} {Q : Cx → Mem → α → Mem → State → Prop} {M M' : Mem} {pc pc' : Nat} {lv lv' : List (Nat × Value)} {st st' : List Value}
theorem vaS_push {H0 H H1 : Heap} {locs : List Loc} (hS : va_S (rA G) H0 H locs) (z : H.size ≤ H1.size) (o : ∀ q, q < H.size → H1[q]? = H[q]?) : va_S (rA G) H0 H1 locs := ⟨Nat.le_trans hS.1 z, fun q h1 h2 => (o q (Nat.lt_of_lt_of_le h1 hS.1)).trans (hS.2.1 q h1 h2), hS.2.2⟩
/-- a step that makes cells -/
theorem J_stepN {k : Option (α × Mem)} (g1 : M.1 ≤ M'.1) (g2 : M.2.1 ≤ M'.2.1) (h : ∀ (x : Cx) (A : Act G x cc nL own ret nm) (H : Heap) (locs : List Loc) (ls : Array Slot) (cells slots : Nat) (Q' : State → Prop), cells + (M'.1 - M.1) ≤ (xR x).cells → slots + (M'.2.1 - M.2.1) ≤ (xR x).slots → Hold G M H → va_S (rA G) (xs x).heap H locs → lv_has ls nL lv → (∀ (H1 : Heap), Hold G M' H1 → va_S (rA G) (xs x).heap H1 locs → WW x H1 locs (cells + (M'.1 - M.1)) (slots + (M'.2.1 - M.2.1)) Q' (F0 (xm x) pc' ls st')) → WW x H locs cells slots Q' (F0 (xm x) pc ls st))
    (k1 : J G l cc nL own ret nm fr lc Q pc' lv st' M' k) : J G l cc nL own ret nm fr lc Q pc lv st M k := by
  intro r Me e
  obtain ⟨⟨q1, q2⟩, go⟩ := k1 r Me e
  refine ⟨⟨Nat.le_trans g1 q1, Nat.le_trans g2 q2⟩, fun x M0 e1 A f1 f2 a b c d H locs ls hH hS hl => ?_⟩
  refine h x A H locs ls _ _ _ (by omega) (by omega) hH hS hl (fun H1 hH1 hS1 => ?_)
  rw [show M.1 - M0.1 + (M'.1 - M.1) = M'.1 - M0.1 by omega, show M.2.1 - M0.2.1 + (M'.2.1 - M.2.1) = M'.2.1 - M0.2.1 by omega]
  exact go x M0 e1 A f1 f2 (by omega) (by omega) c d H1 locs ls hH1 hS1 hl
theorem nwM_old {M : Mem} {sh : Shp} {n c : Nat} (h : c ≠ M.1) : mSh (nwM M sh n) c = mSh M c ∧ mR (nwM M sh n) c = mR M c ∧ mI (nwM M sh n) c = mI M c ∧ mJ (nwM M sh n) c = mJ M c := ⟨if_neg h, u1_ne h, u1_ne h, u1_ne h⟩
theorem J_new {k : Nat → Mem → Option (α × Mem)} {ci n idx : Nat} {C : String} (F : NwOk ci n C) (hw : Cond.classLink own idx C ∈ lwT) (hdg : decode cc pc = .ok (.new idx, 3)) (k1 : J G l cc nL own ret nm fr lc Q (pc + 3) lv (.ref (adr G M.1) :: st) (nwM M (.inr ci) n) (k M.1 (nwM M (.inr ci) n))) : J G l cc nL own ret nm fr lc Q pc lv st M (nwO M ci n k) := by
  unfold nwO
  obtain ⟨T, ty, h1, h2, h3, h4, h5, h6⟩ := F
  refine J_stepN (M' := nwM M (.inr ci) n) (Nat.le_succ _) (Nat.le_add_right _ _) (fun x A H locs ls cells slots Q' c1 c2 hH hS hl w => ?_) k1
  have hts := A.2.2.2.2.1
  have hKn := A.2.2.2.2.2.2.2.2.1.1 ci _ h1
  have e1 : (nwM M (.inr ci) n).1 - M.1 = 1 := by show M.1 + 1 - M.1 = 1; omega
  have e2 : (nwM M (.inr ci) n).2.1 - M.2.1 = n := by show M.2.1 + n - M.2.1 = n; omega
  rw [e1, e2] at w
  rw [e1] at c1
  rw [e2] at c2
  refine W.newcK A.1 A.2.1 (own := own) A.2.2.2.1 (hts _ hw) (hts _ h5) (hts _ h6) rfl hdg c1 c2 hKn.2.1 (adr_top hH).symm fun H1 kC hkC i1 z1 o1 => ?_
  rw [adr_top hH] at z1 o1
  refine w H1 (hold_push hH rfl z1 o1 (fun c' q => nwM_old q) ?_) (vaS_push hS (by omega) o1)
  have hcn : cont G (nwM M (.inr ci) n) M.1 = .inr (ci, (cfT ci).map zval) := by
    unfold cont
    rw [show mSh (nwM M (.inr ci) n) M.1 = .inr ci from if_pos rfl]
    show (Sum.inr (ci, fvals G (nwM M (.inr ci) n) M.1 0 (cfT ci)) : va_E) = _
    rw [fvals_z u1_eq u1_eq u1_eq]
  rw [hcn]
  exact ⟨_, h1, (u_born ty hts h2 hKn hkC i1 h3).to h4⟩
theorem J_newa {ty : FieldType} {atype : ArrayType} {t0 : Nat} (hty : newarray.typeOf atype = ty) (ht : ∀ D : va_G, ∀ f : FieldType → ClassId, ∀ a : Nat, ∀ b : Nat → Nat, (tysG (D, f, a, b))[t0]? = some (f ty, ty)) (hR : ∀ (U : State) (c : ClassId), va_RA U c ty → U.vm.findClass ("[" ++ ty.toString) = some c) (hz : ∀ (G : Gx) (M : Mem) (c n : Nat), mI M c = (fun _ => 0) → mJ M c = (fun _ => 0) → vp_cell (G.2.1 ty) (n, rowOf G M c ty) = arrV (G.2.1 ty) n (fun _ => defaultValue ty)) (hcb : componentBytes ty ≤ 8)
    {k : Nat → Mem → Option (α × Mem)} {n : Int32} (hw : Cond.arrayClass ty ∈ lwT) (hdg : decode cc pc = .ok (.newarray atype, 2)) (k1 : J G l cc nL own ret nm fr lc Q (pc + 2) lv (.ref (adr G M.1) :: st) (nwM M (.inl (ty, n.toNatClampNeg)) n.toNatClampNeg) (k M.1 (nwM M (.inl (ty, n.toNatClampNeg)) n.toNatClampNeg))) : J G l cc nL own ret nm fr lc Q pc lv (.int n :: st) M (nwA M ty n k) := by
  subst hty
  unfold nwA
  refine J_ite (fun h => ?_) (fun _ => J_none)
  refine J_stepN (M' := nwM M (.inl (newarray.typeOf atype, n.toNatClampNeg)) n.toNatClampNeg) (Nat.le_succ _) (Nat.le_add_right _ _) (fun x A H locs ls cells slots Q' c1 c2 hH hS hl w => ?_) k1
  have hts := A.2.2.2.2.1
  have hK := A.2.2.2.2.2.2.2.2.1
  have e1 : (nwM M (.inl (newarray.typeOf atype, n.toNatClampNeg)) n.toNatClampNeg).1 - M.1 = 1 := by show M.1 + 1 - M.1 = 1; omega
  have e2 : (nwM M (.inl (newarray.typeOf atype, n.toNatClampNeg)) n.toNatClampNeg).2.1 - M.2.1 = n.toNatClampNeg := by show M.2.1 + _ - M.2.1 = _; omega
  rw [e1, e2] at w
  rw [e1] at c1
  rw [e2] at c2
  refine va_newaK A.1 A.2.1 (hts _ hw) rfl hdg rfl h.1 rfl (Nat.le_trans (Nat.mul_le_mul h.2 hcb) (by decide)) c1 c2 (adr_top hH).symm fun H1 cA i1 z1 o1 hAr hNm => ?_
  rw [adr_top hH] at z1 o1
  have hcA : cA = G.2.1 (newarray.typeOf atype) := Option.some.inj (hNm.symm.trans (hR _ _ (hK.2 t0 _ (ht _ _ _ _)).2))
  subst hcA
  refine w H1 (hold_push hH rfl z1 o1 (fun c' q => nwM_old q) ?_) (vaS_push hS (by omega) o1)
  have hcn : cont G (nwM M (.inl (newarray.typeOf atype, n.toNatClampNeg)) n.toNatClampNeg) M.1 = .inl (G.2.1 (newarray.typeOf atype), n.toNatClampNeg, rowOf G (nwM M (.inl (newarray.typeOf atype, n.toNatClampNeg)) n.toNatClampNeg) M.1 (newarray.typeOf atype)) := by
    unfold cont
    rw [show mSh (nwM M (.inl (newarray.typeOf atype, n.toNatClampNeg)) n.toNatClampNeg) M.1 = .inl (newarray.typeOf atype, n.toNatClampNeg) from if_pos rfl]
  rw [hcn]
  show H1[adr G M.1]? = some (vp_cell _ _)
  rw [hz G _ _ _ u1_eq u1_eq]
  exact i1
theorem J_anew {k : Nat → Mem → Option (α × Mem)} {n : Int32} {idx : Nat} (hw : Cond.classLink own idx "ChainBooks$Head" ∈ lwT) (hdg : decode cc pc = .ok (.anewarray idx, 3)) (k1 : J G l cc nL own ret nm fr lc Q (pc + 3) lv (.ref (adr G M.1) :: st) (nwM M (.inl (.object "ChainBooks$Head", n.toNatClampNeg)) n.toNatClampNeg) (k M.1 (nwM M (.inl (.object "ChainBooks$Head", n.toNatClampNeg)) n.toNatClampNeg))) : J G l cc nL own ret nm fr lc Q pc lv (.int n :: st) M (nwA M (.object "ChainBooks$Head") n k) := by
  unfold nwA
  refine J_ite (fun h => ?_) (fun _ => J_none)
  refine J_stepN (M' := nwM M (.inl (.object "ChainBooks$Head", n.toNatClampNeg)) n.toNatClampNeg) (Nat.le_succ _) (Nat.le_add_right _ _) (fun x A H locs ls cells slots Q' c1 c2 hH hS hl w => ?_) k1
  have hts := A.2.2.2.2.1
  have hK := A.2.2.2.2.2.2.2.2.1
  have e1 : (nwM M (.inl (.object "ChainBooks$Head", n.toNatClampNeg)) n.toNatClampNeg).1 - M.1 = 1 := by show M.1 + 1 - M.1 = 1; omega
  have e2 : (nwM M (.inl (.object "ChainBooks$Head", n.toNatClampNeg)) n.toNatClampNeg).2.1 - M.2.1 = n.toNatClampNeg := by show M.2.1 + _ - M.2.1 = _; omega
  rw [e1, e2] at w
  rw [e1] at c1
  rw [e2] at c2
  refine W.anew A.1 A.2.1 (own := own) A.2.2.2.1 (hts _ hw) (va_AO.use A.2.2.2.2.2.2.2.2.2.2.2.2.2.1) rfl hdg rfl h.1 (by have := h.2; omega) c1 c2 fun cA kA comp f1 f2 f3 f4 => ?_
  generalize hH1 : H.push ({ cls := cA, slots := Array.replicate n.toNatClampNeg .null, vm := .none } : Cell) = H1
  have z1 : H1.size = H.size + 1 := by rw [← hH1, Array.size_push]
  have i1 : H1[H.size]? = some (arrV cA n.toNatClampNeg (fun _ => .null)) := by rw [← hH1, Array.getElem?_push_size, ← arrV_new]
  have o1 : ∀ q : Nat, q < H.size → H1[q]? = H[q]? := fun q hq => by rw [← hH1, Array.getElem?_push, if_neg (Nat.ne_of_lt hq)]
  obtain ⟨kA', comp', -, -, -, f9⟩ := (hK.2 5 _ rfl).2
  have hcA : cA = G.2.1 (.object "ChainBooks$Head") := Option.some.inj (f1.symm.trans f9)
  subst hcA
  have q9 := w H1 (hold_push hH rfl z1 o1 (fun c' q => nwM_old q) ?_) (vaS_push hS (by omega) o1)
  · rw [adr_top hH] at q9
    exact q9
  have hcn : cont G (nwM M (.inl (.object "ChainBooks$Head", n.toNatClampNeg)) n.toNatClampNeg) M.1 = .inl (G.2.1 (.object "ChainBooks$Head"), n.toNatClampNeg, .inr (.inr (.inr (.inr (fun _ => none))))) := by
    unfold cont
    rw [show mSh (nwM M (.inl (.object "ChainBooks$Head", n.toNatClampNeg)) n.toNatClampNeg) M.1 = .inl (.object "ChainBooks$Head", n.toNatClampNeg) from if_pos rfl]
    show (Sum.inl (G.2.1 (.object "ChainBooks$Head"), n.toNatClampNeg, .inr (.inr (.inr (.inr (fun i => (u1 (mR M) M.1 (fun _ => none) M.1 i).map (adr G)))))) : va_E) = _
    rw [u1_eq]
    rfl
  rw [hcn, adr_top hH]
  show H1[H.size]? = some (vp_cell _ _)
  rw [i1, vp_cell_q]
  rfl
end CoreK
