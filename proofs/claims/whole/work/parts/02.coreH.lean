def u1 {α : Type} (f : Nat → Nat → α) (c : Nat) (g : Nat → α) : Nat → Nat → α := fun c' => if c' = c then g else f c'
theorem u1_ne {α : Type} {f : Nat → Nat → α} {c c' : Nat} {g : Nat → α} (h : c' ≠ c) : u1 f c g c' = f c' := by unfold u1; rw [if_neg h]
theorem u1_eq {α : Type} {f : Nat → Nat → α} {c : Nat} {g : Nat → α} : u1 f c g c = g := by unfold u1; rw [if_pos rfl]
def okC (M : Mem) (ty : FieldType) (c : Nat) (sp : Int32) (d : Nat) (dp n : Int32) : Bool := (decide (c < M.1) && (decide (d < M.1) && (decide (nS ≤ d ∧ nS ≤ c) && decide (¬ sp < 0 ∧ ¬ dp < 0 ∧ ¬ n < 0)))) && (match mSh M c, mSh M d with
  | .inl (t, n0), .inl (t', n1) => (decide (t = ty) && decide (t' = ty)) && (decide (sp.toNatClampNeg + n.toNatClampNeg ≤ n0) && decide (dp.toNatClampNeg + n.toNatClampNeg ≤ n1))
  | _, _ => false)
theorem okC_spec {M : Mem} {ty : FieldType} {c d : Nat} {sp dp n : Int32} (h : okC M ty c sp d dp n = true) : c < M.1 ∧ d < M.1 ∧ (nS ≤ d ∧ nS ≤ c) ∧ (¬ sp < 0 ∧ ¬ dp < 0 ∧ ¬ n < 0) ∧ ∃ n0 n1, mSh M c = .inl (ty, n0) ∧ mSh M d = .inl (ty, n1) ∧ sp.toNatClampNeg + n.toNatClampNeg ≤ n0 ∧ dp.toNatClampNeg + n.toNatClampNeg ≤ n1 := by
  unfold okC at h
  rw [Bool.and_eq_true, Bool.and_eq_true, Bool.and_eq_true, Bool.and_eq_true] at h
  obtain ⟨⟨h1, h2, h3, h4⟩, h5⟩ := h
  refine ⟨of_decide_eq_true h1, of_decide_eq_true h2, of_decide_eq_true h3, of_decide_eq_true h4, ?_⟩
  split at h5
  · next t n0 t' n1 e1 e2 =>
    rw [Bool.and_eq_true, Bool.and_eq_true, Bool.and_eq_true] at h5
    obtain ⟨⟨g1, g2⟩, g3, g4⟩ := h5
    have g1 := of_decide_eq_true g1
    have g2 := of_decide_eq_true g2
    subst g1
    subst g2
    exact ⟨n0, n1, e1, e2, of_decide_eq_true g3, of_decide_eq_true g4⟩
  · cases h5
theorem okC_of {M : Mem} {ty : FieldType} {c d n0 n1 : Nat} {sp dp n : Int32} (h1 : c < M.1) (h2 : d < M.1) (h3 : nS ≤ d ∧ nS ≤ c) (h4 : ¬ sp < 0 ∧ ¬ dp < 0 ∧ ¬ n < 0) (e1 : mSh M c = .inl (ty, n0)) (e2 : mSh M d = .inl (ty, n1)) (h5 : sp.toNatClampNeg + n.toNatClampNeg ≤ n0) (h6 : dp.toNatClampNeg + n.toNatClampNeg ≤ n1) : okC M ty c sp d dp n = true := by
  unfold okC
  rw [e1, e2]
  simp only [Bool.and_eq_true, decide_eq_true_eq]
  exact ⟨⟨h1, h2, h3, h4⟩, ⟨trivial, trivial⟩, h5, h6⟩
def cpM (M : Mem) (c : Nat) (sp : Int32) (d : Nat) (dp n : Int32) : Mem := (M.1, M.2.1, mSh M, mR M, u1 (mI M) d (va_cpy (mI M c) (mI M d) sp.toNatClampNeg dp.toNatClampNeg n.toNatClampNeg), mJ M)
def cpL (M : Mem) (c : Nat) (sp : Int32) (d : Nat) (dp n : Int32) : Mem := (M.1, M.2.1, mSh M, mR M, mI M, u1 (mJ M) d (va_cpy (mJ M c) (mJ M d) sp.toNatClampNeg dp.toNatClampNeg n.toNatClampNeg))
def cpI {β : Type} (M : Mem) (ty : FieldType) (c : Nat) (sp : Int32) (d : Nat) (dp n : Int32) (k : Mem → Option β) : Option β := if okC M ty c sp d dp n = true ∧ ∀ i, i < n.toNatClampNeg → fits ty (.int (mI M c (sp.toNatClampNeg + i))) = true then k (cpM M c sp d dp n) else none
def cpJ {β : Type} (M : Mem) (c : Nat) (sp : Int32) (d : Nat) (dp n : Int32) (k : Mem → Option β) : Option β := if okC M .long c sp d dp n = true then k (cpL M c sp d dp n) else none
theorem nn32 (z : Int32) (hz : ¬ z < 0) : z.toInt = (z.toNatClampNeg : Int) := by
  have hz0 : (0 : Int) ≤ z.toInt := by
    have := Int32.not_lt.mp hz
    simpa using Int32.le_iff_toInt_le.mp this
  show z.toInt = ((z.toInt.toNat : Nat) : Int)
  omega
section CoreH
variable {G : Gx} {l : Launch} {cc : ByteArray} {nL : Nat} {own : String} {ret : Option FieldType} {nm : String} {fr lc : Nat} {α : Type} {Q : Cx → Mem → α → Mem → State → Prop} {M M' : Mem} {pc pc' : Nat} {lv lv' : List (Nat × Value)} {st st' : List Value}
theorem J_gets {k : Option (α × Mem)} {j idx : Nat} {C n d : String} (hj : sTab[j]? = some (C, n, d)) (hlt : j < nS) (hw : Cond.fieldLink own idx C n d ∈ lwT) (hdg : decode cc pc = .ok (.getstatic idx, 3)) (k1 : J G l cc nL own ret nm fr lc Q (pc + 3) lv (.ref (adr G j) :: st) M k) : J G l cc nL own ret nm fr lc Q pc lv st M k := by
  refine J_stepH (fun x A H _ _ _ _ _ hH hS _ w => ?_) k1
  have hZ := A.2.2.2.2.2.2.2.2.2.2.2.1 j C n d hj
  have e : adr G j = G.2.2.2 j := by unfold adr; rw [if_pos hlt]
  rw [e] at w
  exact va_gets A.1 A.2.1 hZ hS A.2.2.2.1 (A.2.2.2.2.1 _ hw) (fun _ h => h) hdg w
theorem J_copyI {ty : FieldType} {t0 : Nat} (ht : ∀ D : va_G, ∀ f : FieldType → ClassId, ∀ a : Nat, ∀ b : Nat → Nat, (tysG (D, f, a, b))[t0]? = some (f ty, ty)) (hrow : ∀ (G : Gx) (M : Mem) (c : Nat), rowOf G M c ty = .inl (mI M c)) (hprim : refKind ty = false) {k : Mem → Option (α × Mem)} {c d idx : Nat} {sp dp n : Int32} (w1 : Cond.methodLink own idx arraycopyName ∈ lwT) (w2 : Cond.native arraycopyName ∈ lwT) (w3 : Cond.static arraycopyName ∈ lwT) (w4 : Cond.initialized "java/lang/System" ∈ lwT) (hR : 1 ≤ fr ∧ (st.map fun v => v.category).sum + (nativeFrameWords "java/lang/System" "arraycopy" 5 + 11) ≤ lc) (hdg : decode cc pc = .ok (.invokestatic idx, 3))
    (k1 : J G l cc nL own ret nm fr lc Q (pc + 3) lv st (cpM M c sp d dp n) (k (cpM M c sp d dp n))) : J G l cc nL own ret nm fr lc Q pc lv (.int n :: .int dp :: .ref (adr G d) :: .int sp :: .ref (adr G c) :: st) M (cpI M ty c sp d dp n k) := by
  unfold cpI
  refine J_ite (fun h => ?_) (fun _ => J_none)
  obtain ⟨hfc, hfit⟩ := h
  obtain ⟨q1, q2, ⟨q3, q4⟩, ⟨h1, h2, h3⟩, n0, n1, s1, s2, h4, h5⟩ := okC_spec hfc
  intro r Me e
  refine ⟨(k1 r Me e).1, fun x M0 e1 A f1 f2 a b cq dq H locs ls hH hS hl => ?_⟩
  have hts := A.2.2.2.2.1
  have hK := A.2.2.2.2.2.2.2.2.1
  have hc0 : H[adr G c]? = some (vp_cell (G.2.1 ty) (n0, .inl (mI M c))) := by have z := hold_arr hH q4 q1 s1; rw [hrow] at z; exact z
  have hc1 : H[adr G d]? = some (vp_cell (G.2.1 ty) (n1, .inl (mI M d))) := by have z := hold_arr hH q3 q2 s2; rw [hrow] at z; exact z
  intro T hT X
  obtain ⟨-, k0, hk0, cm0, hkk0⟩ := (hK.2 t0 _ (ht _ _ _ _)).1 n0 (fun j => .int (mI M c j))
  obtain ⟨-, k9, hk9, cm9, hkk9⟩ := (hK.2 t0 _ (ht _ _ _ _)).1 n1 (fun j => .int (mI M d j))
  obtain ⟨vm', X', step⟩ := X.arraycopy A.1 (own := own) A.2.2.2.1 (hts _ w1) (hts _ w2) (hts _ w3) (hts _ w4) (src := adr G c) (dst := adr G d) (cs := vp_cell (G.2.1 ty) (n0, .inl (mI M c))) (cd := vp_cell (G.2.1 ty) (n1, .inl (mI M d))) (srcPos := sp) (destPos := dp) (n := n) (by rw [hT]; exact hc0) (by rw [hT]; exact hc1)
    (fun _ h => by cases h) (fun _ h => by cases h) (fun h => by cases h) (fun h => by cases h) hk0 hk9 hkk0 hkk9 (by simp [hprim]) h1 h2 h3
    (by rw [nn32 sp h1, nn32 n h3]; show ¬ _ > ((arrV _ n0 (fun j => .int (mI M c j))).slots.size : Int); rw [arrV_size]; omega)
    (by rw [nn32 dp h2, nn32 n h3]; show ¬ _ > ((arrV _ n1 (fun j => .int (mI M d j))).slots.size : Int); rw [arrV_size]; omega)
    (fun vm₁ _ i hi => by
      have e : (vp_cell (G.2.1 ty) (n0, .inl (mI M c))).slots.getD (sp.toNatClampNeg + i) .null = .int (mI M c (sp.toNatClampNeg + i)) := by
        show (arrV _ n0 (fun j => .int (mI M c j))).slots.getD _ _ = _
        rw [Array.getD_eq_getD_getElem?, arrV_read _ _ (by omega)]
        rfl
      refine ⟨?_, ?_⟩
      · rw [e]
        exact hfit i hi
      · rw [e]
        exact trivial)
    (g := F0 (xm x) pc ls (.int n :: .int dp :: .ref (adr G d) :: .int sp :: .ref (adr G c) :: st)) rfl (by rw [A.2.2.1]; exact hl.1) (rest := st) rfl (by rw [A.2.1]; exact hdg) (Nat.le_trans hR.1 f1) (by show 2 * 0 + _ + _ ≤ _; have := Nat.le_trans hR.2 f2; omega)
  have e1 : copied (vp_cell (G.2.1 ty) (n0, .inl (mI M c))) (vp_cell (G.2.1 ty) (n1, .inl (mI M d))) sp dp n = vp_cell (G.2.1 ty) (n1, .inl (va_cpy (mI M c) (mI M d) sp.toNatClampNeg dp.toNatClampNeg n.toNatClampNeg)) := va_copied (fun z => .int z) _ _ _ _ h4
  rw [e1] at X' step
  have hlH : adr G d < H.size := (Array.getElem?_eq_some_iff.mp hc1).1
  generalize hN : vp_cell (G.2.1 ty) (n1, .inl (va_cpy (mI M c) (mI M d) sp.toNatClampNeg dp.toNatClampNeg n.toNatClampNeg)) = N at X' step
  have hheap : ((T.setVm vm').setCell (adr G d) N).heap = H.setIfInBounds (adr G d) N := by rw [← hT]; rfl
  have oq : ∀ q : Nat, q ≠ adr G d → (H.setIfInBounds (adr G d) N)[q]? = H[q]? := fun q hq => by simp [Array.getElem?_setIfInBounds, Ne.symm hq]
  have hcn : cont G (cpM M c sp d dp n) d = .inl (G.2.1 ty, n1, .inl (va_cpy (mI M c) (mI M d) sp.toNatClampNeg dp.toNatClampNeg n.toNatClampNeg)) := by
    unfold cont
    rw [show mSh (cpM M c sp d dp n) d = .inl (ty, n1) from s2]
    show (Sum.inl (G.2.1 ty, n1, rowOf G (cpM M c sp d dp n) d ty) : va_E) = _
    rw [hrow]
    show (Sum.inl (G.2.1 ty, n1, .inl (u1 (mI M) d _ d)) : va_E) = _
    rw [u1_eq]
  have hH1 : Hold G (cpM M c sp d dp n) (H.setIfInBounds (adr G d) N) := hold_set hH A.2.2.2.2.2.2.2.2.2.1 q3 rfl (by simp) oq (fun c' q => ⟨rfl, rfl, u1_ne q, rfl⟩) (by rw [hcn]; show (H.setIfInBounds _ _)[_]? = some (vp_cell _ _); rw [hN]; simp [Array.getElem?_setIfInBounds, hlH])
  obtain ⟨t, a1, b1⟩ := (k1 r Me e).2 x M0 (by assumption) A f1 f2 a b cq dq (H.setIfInBounds (adr G d) N) _ ls hH1 ⟨by simp; exact hS.1, fun q g1 g2 => by
      rw [oq q (fun e => g2 (by rw [e]; exact adr_rA q3))]
      exact hS.2.1 q g1 g2, fun q hq => by
      rcases List.mem_append.mp hq with h | h
      · exact hS.2.2 q h
      · obtain ⟨z, -, hz⟩ := List.mem_map.mp h
        rw [← hz]
        exact adr_rA q3⟩ hl _ hheap X'
  exact ⟨t, step t a1, b1⟩
theorem J_copyJ {k : Mem → Option (α × Mem)} {c d idx : Nat} {sp dp n : Int32} (w1 : Cond.methodLink own idx arraycopyName ∈ lwT) (w2 : Cond.native arraycopyName ∈ lwT) (w3 : Cond.static arraycopyName ∈ lwT) (w4 : Cond.initialized "java/lang/System" ∈ lwT) (hR : 1 ≤ fr ∧ (st.map fun v => v.category).sum + (nativeFrameWords "java/lang/System" "arraycopy" 5 + 11) ≤ lc) (hdg : decode cc pc = .ok (.invokestatic idx, 3))
    (k1 : J G l cc nL own ret nm fr lc Q (pc + 3) lv st (cpL M c sp d dp n) (k (cpL M c sp d dp n))) : J G l cc nL own ret nm fr lc Q pc lv (.int n :: .int dp :: .ref (adr G d) :: .int sp :: .ref (adr G c) :: st) M (cpJ M c sp d dp n k) := by
  unfold cpJ
  refine J_ite (fun h => ?_) (fun _ => J_none)
  obtain ⟨q1, q2, ⟨q3, q4⟩, ⟨h1, h2, h3⟩, n0, n1, s1, s2, h4, h5⟩ := okC_spec h
  intro r Me e
  refine ⟨(k1 r Me e).1, fun x M0 e1 A f1 f2 a b cq dq H locs ls hH hS hl => ?_⟩
  have hts := A.2.2.2.2.1
  have hK := A.2.2.2.2.2.2.2.2.1
  have hc0 : H[adr G c]? = some (vp_cell (G.2.1 .long) (n0, .inr (.inl (mJ M c)))) := hold_arr hH q4 q1 s1
  have hc1 : H[adr G d]? = some (vp_cell (G.2.1 .long) (n1, .inr (.inl (mJ M d)))) := hold_arr hH q3 q2 s2
  intro T hT X
  obtain ⟨-, k0, hk0, cm0, hkk0⟩ := (hK.2 3 _ rfl).1 n0 (fun j => .long (mJ M c j))
  obtain ⟨-, k9, hk9, cm9, hkk9⟩ := (hK.2 3 _ rfl).1 n1 (fun j => .long (mJ M d j))
  obtain ⟨vm', X', step⟩ := X.arraycopy A.1 (own := own) A.2.2.2.1 (hts _ w1) (hts _ w2) (hts _ w3) (hts _ w4) (src := adr G c) (dst := adr G d) (cs := vp_cell (G.2.1 .long) (n0, .inr (.inl (mJ M c)))) (cd := vp_cell (G.2.1 .long) (n1, .inr (.inl (mJ M d)))) (srcPos := sp) (destPos := dp) (n := n) (by rw [hT]; exact hc0) (by rw [hT]; exact hc1)
    (fun _ h => by cases h) (fun _ h => by cases h) (fun h => by cases h) (fun h => by cases h) hk0 hk9 hkk0 hkk9 (by simp [refKind]) h1 h2 h3
    (by rw [nn32 sp h1, nn32 n h3]; show ¬ _ > ((arrV _ n0 (fun j => .long (mJ M c j))).slots.size : Int); rw [arrV_size]; omega)
    (by rw [nn32 dp h2, nn32 n h3]; show ¬ _ > ((arrV _ n1 (fun j => .long (mJ M d j))).slots.size : Int); rw [arrV_size]; omega)
    (fun vm₁ _ i hi => by
      have e : (vp_cell (G.2.1 .long) (n0, .inr (.inl (mJ M c)))).slots.getD (sp.toNatClampNeg + i) .null = .long (mJ M c (sp.toNatClampNeg + i)) := by
        show (arrV _ n0 (fun j => .long (mJ M c j))).slots.getD _ _ = _
        rw [Array.getD_eq_getD_getElem?, arrV_read _ _ (by omega)]
        rfl
      refine ⟨?_, ?_⟩
      · rw [e]
        rfl
      · rw [e]
        exact trivial)
    (g := F0 (xm x) pc ls (.int n :: .int dp :: .ref (adr G d) :: .int sp :: .ref (adr G c) :: st)) rfl (by rw [A.2.2.1]; exact hl.1) (rest := st) rfl (by rw [A.2.1]; exact hdg) (Nat.le_trans hR.1 f1) (by show 2 * 0 + _ + _ ≤ _; have := Nat.le_trans hR.2 f2; omega)
  have e1 : copied (vp_cell (G.2.1 .long) (n0, .inr (.inl (mJ M c)))) (vp_cell (G.2.1 .long) (n1, .inr (.inl (mJ M d)))) sp dp n = vp_cell (G.2.1 .long) (n1, .inr (.inl (va_cpy (mJ M c) (mJ M d) sp.toNatClampNeg dp.toNatClampNeg n.toNatClampNeg))) := va_copied (fun z => .long z) _ _ _ _ h4
  rw [e1] at X' step
  have hlH : adr G d < H.size := (Array.getElem?_eq_some_iff.mp hc1).1
  generalize hN : vp_cell (G.2.1 .long) (n1, .inr (.inl (va_cpy (mJ M c) (mJ M d) sp.toNatClampNeg dp.toNatClampNeg n.toNatClampNeg))) = N at X' step
  have hheap : ((T.setVm vm').setCell (adr G d) N).heap = H.setIfInBounds (adr G d) N := by rw [← hT]; rfl
  have oq : ∀ q : Nat, q ≠ adr G d → (H.setIfInBounds (adr G d) N)[q]? = H[q]? := fun q hq => by simp [Array.getElem?_setIfInBounds, Ne.symm hq]
  have hcn : cont G (cpL M c sp d dp n) d = .inl (G.2.1 .long, n1, .inr (.inl (va_cpy (mJ M c) (mJ M d) sp.toNatClampNeg dp.toNatClampNeg n.toNatClampNeg))) := by
    unfold cont
    rw [show mSh (cpL M c sp d dp n) d = .inl (.long, n1) from s2]
    show (Sum.inl (G.2.1 .long, n1, .inr (.inl (u1 (mJ M) d _ d))) : va_E) = _
    rw [u1_eq]
  have hH1 : Hold G (cpL M c sp d dp n) (H.setIfInBounds (adr G d) N) := hold_set hH A.2.2.2.2.2.2.2.2.2.1 q3 rfl (by simp) oq (fun c' q => ⟨rfl, rfl, rfl, u1_ne q⟩) (by rw [hcn]; show (H.setIfInBounds _ _)[_]? = some (vp_cell _ _); rw [hN]; simp [Array.getElem?_setIfInBounds, hlH])
  obtain ⟨t, a1, b1⟩ := (k1 r Me e).2 x M0 (by assumption) A f1 f2 a b cq dq (H.setIfInBounds (adr G d) N) _ ls hH1 ⟨by simp; exact hS.1, fun q g1 g2 => by
      rw [oq q (fun e => g2 (by rw [e]; exact adr_rA q3))]
      exact hS.2.1 q g1 g2, fun q hq => by
      rcases List.mem_append.mp hq with h | h
      · exact hS.2.2 q h
      · obtain ⟨z, -, hz⟩ := List.mem_map.mp h
        rw [← hz]
        exact adr_rA q3⟩ hl _ hheap X'
  exact ⟨t, step t a1, b1⟩
end CoreH
