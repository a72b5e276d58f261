section CoreL
variable {G : Gx} {l : Launch} {cc : ByteArray} {nL : Nat} {own : String} {ret : Option FieldType} {nm : String} {fr lc : Nat} {α : Type} {Q : Cx → Mem → α → Mem → State → Prop} {M M' : Mem} {pc pc' : Nat} {lv lv' : List (Nat × Value)} {st st' : List Value}
theorem J_putRF {k : Mem → Option (α × Mem)} {ci f idx c v : Nat} {ty : FieldType} {n d : String} (F : FdOk ci f ty true own n d) (hw : Cond.fieldLink own idx own n d ∈ lwT) (hrk : (∃ t, ty = .array t) ∨ ∃ t, ty = .object t) (hdg : decode cc pc = .ok (.putfield idx, 3)) (k1 : J G l cc nL own ret "<init>" fr lc Q (pc + 3) lv st (stR M c f (some v)) (k (stR M c f (some v)))) : J G l cc nL own ret "<init>" fr lc Q pc lv (.ref (adr G v) :: .ref (adr G c) :: st) M (pR M ci f c v k) := by
  unfold pR
  refine J_ite (fun h => ?_) (fun _ => J_none)
  obtain ⟨hc, hns, e⟩ := okO_spec h
  refine J_stepS (M' := stR M c f (some v)) rfl rfl (fun x A H locs ls cells slots Q' hH hS _ w => ?_) k1
  obtain ⟨C, T, N, ty0, h1, h2, h3, h4, h5, h6, h7, h8⟩ := F
  have hK := A.2.2.2.2.2.2.2.2.1
  have hts := A.2.2.2.2.1
  have hap := va_apart (own := own) hts h2 ty0 h6 h7 hK h1
  obtain ⟨r, g1, cell, q1, q2, q3, q4⟩ := hold_obj hH hc e
  have hr : r = (C, T, N) := Option.some.inj (g1.symm.trans h1)
  subst hr
  obtain ⟨hSl, hfc, kC, hkC, hkind⟩ := hK.1 ci _ h1
  obtain ⟨cf, kf, fi, fd, hi, hsl⟩ := hSl f h3
  have hi : (xs x).fieldFound? (T f).1 (T f).2.1 (T f).2.2.1 = some (cf, kf, fi, fd) := hi
  have hlay := hts _ (h2 _ (u_in_lay h3))
  unfold u_lay at hlay
  rw [if_pos (by rw [h5])] at hlay
  have hst := (u_facts hfc hkC (u_lays hts h2 h3) hi).1
  have hcf : (xm x).cls = cf := by
    obtain ⟨_, _, c', _, _, _, -, -, hf', -, -, -, hown2, -⟩ := Cond.laysFinal_spec hlay
    have e1 : c' = cf := by have := hi.symm.trans hf'; simp at this; exact this.1.symm
    rw [h5] at hown2
    rw [← e1]; exact Option.some.inj (A.2.2.2.1.symm.trans hown2)
  have hn : narrow ty (.ref (adr G v)) = .ref (adr G v) := by rcases hrk with ⟨t, rfl⟩ | ⟨t, rfl⟩ <;> rfl
  have hfit : fits ty (.ref (adr G v)) = true := by rcases hrk with ⟨t, rfl⟩ | ⟨t, rfl⟩ <;> rfl
  have h9 := u_fits hfc hkC hkind (Or.inr hlay) hi (by rw [h5]; exact h8) hn hfit
  refine W.putFinK A.1 A.2.1 (own := own) (ref := own) (name := n) (desc := d) (index := idx) A.2.2.2.1 (hts _ hw) (by rw [h5] at hi; exact hi) hst hcf (A.2.2.2.2.2.2.2.1 rfl) (by rw [q2]; exact h9) q1 q3 (by rw [hsl]; exact k2_hasslot (q4 f h3)) rfl rfl hdg fun H1 i1 i2 i3 => ?_
  rw [hsl] at i1 ⊢
  refine w H1 _ (hold_set hH A.2.2.2.2.2.2.2.2.2.1 hns rfl i2 i3 (fun c' q => ⟨rfl, u2_ne q, rfl, rfl⟩) ?_) (hS.put i2 i3 (adr_rA hns))
  have hcn : cont G (stR M c f (some v)) c = .inr (ci, (fvals G M c 0 (cfT ci)).set f (.ref (adr G v))) := by
    unfold cont
    rw [show mSh (stR M c f (some v)) c = .inr ci from e]
    show (Sum.inr (ci, fvals G (stR M c f (some v)) c 0 (cfT ci)) : va_E) = _
    rw [fvals_set h4 ?_ (fun k t hk => fval_R hk)]
    have hm : mR (stR M c f (some v)) c f = some v := by show u2 (mR M) c f (some v) c f = _; unfold u2; rw [if_pos ⟨rfl, rfl⟩]
    rcases hrk with ⟨t, rfl⟩ | ⟨t, rfl⟩
    · show va_rf ((mR (stR M c f (some v)) c f).map (adr G)) = _
      rw [hm]; rfl
    · show va_rf ((mR (stR M c f (some v)) c f).map (adr G)) = _
      rw [hm]; rfl
  rw [hcn]
  exact ⟨_, h1, t_OB.to (V := updV (vp_V (fvals G M c 0 (cfT ci))) f (.ref (adr G v))) ⟨_, i1, q2, q3, t_set q4 hap h3 _⟩ (fun j _ => vp_updV_set (by rw [fvals_len]; exact (List.getElem?_eq_some_iff.mp h4).1) _ j)⟩
theorem J_aast {k : Mem → Option (α × Mem)} {ci c v : Nat} {i : Int32} (T : u_T) (N : Nat) (hci : vwCl[ci]? = some ("ChainBooks$Head", T, N)) (hdg : decode cc pc = .ok (.aastore, 1)) (k1 : J G l cc nL own ret nm fr lc Q (pc + 1) lv st (stR M c i.toNatClampNeg (some v)) (k (stR M c i.toNatClampNeg (some v)))) : J G l cc nL own ret nm fr lc Q pc lv (.ref (adr G v) :: .int i :: .ref (adr G c) :: st) M (wR M ci c i v k) := by
  unfold wR
  refine J_ite (fun h => ?_) (fun _ => J_none)
  obtain ⟨⟨ha, hns⟩, hv⟩ := h
  obtain ⟨hc, n, e, hin⟩ := okA_spec ha
  obtain ⟨hvc, -, ev⟩ := okO_spec hv
  refine J_stepS (M' := stR M c i.toNatClampNeg (some v)) rfl rfl (fun x A H locs ls cells slots Q' hH hS _ w => ?_) k1
  have hK := A.2.2.2.2.2.2.2.2.1
  have hlt : i.toNatClampNeg < n := Nat.not_le.mp fun q => hin (Or.inr q)
  have h0 : ¬ i < 0 := fun q => hin (Or.inl q)
  obtain ⟨r', hr', cellV, g1, g2, g3, -⟩ := hold_obj hH hvc ev
  have hcls := (hK.1 ci _ hci).2
  obtain ⟨kA, comp, k1, k2, k3, -⟩ := (hK.2 5 _ rfl).2
  have hcomp : comp = G.1.1 ci := Option.some.inj (k3.symm.trans hcls.1)
  subst hcomp
  obtain ⟨kC, hkC, -⟩ := hcls.2
  have harr : H[adr G c]? = some (vp_cell (G.2.1 (.object "ChainBooks$Head")) (n, .inr (.inr (.inr (.inr (fun i => (mR M c i).map (adr G))))))) := hold_arr hH hns hc e
  refine W.aast A.1 A.2.1 harr (fun q h => by cases h) (fun h => by cases h) k1 k2 rfl hkC ⟨h0, by show _ < (arrV _ _ _).slots.size; rw [arrV_size]; exact hlt⟩ g1 (fun q h => by rw [g3] at h; cases h) (by rw [g2]; exact hkC) (by rw [g2]; exact va_assign hcls) rfl rfl hdg fun H1 e1 z oq => ?_
  refine w H1 _ (hold_set hH A.2.2.2.2.2.2.2.2.2.1 hns rfl z oq (fun c' q => ⟨rfl, u2_ne q, rfl, rfl⟩) ?_) (hS.put z oq (adr_rA hns))
  have hcn : cont G (stR M c i.toNatClampNeg (some v)) c = .inl (G.2.1 (.object "ChainBooks$Head"), n, .inr (.inr (.inr (.inr (fun j => (u2 (mR M) c i.toNatClampNeg (some v) c j).map (adr G)))))) := by
    unfold cont
    rw [show mSh (stR M c i.toNatClampNeg (some v)) c = .inl (.object "ChainBooks$Head", n) from e]
    rfl
  rw [hcn]
  show H1[adr G c]? = some (vp_cell _ _)
  rw [e1, vp_cell_q, vp_cell_q, arrV_store]
  congr 2
  funext q
  by_cases hq : q = i.toNatClampNeg
  · subst hq
    simp [updV, u2, va_rf]
  · simp [updV, u2, hq]
end CoreL
