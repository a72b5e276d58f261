theorem outer_arr (c : ClassId) (N h0 : Nat) : ∀ i : Nat, Jvm.Free.Multi.outerC c N h0 i = arrV c N (fun j => va_rf (if j < i then some (h0 + 1 + j) else none))
  | 0 => by
    show ({ cls := c, slots := Array.replicate N .null, vm := .none } : Cell) = _
    rw [arrV_new]
    exact congrArg (arrV c N) (funext fun j => by simp [va_rf])
  | i + 1 => by
    show (Jvm.Free.Multi.outerC c N h0 i).setSlot i (.ref (h0 + 1 + i)) = _
    rw [outer_arr c N h0 i, arrV_store]
    refine congrArg (arrV c N) (funext fun j => ?_)
    by_cases e : j = i
    · subst e
      simp [updV, va_rf]
    · by_cases h : j < i
      · simp [updV, e, h, Nat.lt_succ_of_lt h]
      · simp [updV, e, h, show ¬ j < i + 1 by omega]
section CoreM
variable {G : Gx} {l : Launch} {cc : ByteArray} {nL : Nat} {own : String} {ret : Option FieldType} {nm : String} {fr lc : Nat} {α : Type} {Q : Cx → Mem → α → Mem → State → Prop} {M M' : Mem} {pc pc' : Nat} {lv lv' : List (Nat × Value)} {st st' : List Value}
theorem J_multi {k : Nat → Mem → Option (α × Mem)} {n m : Int32} {idx : Nat} (w1 : Cond.classLink own idx "[[I" ∈ lwT) (w2 : Cond.arrayClass .int ∈ lwT) (hdg : decode cc pc = .ok (.multianewarray idx 2, 4)) (k1 : J G l cc nL own ret nm fr lc Q (pc + 4) lv (.ref (adr G M.1) :: st) (nwGM M n.toNatClampNeg m.toNatClampNeg) (k M.1 (nwGM M n.toNatClampNeg m.toNatClampNeg))) : J G l cc nL own ret nm fr lc Q pc lv (.int m :: .int n :: st) M (nwG M n m k) := by
  unfold nwG
  refine J_ite (fun h => ?_) (fun _ => J_none)
  obtain ⟨⟨hn, hm⟩, hN, hM⟩ := h
  generalize hNe : n.toNatClampNeg = N at *
  generalize hKe : m.toNatClampNeg = K at *
  refine J_stepN (M' := nwGM M N K) (by show M.1 ≤ M.1 + 1 + N; omega) (by show M.2.1 ≤ M.2.1 + N + N * K; omega) (fun x A H locs ls cells slots Q' c1 c2 hH hS hl w => ?_) k1
  have e1 : (nwGM M N K).1 - M.1 = 1 + N := by show M.1 + 1 + N - M.1 = _; omega
  have e2 : (nwGM M N K).2.1 - M.2.1 = N + N * K := by show M.2.1 + N + N * K - M.2.1 = _; omega
  rw [e1, e2] at w
  rw [e1] at c1
  rw [e2] at c2
  have hts := A.2.2.2.2.1
  have hK := A.2.2.2.2.2.2.2.2.1
  intro T hT X
  subst hNe
  subst hKe
  obtain ⟨vm₁, cA, comp, -, fA, fC, hO, -, X', step⟩ := X.multianewarray2F (ty := .int) A.1 (own := own) (index := idx) A.2.2.2.1 (hts _ w1) (show (Cond.arrayOver (.array .int)).before (xa x) (xs x) = true from A.2.2.2.2.2.2.2.2.2.2.2.2.2.2.1) (hts _ w2) (g := F0 (xm x) pc ls (.int m :: .int n :: st)) rfl (by rw [A.2.1]; exact hdg) rfl hn hm (by omega) (by show m.toNatClampNeg * 4 ≤ _; omega) (by omega) rfl rfl c1 c2
  have hcA : cA = G.2.1 (.array .int) := Option.some.inj (fA.symm.trans (hK.2 4 _ rfl).2)
  have hco : comp = G.2.1 .int := Option.some.inj (fC.symm.trans (hK.2 0 _ rfl).2)
  subst hcA
  subst hco
  generalize hN : n.toNatClampNeg = N at *
  generalize hK9 : m.toNatClampNeg = K at *
  generalize hF : Jvm.Free.Multi.fill (T.setVm vm₁) (G.2.1 (.array .int)) (G.2.1 .int) N K (defaultValue .int) N = F at X' step
  have hTh : (T.setVm vm₁).heap = H := hT
  obtain ⟨f1, f2, -, -⟩ := Jvm.Free.Multi.fill_facts (T.setVm vm₁) (G.2.1 (.array .int)) (G.2.1 .int) N K (defaultValue .int) N
  rw [hF, hTh] at f1 f2
  have hold : ∀ q : Nat, q < H.size → F.heap[q]? = H[q]? := fun q hq => by
    have := Jvm.Free.Multi.fill_old (T.setVm vm₁) (G.2.1 (.array .int)) (G.2.1 .int) N K (defaultValue .int) (a := q) (by rw [hTh]; exact hq) N
    rw [hF, hTh] at this
    exact this
  have hrow : ∀ j : Nat, j < N → F.heap[H.size + 1 + j]? = some (arrV (G.2.1 .int) K (fun _ => .int 0)) := fun j hj => by
    have := Jvm.Free.Multi.fill_inner (T.setVm vm₁) (G.2.1 (.array .int)) (G.2.1 .int) N K (defaultValue .int) N j hj
    rw [hF, hTh] at this
    rw [this]
    show some ({ cls := _, slots := Array.replicate K (.int 0), vm := .none } : Cell) = _
    rw [arrV_new]
  rw [outer_arr] at f2
  have hlo := hH.1
  have hsz := hH.2.1
  have hH1 : Hold G (nwGM M N K) F.heap := by
    refine ⟨by show nS ≤ M.1 + 1 + N; omega, by rw [f1]; show _ = G.2.2.1 + (M.1 + 1 + N - nS); omega, fun c hcn0 hc => ?_, fun c hc => ?_⟩
    rotate_left
    · have q1 : c ≠ M.1 := by omega
      have q2 : ¬ M.1 < c := by omega
      obtain ⟨n', cell, g1, g2, g3, g4, g5⟩ := hH.2.2.2 c hc
      refine ⟨n', cell, ?_, by rw [hold _ (Array.getElem?_eq_some_iff.mp g2).1]; exact g2, g3, g4, fun j hj => ?_⟩
      · show (if c = M.1 then _ else if M.1 < c ∧ c < M.1 + 1 + N then _ else _) = _
        rw [if_neg q1, if_neg (fun z => q2 z.1)]
        exact g1
      · rw [g5 j hj]
        show _ = some (Value.int ((if M.1 < c ∧ c < M.1 + 1 + N then _ else mI M c) j))
        rw [if_neg (fun z => q2 z.1)]
    have hc : c < M.1 + 1 + N := hc
    by_cases q1 : c = M.1
    · subst q1
      have hcn : cont G (nwGM M N K) M.1 = .inl (G.2.1 (.array .int), N, .inr (.inr (.inr (.inr (fun i => (if i < N then some (M.1 + 1 + i) else none).map (adr G)))))) := by
        unfold cont
        rw [show mSh (nwGM M N K) M.1 = .inl (.array .int, N) from if_pos rfl]
        show (Sum.inl (G.2.1 (.array .int), N, .inr (.inr (.inr (.inr (fun i => (u1 (mR M) M.1 (fun i => if i < N then some (M.1 + 1 + i) else none) M.1 i).map (adr G)))))) : va_E) = _
        rw [u1_eq]
      rw [hcn, adr_top hH]
      show F.heap[H.size]? = some (vp_cell _ _)
      rw [f2, vp_cell_q]
      refine congrArg (fun z => some (arrV _ N z)) (funext fun j => ?_)
      by_cases hj : j < N
      · rw [if_pos hj, if_pos hj]
        have ha : adr G (M.1 + 1 + j) = H.size + 1 + j := by
          unfold adr
          rw [if_neg (show ¬ M.1 + 1 + j < nS by omega)]
          omega
        show Value.ref (H.size + 1 + j) = Value.ref (adr G (M.1 + 1 + j))
        rw [ha]
      · rw [if_neg hj, if_neg hj]
        rfl
    · by_cases q2 : M.1 < c
      · have hsh : mSh (nwGM M N K) c = .inl (.int, K) := by
          show (if c = M.1 then _ else if M.1 < c ∧ c < M.1 + 1 + N then _ else _) = _
          rw [if_neg q1, if_pos ⟨q2, hc⟩]
        have hI : mI (nwGM M N K) c = fun _ => 0 := by
          show (if M.1 < c ∧ c < M.1 + 1 + N then _ else _) = _
          rw [if_pos ⟨q2, hc⟩]
        have hcn : cont G (nwGM M N K) c = .inl (G.2.1 .int, K, .inl (fun _ => 0)) := by
          unfold cont
          rw [hsh]
          show (Sum.inl (G.2.1 .int, K, .inl (mI (nwGM M N K) c)) : va_E) = _
          rw [hI]
        rw [hcn]
        show F.heap[adr G c]? = some (vp_cell _ _)
        have ha : adr G c = H.size + 1 + (c - M.1 - 1) := by
          unfold adr
          rw [if_neg (by omega)]
          omega
        rw [ha, hrow _ (by omega), vp_cell_i]
      · have hcn : cont G (nwGM M N K) c = cont G M c := by
          refine cont_congr ?_ (u1_ne q1) ?_ rfl
          · show (if c = M.1 then _ else if M.1 < c ∧ c < M.1 + 1 + N then _ else _) = _
            rw [if_neg q1, if_neg (fun z => q2 z.1)]
          · show (if M.1 < c ∧ c < M.1 + 1 + N then _ else _) = _
            rw [if_neg (fun z => q2 z.1)]
        rw [hcn]
        have h := hH.2.2.1 c hcn0 (by omega)
        exact h.kept (hold _ h.lt)
  obtain ⟨t, a1, b1⟩ := w F.heap hH1 (vaS_push hS (by omega) hold) F rfl (by
    have z1 : cells + (1 + N) = cells + 1 + N := by omega
    have z2 : slots + (N + N * K) = slots + N + N * K := by omega
    rw [z1, z2]
    exact X')
  refine ⟨t, step t ?_, b1⟩
  have hT2 : T.heap.size = adr G M.1 := by rw [adr_top hH, ← hT]
  rw [hT2]
  exact a1
end CoreM
