/-- a method as a callee: its code is among the words, its class is initialised, how many parameters it has -/
def MOk (y : MethodName) (cc : ByteArray) (maxL : Nat) (ret : Option FieldType) (n : Nat) : Prop := Cond.code y cc maxL ret ∈ lwT ∧ Cond.initialized y.cls ∈ lwT ∧ y.cls ≠ "java/lang/invoke/MethodHandle" ∧ y.cls ≠ "java/lang/invoke/VarHandle" ∧ (parseMethodDescriptor y.desc).map (fun d => d.parameters.length) = some n
section CoreG
variable {G : Gx} {l : Launch} {cc : ByteArray} {nL : Nat} {own : String} {ret : Option FieldType} {nm : String} {fr lc : Nat} {α : Type} {Q : Cx → Mem → α → Mem → State → Prop} {M M' : Mem} {pc pc' : Nat} {lv lv' : List (Nat × Value)} {st st' : List Value}
variable {β : Type} {rv : β → Option Value} {kc : Option (β × Mem)} {k : β → Mem → Option (α × Mem)} {y : MethodName} {cc' : ByteArray} {maxL' fr' lc' n idx b ci : Nat} {ret' : Option FieldType} {As rest : List Value}
theorem run_go {x : Cx} {H : Heap} {locs : List Loc} {cells slots mc ms : Nat} {ls : Array Slot} {r : β} {Me : Mem} {a : Array Value} {Q' : State → Prop} (hr : va_Run (xp x) (xl x) (xe x) (xR x) (xs x) (xm x) (xa x) (xb x) (xt x) (xc x) H locs cells slots mc ms (F0 (xm x) pc ls st) rest (QC G rv r Me a) (rA G)) (hS : va_S (rA G) (xs x).heap H locs)
    (kk : ∀ (H1 : Heap) (locs1 : List Loc), Hold G Me H1 → va_S (rA G) (xs x).heap H1 locs1 → WW x H1 locs1 (cells + mc) (slots + ms) Q' (F0 (xm x) (pc + 3) ls ((rv r).toList ++ rest))) : WW x H locs cells slots Q' (F0 (xm x) pc ls st) := by
  intro T hT X
  obtain ⟨v, st₀, t, T', L, h0, X', hL, e1, e2, ⟨hv, hH1, hK1, hz, hk⟩, go⟩ := hr T hT X
  cases hv
  rw [h0] at hz hk
  obtain ⟨t2, a1, b1⟩ := kk T'.heap (locs ++ L) (by rw [e1]; exact hH1)
    ⟨Nat.le_trans hS.1 (by rw [e1]; exact hz), fun q h1 h2 => by rw [e1, hk q (Nat.lt_of_lt_of_le h1 hS.1) h2]; exact hS.2.1 q h1 h2, fun q hq => by
      rcases List.mem_append.mp hq with h | h
      · exact hS.2.2 q h
      · exact hL q h⟩ T' rfl X'
  exact ⟨t2, go t2 a1, b1⟩
theorem pc_blind {args : List Value} : FrameBlind (va_Pc args (fun U => Hold G M U.heap ∧ Kn G U)) := fun a U g mk h => ⟨h.1, h.2.1, Kn_blind h.2.2 g mk a⟩
theorem pc_pre {x : Cx} (A : Act G x cc nL own ret nm) {H : Heap} {locs : List Loc} {args : List Value} (hH : Hold G M H) (hS : va_S (rA G) (xs x).heap H locs) : ∀ U : State, U.heap = H → (xs x).WarmedH U.vm → va_Pc args (fun U => Hold G M U.heap ∧ Kn G U) args.toArray U := fun U hU hW => ⟨rfl, by rw [hU]; exact hH, Kn_move A.2.2.2.2.2.2.2.2 hW (hS.F hU)⟩
/-- out of a callee's run to the walk behind it -/
theorem J_ofRun (hC : Con G l y cc' maxL' ret' fr' lc' rv As M kc)
    (h : ∀ (x : Cx) (A : Act G x cc nL own ret nm) (r : β) (M1 : Mem) (H : Heap) (locs : List Loc) (ls : Array Slot) (cells slots : Nat), xl x = l → fr ≤ (xR x).frames → lc ≤ (xR x).locals → cells + (M1.1 - M.1) ≤ (xR x).cells → slots + (M1.2.1 - M.2.1) ≤ (xR x).slots → Hold G M H → va_S (rA G) (xs x).heap H locs → lv_has ls nL lv → Met (xl x) y (.code y cc' maxL' ret' :: lwT) { frames := fr', cells := M1.1 - M.1, slots := M1.2.1 - M.2.1, locals := lc' } (va_Pc As (fun U => Hold G M U.heap ∧ Kn G U)) (QC G rv r M1) (M1.1 - M.1) (M1.2.1 - M.2.1) (rA G) →
      va_Run (xp x) (xl x) (xe x) (xR x) (xs x) (xm x) (xa x) (xb x) (xt x) (xc x) H locs cells slots (M1.1 - M.1) (M1.2.1 - M.2.1) (F0 (xm x) pc ls st) rest (QC G rv r M1 As.toArray) (rA G))
    (k1 : ∀ r M1, J G l cc nL own ret nm fr lc Q (pc + 3) lv ((rv r).toList ++ rest) M1 (k r M1)) : J G l cc nL own ret nm fr lc Q pc lv st M (bd kc k) := by
  intro r Me e
  cases hk : kc with
  | none => rw [hk] at e; cases e
  | some z =>
    obtain ⟨r1, M1⟩ := z
    rw [hk] at e
    have e : k r1 M1 = some (r, Me) := e
    obtain ⟨⟨g1, g2⟩, hM⟩ := hC r1 M1 hk
    obtain ⟨⟨g3, g4⟩, go⟩ := k1 r1 M1 r Me e
    refine ⟨⟨Nat.le_trans g1 g3, Nat.le_trans g2 g4⟩, fun x M0 e1 A f1 f2 a b c d H locs ls hH hS hl => ?_⟩
    refine run_go (h x A r1 M1 H locs ls _ _ e1 f1 f2 (by omega) (by omega) hH hS hl (by rw [e1]; exact hM)) hS (fun H1 locs1 hH1 hS1 => ?_)
    have q := go x M0 e1 A f1 f2 (Nat.le_trans a g1) (Nat.le_trans b g2) c d H1 locs1 ls hH1 hS1 hl
    rw [show M.1 - M0.1 + (M1.1 - M.1) = M1.1 - M0.1 by omega, show M.2.1 - M0.2.1 + (M1.2.1 - M.2.1) = M1.2.1 - M0.2.1 by omega]
    exact q
theorem J_callV (hC : Con G l y cc' maxL' ret' fr' lc' rv (.ref (adr G b) :: As) M kc) (hm : MOk y cc' maxL' ret' As.length) (T : u_T) (N : Nat) (hq : vwCl[ci]? = some (y.cls, T, N)) (w2 : Cond.methodLink own idx y ∈ lwT) (w3 : Cond.instanceMethod y ∈ lwT) (w4 : Cond.selects y.cls y y ∈ lwT) (hR : fr' + 1 ≤ fr ∧ 8 + (maxL' + 11) + lc' ≤ lc)
    (hst : st = As.reverse ++ .ref (adr G b) :: rest) (hrm : (rest.map fun v => v.category).sum ≤ 8) (hdg : decode cc pc = .ok (.invokevirtual idx, 3))
    (k1 : ∀ r M1, J G l cc nL own ret nm fr lc Q (pc + 3) lv ((rv r).toList ++ rest) M1 (k r M1)) : J G l cc nL own ret nm fr lc Q pc lv st M (cV M ci b kc k) := by
  unfold cV
  refine J_ite (fun h => ?_) (fun _ => J_none)
  obtain ⟨hc, -, e⟩ := okO_spec h
  refine J_ofRun hC (fun x A r M1 H locs ls cells slots e1 f1 f2 c1 c2 hH hS hl hM => ?_) k1
  have hts := A.2.2.2.2.1
  exact va_runV (As := As) (rest := rest) (C := y.cls) (Ts := lwT) (nL := nL) (cc := cc) (own := own) ⟨A.1, A.2.1, A.2.2.1, A.2.2.2.1, hts⟩ hM ⟨callB_of (ws' := lwT) As.length hts (good_tbl hm.1) rfl rfl rfl (hts _ hm.2.1) (hts _ w2) hm.2.2 ⟨Nat.le_trans hR.1 f1, Nat.le_trans hR.2 f2⟩, hts _ w3, hts _ w4⟩ ⟨pc_blind, va_recv A.2.2.2.2.2.2.2.2.1 (va_P1 (hold_obj hH hc e)) (ci := ci) (q0 := 0) hq rfl, pc_pre A hH hS⟩ rfl rfl hl.1 hst (lv_room hrm) hdg ⟨c1, c2⟩
theorem J_callS (hC : Con G l y cc' maxL' ret' fr' lc' rv As M kc) (hm : MOk y cc' maxL' ret' As.length) (w2 : Cond.methodLink own idx y ∈ lwT) (w3 : Cond.static y ∈ lwT) (hR : fr' + 1 ≤ fr ∧ 8 + (maxL' + 11) + lc' ≤ lc)
    (hst : st = As.reverse ++ rest) (hrm : (rest.map fun v => v.category).sum ≤ 8) (hdg : decode cc pc = .ok (.invokestatic idx, 3))
    (k1 : ∀ r M1, J G l cc nL own ret nm fr lc Q (pc + 3) lv ((rv r).toList ++ rest) M1 (k r M1)) : J G l cc nL own ret nm fr lc Q pc lv st M (bd kc k) := by
  refine J_ofRun hC (fun x A r M1 H locs ls cells slots e1 f1 f2 c1 c2 hH hS hl hM => ?_) k1
  have hts := A.2.2.2.2.1
  exact va_runS (As := As) (rest := rest) (Ts := lwT) (nL := nL) (cc := cc) (own := own) ⟨A.1, A.2.1, A.2.2.1, A.2.2.2.1, hts⟩ hM ⟨callB_of (ws' := lwT) As.length hts (good_tbl hm.1) rfl rfl rfl (hts _ hm.2.1) (hts _ w2) hm.2.2 ⟨Nat.le_trans hR.1 f1, Nat.le_trans hR.2 f2⟩, hts _ w3⟩ ⟨pc_blind, pc_pre A hH hS⟩ rfl rfl hl.1 hst (lv_room hrm) hdg ⟨c1, c2⟩
theorem J_callSN {host : String} (hC : Con G l y cc' maxL' ret' fr' lc' rv As M kc) (hm : MOk y cc' maxL' ret' As.length) (w2 : (own, idx, y, host) ∈ lwN) (w3 : Cond.static y ∈ lwT) (hR : fr' + 1 ≤ fr ∧ 8 + (maxL' + 11) + lc' ≤ lc)
    (hst : st = As.reverse ++ rest) (hrm : (rest.map fun v => v.category).sum ≤ 8) (hdg : decode cc pc = .ok (.invokestatic idx, 3))
    (k1 : ∀ r M1, J G l cc nL own ret nm fr lc Q (pc + 3) lv ((rv r).toList ++ rest) M1 (k r M1)) : J G l cc nL own ret nm fr lc Q pc lv st M (bd kc k) := by
  refine J_ofRun hC (fun x A r M1 H locs ls cells slots e1 f1 f2 c1 c2 hH hS hl hM => ?_) k1
  have hts := A.2.2.2.2.1
  exact va_runSN (As := As) (rest := rest) (Ts := lwT) (nL := nL) (cc := cc) (own := own) (host := host) ⟨A.1, A.2.1, A.2.2.1, A.2.2.2.1, hts⟩ hM ⟨va_cnB (ws' := lwT) As.length hts (good_tbl hm.1) rfl rfl rfl (A.2.2.2.2.2.2.2.2.2.2.2.2.1 _ w2) (hts _ hm.2.1) hm.2.2 ⟨Nat.le_trans hR.1 f1, Nat.le_trans hR.2 f2⟩, hts _ w3, trivial⟩ ⟨pc_blind, pc_pre A hH hS⟩ rfl rfl hl.1 hst (lv_room hrm) hdg ⟨c1, c2⟩
theorem J_callI (hC : Con G l y cc' maxL' none fr' lc' rv (.ref (adr G b) :: As) M kc) (hm : MOk y cc' maxL' none As.length) (hy : y.name = "<init>") (w2 : Cond.methodLink own idx y ∈ lwT) (w3 : Cond.instanceMethod y ∈ lwT) (hR : fr' + 1 ≤ fr ∧ 8 + (maxL' + 11) + lc' ≤ lc)
    (hst : st = As.reverse ++ .ref (adr G b) :: rest) (hrm : (rest.map fun v => v.category).sum ≤ 8) (hdg : decode cc pc = .ok (.invokespecial idx, 3))
    (k1 : ∀ r M1, J G l cc nL own ret nm fr lc Q (pc + 3) lv ((rv r).toList ++ rest) M1 (k r M1)) : J G l cc nL own ret nm fr lc Q pc lv st M (bd kc k) := by
  refine J_ofRun hC (fun x A r M1 H locs ls cells slots e1 f1 f2 c1 c2 hH hS hl hM => ?_) k1
  have hts := A.2.2.2.2.1
  exact va_runI (As := As) (rest := rest) (Ts := lwT) (nL := nL) (cc := cc) (own := own) ⟨A.1, A.2.1, A.2.2.1, A.2.2.2.1, hts⟩ hM ⟨callB_of (ws' := lwT) As.length hts (good_tbl hm.1) rfl rfl rfl (hts _ hm.2.1) (hts _ w2) hm.2.2 ⟨Nat.le_trans hR.1 f1, Nat.le_trans hR.2 f2⟩, hy, hts _ w3⟩ ⟨pc_blind, pc_pre A hH hS⟩ rfl rfl hl.1 hst (lv_room hrm) hdg ⟨c1, c2⟩
theorem J_callIN {host : String} (hC : Con G l y cc' maxL' none fr' lc' rv (.ref (adr G b) :: As) M kc) (hm : MOk y cc' maxL' none As.length) (hy : y.name = "<init>") (w2 : (own, idx, y, host) ∈ lwN) (w3 : Cond.instanceMethod y ∈ lwT) (hR : fr' + 1 ≤ fr ∧ 8 + (maxL' + 11) + lc' ≤ lc)
    (hst : st = As.reverse ++ .ref (adr G b) :: rest) (hrm : (rest.map fun v => v.category).sum ≤ 8) (hdg : decode cc pc = .ok (.invokespecial idx, 3))
    (k1 : ∀ r M1, J G l cc nL own ret nm fr lc Q (pc + 3) lv ((rv r).toList ++ rest) M1 (k r M1)) : J G l cc nL own ret nm fr lc Q pc lv st M (bd kc k) := by
  refine J_ofRun hC (fun x A r M1 H locs ls cells slots e1 f1 f2 c1 c2 hH hS hl hM => ?_) k1
  have hts := A.2.2.2.2.1
  exact va_runIN (As := As) (rest := rest) (Ts := lwT) (nL := nL) (cc := cc) (own := own) (host := host) ⟨A.1, A.2.1, A.2.2.1, A.2.2.2.1, hts⟩ hM ⟨va_cnB (ws' := lwT) As.length hts (good_tbl hm.1) rfl rfl rfl (A.2.2.2.2.2.2.2.2.2.2.2.2.1 _ w2) (hts _ hm.2.1) hm.2.2 ⟨Nat.le_trans hR.1 f1, Nat.le_trans hR.2 f2⟩, hy, hts _ w3⟩ ⟨pc_blind, pc_pre A hH hS⟩ rfl rfl hl.1 hst (lv_room hrm) hdg ⟨c1, c2⟩
theorem J_objInit {c : Nat} {k : Option (α × Mem)} (w1 : Cond.methodLink own idx Lib.objectInit ∈ lwT) (w2 : Cond.instanceMethod Lib.objectInit ∈ lwT) (w3 : Cond.code Lib.objectInit ⟨#[0xb1]⟩ 1 none ∈ lwT) (hR : 1 ≤ fr ∧ 20 ≤ lc) (hrm : (st.map fun v => v.category).sum ≤ 8) (hdg : decode cc pc = .ok (.invokespecial idx, 3)) (k1 : J G l cc nL own ret nm fr lc Q (pc + 3) lv st M k) : J G l cc nL own ret nm fr lc Q pc lv (.ref (adr G c) :: st) M k := by
  intro r Me e
  refine ⟨(k1 r Me e).1, fun x M0 e1 A f1 f2 a b c' d H locs ls hH hS hl => ?_⟩
  have hts := A.2.2.2.2.1
  have h8 := lv_room (m := xm x) (pc := pc) (ls := ls) (rest := st) hrm
  refine W.objInit A.1 A.2.1 (own := own) A.2.2.2.1 (hts _ w1) (hts _ w2) (hts _ w3) (g := F0 (xm x) pc ls (.ref (adr G c) :: st)) rfl (hl.1.trans A.2.2.1.symm) rfl hdg (Nat.le_trans hR.1 f1) (Nat.le_trans (Nat.le_trans (Nat.add_le_add_right h8 12) hR.2) f2) ?_
  exact (k1 r Me e).2 x M0 e1 A f1 f2 a b c' d H locs ls hH hS hl
end CoreG
