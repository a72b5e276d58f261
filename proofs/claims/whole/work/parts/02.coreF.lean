/-- behind a method: what it answers, the memory, the tables -/
def QC (G : Gx) {α : Type} (rv : α → Option Value) (r : α) (Me : Mem) : Array Value → State → Outcome → State → Prop := fun _ st o t => o = .returned (rv r) ∧ Hold G Me t.heap ∧ Kn G t ∧ va_F (rA G) st t
/-- a method's contract: from the memory M, if k tells an answer and a memory, the method comes to them -/
def Con (G : Gx) (l : Launch) (y : MethodName) (cc : ByteArray) (maxL : Nat) (ret : Option FieldType) (fr lc : Nat) {α : Type} (rv : α → Option Value) (args : List Value) (M : Mem) (k : Option (α × Mem)) : Prop :=
  ∀ r Me, k = some (r, Me) → (M.1 ≤ Me.1 ∧ M.2.1 ≤ Me.2.1) ∧ Met l y (.code y cc maxL ret :: lwT) { frames := fr, cells := Me.1 - M.1, slots := Me.2.1 - M.2.1, locals := lc } (va_Pc args (fun U => Hold G M U.heap ∧ Kn G U)) (QC G rv r Me) (Me.1 - M.1) (Me.2.1 - M.2.1) (rA G)
/-- the end of a method's walk -/
def QM (G : Gx) {α : Type} (rv : α → Option Value) (x : Cx) (M0 : Mem) (r : α) (Me : Mem) : State → Prop := MQ (xb x) (QC G rv r Me) (xa x) (xs x) (Me.1 - M0.1) (Me.2.1 - M0.2.1) (rA G)
def bd {α β : Type} (c : Option (α × Mem)) (k : α → Mem → Option β) : Option β := match c with
  | some (r, M) => k r M
  | none => none
def cV {α β : Type} (M : Mem) (ci b : Nat) (c : Option (α × Mem)) (k : α → Mem → Option β) : Option β := if okO M ci b = true then bd c k else none
def retZ {β : Type} (v : Int32) (k : Option β) : Option β := if v = 0 ∨ v = 1 then k else none
theorem AOA.moved {u U : State} (hvm : u.vm.Alike U.vm) (h : AOA u) : AOA U := by
  unfold AOA Cond.before Cond.holds at h
  simp only [Cond.value, beq_iff_eq] at h
  cases hc : u.vm.findClass (FieldType.array .int).toString with
  | none => simp [hc] at h
  | some comp =>
    simp only [hc, Option.bind_some, Option.bind_eq_some_iff, Option.map_eq_some_iff] at h
    obtain ⟨c, hi, k, hk, hb⟩ := h
    obtain ⟨k', hk', he⟩ := hvm.2.2 _ _ hk
    have hi2 : (U.vm.classes.findIdx? fun (x : Class) => match x.kind with | .array component _ => component == comp | _ => false) = some c := by
      have e1 := va_idx_bare U.vm comp
      have e2 := va_idx_bare u.vm comp
      have e3 : U.vm.bare = u.vm.bare := by first | exact hvm.bare_eq | exact hvm.bare_eq.symm
      rw [e3] at e1
      exact e1.symm.trans (e2.trans hi)
    have hkd : k'.kind = k.kind := by rw [he]
    have f1 : U.vm.findClass (FieldType.array .int).toString = some comp := by rw [hvm.findClass]; exact hc
    have f2 : ∀ n, U.vm.findClass n = u.vm.findClass n := fun n => hvm.findClass n _
    unfold AOA Cond.before Cond.holds
    simp only [Cond.value]
    rw [f1, Option.bind_some]
    refine (congrArg (fun o : Option Nat => (o.bind (fun c => (U.vm.classes[c]?).map fun (k : Class) => match k.kind with | .array _ ty => decide (ty = FieldType.array .int) && decide (U.vm.findClass ("[" ++ (FieldType.array .int).toString) = some c) | _ => false) == some true)) hi2).trans ?_
    simp only [Option.bind_some, hk', Option.map_some, hkd, f2]
    exact beq_iff_eq.mpr (congrArg some hb)
theorem Kn_move {G : Gx} {s U : State} (h : Kn G s) (hW : s.WarmedH U.vm) (hF : va_F (rA G) s U) : Kn G U := by
  obtain ⟨h1, h2, h3, h4, h5, h6, h7, h8⟩ := h
  refine ⟨va_K.moved hW.alike h1, h2, Nat.le_trans h3 hF.1, fun j C n d hj => ?_, fun q hq => (h5 q hq).warmM hW, va_AO.moved hW.alike h6, AOA.moved hW.alike h7, fun c hc cell hq => State.isArrayOf_alike hW.alike (h8 c hc cell (by rw [← hF.2 _ (Nat.lt_of_lt_of_le (h2 c hc) h3) (Nat.not_le.mpr (h2 c hc))]; exact hq))⟩
  obtain ⟨cf, kf, fi, f, a, cell, g1, g2, g3, g4, g5, g6, g7, g8⟩ := va_Z.moved hW.alike (h4 j C n d hj)
  exact ⟨cf, kf, fi, f, a, cell, g1, g2, g3, g4, by rw [hF.2 a (Array.getElem?_eq_some_iff.mp g5).1 g8]; exact g5, g6, g7, g8⟩
theorem Kn_blind {G : Gx} {U : State} (h : Kn G U) (g : JFrame) (mk : MethodId) (a : Array Value) : Kn G (U.calling g mk a) := by
  obtain ⟨h1, h2, h3, h4, h5, h6, h7, h8⟩ := h
  exact ⟨va_K.moved (u := U) (U := U.calling g mk a) (Vm.Alike.refl U.vm) h1, h2, h3, fun j C n d hj => va_Z.moved (u := U) (U := U.calling g mk a) (Vm.Alike.refl U.vm) (h4 j C n d hj), fun q hq => va_Nw.same rfl (u := U) (U := U.calling g mk a) rfl (h5 q hq), va_AO.moved (u := U) (U := U.calling g mk a) (Vm.Alike.refl U.vm) h6, AOA.moved (u := U) (U := U.calling g mk a) (Vm.Alike.refl U.vm) h7, fun c hc cell hq => State.isArrayOf_alike (Vm.Alike.refl U.vm) (h8 c hc cell hq)⟩
section CoreF
variable {G : Gx} {l : Launch} {cc : ByteArray} {nL : Nat} {own : String} {ret : Option FieldType} {nm : String} {fr lc : Nat} {α : Type} {Q : Cx → Mem → α → Mem → State → Prop} {M M' : Mem} {pc pc' : Nat} {lv lv' : List (Nat × Value)} {st st' : List Value}
theorem qc_of {x : Cx} (A : Act G x cc nL own ret nm) {rv : α → Option Value} {r : α} {H : Heap} {locs : List Loc} (hH : Hold G M H) (hS : va_S (rA G) (xs x).heap H locs) : ∀ t : State, t.heap = H → (xs x).WarmedH t.vm → QC G rv r M (xa x) (xs x) (.returned (rv r)) t := fun t ht hW => ⟨rfl, by rw [ht]; exact hH, Kn_move A.2.2.2.2.2.2.2.2 hW (hS.F ht), hS.F ht⟩
theorem J_iret {v : Int32} (hdg : decode cc pc = .ok (.ireturn, 1)) : J G l cc nL own (some .int) nm fr lc (QM G (fun v : Int32 => some (.int v))) pc lv [.int v] M (some (v, M)) := by
  intro r Me e
  cases e
  refine ⟨⟨Nat.le_refl _, Nat.le_refl _⟩, fun x M0 e1 A f1 f2 a b c d H locs ls hH hS hl => ?_⟩
  exact W.iret A.1 A.2.1 A.2.2.2.2.2.2.1 (qc_of (rv := fun v : Int32 => some (.int v)) A hH hS) hS.2.2 hdg (hlocks := A.2.2.2.2.2.1)
theorem J_zret {v : Int32} (hdg : decode cc pc = .ok (.ireturn, 1)) : J G l cc nL own (some .boolean) nm fr lc (QM G (fun v : Int32 => some (.int v))) pc lv [.int v] M (retZ v (some (v, M))) := by
  unfold retZ
  refine J_ite (fun h => ?_) (fun _ => J_none)
  intro r Me e
  cases e
  refine ⟨⟨Nat.le_refl _, Nat.le_refl _⟩, fun x M0 e1 A f1 f2 a b c d H locs ls hH hS hl => ?_⟩
  exact W.zret A.1 A.2.1 A.2.2.2.2.2.2.1 (by rcases h with rfl | rfl <;> decide) (qc_of (rv := fun v : Int32 => some (.int v)) A hH hS) hS.2.2 hdg (hlocks := A.2.2.2.2.2.1)
theorem J_lret {v : Int64} (hdg : decode cc pc = .ok (.lreturn, 1)) : J G l cc nL own (some .long) nm fr lc (QM G (fun v : Int64 => some (.long v))) pc lv [.long v] M (some (v, M)) := by
  intro r Me e
  cases e
  refine ⟨⟨Nat.le_refl _, Nat.le_refl _⟩, fun x M0 e1 A f1 f2 a b c d H locs ls hH hS hl => ?_⟩
  exact W.lret A.1 A.2.1 A.2.2.2.2.2.2.1 (qc_of (rv := fun v : Int64 => some (.long v)) A hH hS) hS.2.2 hdg (hlocks := A.2.2.2.2.2.1)
theorem J_vret (hdg : decode cc pc = .ok (.return_, 1)) : J G l cc nL own none nm fr lc (QM G (fun _ : Unit => none)) pc lv [] M (some ((), M)) := by
  intro r Me e
  cases e
  refine ⟨⟨Nat.le_refl _, Nat.le_refl _⟩, fun x M0 e1 A f1 f2 a b c d H locs ls hH hS hl => ?_⟩
  exact W.vret A.1 A.2.1 A.2.2.2.2.2.2.1 (qc_of (r := ()) (rv := fun _ : Unit => none) A hH hS) hS.2.2 hdg (hlocks := A.2.2.2.2.2.1)
theorem J_aret {t : FieldType} {c : Nat} (hdg : decode cc pc = .ok (.areturn, 1)) : J G l cc nL own (some (.array t)) nm fr lc (QM G (fun c : Nat => some (.ref (adr G c)))) pc lv [.ref (adr G c)] M (some (c, M)) := by
  intro r Me e
  cases e
  refine ⟨⟨Nat.le_refl _, Nat.le_refl _⟩, fun x M0 e1 A f1 f2 a b c d H locs ls hH hS hl => ?_⟩
  exact W.aret A.1 A.2.1 A.2.2.2.2.2.2.1 (Or.inr ⟨t, rfl⟩) (Or.inr ⟨_, rfl⟩) (qc_of (rv := fun c : Nat => some (.ref (adr G c))) A hH hS) hS.2.2 hdg (hlocks := A.2.2.2.2.2.1)
/-- a method's walk gives its contract -/
theorem con_of {y : MethodName} {rv : α → Option Value} {args : List Value} {k : Option (α × Mem)} (hy : plainName y.cls = true) (ho : y.cls = own) (hnm : y.name = nm) (hlen : (lg_sl args).length ≤ nL)
    (h : J G l cc nL own ret nm fr lc (QM G rv) 0 (lv_args 0 args) [] M k) : Con G l y cc nL ret fr lc rv args M k := by
  intro r Me e
  refine ⟨(h r Me e).1, ?_⟩
  refine Met.ofW (cc := cc) (maxL := nL) (ret := ret) hy rfl ?_
  intro p e' s m as below meth c s₁ B hml hv
  obtain ⟨rfl, hH, hKn⟩ := hv
  have hts := atoms_spec (ws := .code y cc nL ret :: lwT) B.pre
  have hown : s.vm.findClass own = some m.cls := by rw [← ho]; exact findClass_of_methodNamed B.named
  have q := (h r Me e).2 (p, l, e', { frames := fr, cells := Me.1 - M.1, slots := Me.2.1 - M.2.1, locals := lc }, s, m, args.toArray, below, meth, c) M rfl ⟨B.exec, B.bytes, hml, hown, fun w hw => hts w (List.mem_cons_of_mem _ hw), B.notSynchronized, B.returns, fun _ => (name_of_methodNamed B.named B.method).1.trans hnm, hKn⟩ (Nat.le_refl _) (Nat.le_refl _) (Nat.le_refl _) (Nat.le_refl _) (Nat.le_refl _) (Nat.le_refl _) s.heap [] _ hH va_S.rf (lv_entry args hlen)
  rw [Nat.sub_self, Nat.sub_self] at q
  rw [lg_entry_eq]
  exact q
end CoreF
