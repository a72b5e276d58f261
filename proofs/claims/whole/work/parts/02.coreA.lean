-- THE MEMORY: cells by number; cells below nS are the static rows of ints; shapes, references, ints, longs
abbrev Shp : Type := (FieldType × Nat) ⊕ Nat
abbrev Mem : Type := Nat × Nat × (Nat → Shp) × (Nat → Nat → Option Nat) × (Nat → Nat → Int32) × (Nat → Nat → Int64)
abbrev Gx : Type := va_G × (FieldType → ClassId) × Nat × (Nat → Nat)
abbrev Cx : Type := Program × Launch × Env × Room × State × MethodId × Array Value × List Frame × Method × Code
abbrev mSh (M : Mem) : Nat → Shp := M.2.2.1
abbrev mR (M : Mem) : Nat → Nat → Option Nat := M.2.2.2.1
abbrev mI (M : Mem) : Nat → Nat → Int32 := M.2.2.2.2.1
abbrev mJ (M : Mem) : Nat → Nat → Int64 := M.2.2.2.2.2
def u2 {α : Type} (f : Nat → Nat → α) (c i : Nat) (x : α) : Nat → Nat → α := fun c' i' => if c' = c ∧ i' = i then x else f c' i'
def stI (M : Mem) (c i : Nat) (x : Int32) : Mem := (M.1, M.2.1, mSh M, mR M, u2 (mI M) c i x, mJ M)
def stJ (M : Mem) (c i : Nat) (x : Int64) : Mem := (M.1, M.2.1, mSh M, mR M, mI M, u2 (mJ M) c i x)
def stR (M : Mem) (c i : Nat) (x : Option Nat) : Mem := (M.1, M.2.1, mSh M, u2 (mR M) c i x, mI M, mJ M)
def adr (G : Gx) (c : Nat) : Nat := if c < nS then G.2.2.2 c else G.2.2.1 + (c - nS)
def rA (G : Gx) : Nat → Prop := fun q => G.2.2.1 ≤ q
def fval (G : Gx) (M : Mem) (c f : Nat) (ty : FieldType) : Value := match ty with
  | .long => .long (mJ M c f)
  | .array _ => va_rf ((mR M c f).map (adr G))
  | .object _ => va_rf ((mR M c f).map (adr G))
  | _ => .int (mI M c f)
def fvals (G : Gx) (M : Mem) (c : Nat) : Nat → List FieldType → List Value
  | _, [] => []
  | f, ty :: r => fval G M c f ty :: fvals G M c (f + 1) r
def rowOf (G : Gx) (M : Mem) (c : Nat) (ty : FieldType) : (Nat → Int32) ⊕ (Nat → Int64) ⊕ (Nat → UInt32) ⊕ (Nat → UInt64) ⊕ (Nat → Option Nat) := match ty with
  | .long => .inr (.inl (mJ M c))
  | .array _ => .inr (.inr (.inr (.inr (fun i => (mR M c i).map (adr G)))))
  | .object _ => .inr (.inr (.inr (.inr (fun i => (mR M c i).map (adr G)))))
  | _ => .inl (mI M c)
def cont (G : Gx) (M : Mem) (c : Nat) : va_E := match mSh M c with
  | .inl (ty, n) => .inl (G.2.1 ty, n, rowOf G M c ty)
  | .inr ci => .inr (ci, fvals G M c 0 (cfT ci))
def Hold (G : Gx) (M : Mem) (H : Heap) : Prop := nS ≤ M.1 ∧ H.size = G.2.2.1 + (M.1 - nS) ∧ (∀ c, nS ≤ c → c < M.1 → va_at G.1 vwCl (adr G c, cont G M c) H) ∧ ∀ c, c < nS → ∃ (n : Nat) (cell : Cell), mSh M c = .inl (.int, n) ∧ H[adr G c]? = some cell ∧ cell.vm ≠ .unknown ∧ (n ≤ cell.slots.size ∧ cell.slots.size.toInt32 = n.toInt32) ∧ ∀ j, j < n → cell.slots[j]? = some (.int (mI M c j))
def tysG (G : Gx) : List (ClassId × FieldType) := aTys.map (fun t => (G.2.1 t, t))
def AOA (U : State) : Prop := (Cond.arrayOver (.array .int)).before #[] U = true
/-- the tables, and the statics' own cells: what a state knows, and keeps -/
def Kn (G : Gx) (U : State) : Prop := va_K G.1 vwCl (tysG G) U ∧ (∀ c, c < nS → G.2.2.2 c < G.2.2.1) ∧ G.2.2.1 ≤ U.heap.size ∧ (∀ j C n d, sTab[j]? = some (C, n, d) → va_Z C n d (.ref (G.2.2.2 j)) (rA G) U U.heap) ∧ (∀ q ∈ lwN, va_Nw (.methodLinkNest q.1 q.2.1 q.2.2.1 q.2.2.2) U) ∧ va_AO "ChainBooks$Head" U ∧ AOA U ∧ ∀ c, c < nS → ∀ cell, U.heap[G.2.2.2 c]? = some cell → U.isArrayOf cell .int
abbrev xp (x : Cx) := x.1
abbrev xl (x : Cx) := x.2.1
abbrev xe (x : Cx) := x.2.2.1
abbrev xR (x : Cx) := x.2.2.2.1
abbrev xs (x : Cx) := x.2.2.2.2.1
abbrev xm (x : Cx) := x.2.2.2.2.2.1
abbrev xa (x : Cx) := x.2.2.2.2.2.2.1
abbrev xb (x : Cx) := x.2.2.2.2.2.2.2.1
abbrev xt (x : Cx) := x.2.2.2.2.2.2.2.2.1
abbrev xc (x : Cx) := x.2.2.2.2.2.2.2.2.2
abbrev WW (x : Cx) (H : Heap) (locs : List Loc) (cells slots : Nat) (Q : State → Prop) (g : JFrame) : Prop := W (xp x) (xl x) (xe x) (xR x) (xs x) (xm x) (xa x) (xb x) (xt x) (xc x) H locs cells slots Q g
/-- an activation: the machine's exec, the method's bytes, its locals, its class, the words, its name and what it returns -/
def Act (G : Gx) (x : Cx) (cc : ByteArray) (nL : Nat) (own : String) (ret : Option FieldType) (nm : String) : Prop :=
  (xp x).tables.exec = Jvm.exec ∧ (xc x).code = cc ∧ (xc x).maxLocals = nL ∧ (xs x).vm.findClass own = some (xm x).cls ∧ (∀ w ∈ lwT, w.before (xa x) (xs x) = true) ∧ (xt x).locks = false ∧ (xt x).sig.returnType = ret ∧ (nm = "<init>" → (xt x).name = nm) ∧ Kn G (xs x)
/-- from pc with these locals, stack and memory the machine goes on to what k tells -/
def J (G : Gx) (l : Launch) (cc : ByteArray) (nL : Nat) (own : String) (ret : Option FieldType) (nm : String) (fr lc : Nat) {α : Type} (Q : Cx → Mem → α → Mem → State → Prop) (pc : Nat) (lv : List (Nat × Value)) (st : List Value) (M : Mem) (k : Option (α × Mem)) : Prop :=
  ∀ r Me, k = some (r, Me) → (M.1 ≤ Me.1 ∧ M.2.1 ≤ Me.2.1) ∧ ∀ (x : Cx) (M0 : Mem), xl x = l → Act G x cc nL own ret nm → fr ≤ (xR x).frames → lc ≤ (xR x).locals → M0.1 ≤ M.1 → M0.2.1 ≤ M.2.1 → Me.1 - M0.1 ≤ (xR x).cells → Me.2.1 - M0.2.1 ≤ (xR x).slots →
    ∀ H locs ls, Hold G M H → va_S (rA G) (xs x).heap H locs → lv_has ls nL lv → WW x H locs (M.1 - M0.1) (M.2.1 - M0.2.1) (Q x M0 r Me) (F0 (xm x) pc ls st)
section CoreA
variable {G : Gx} {l : Launch} {cc : ByteArray} {nL : Nat} {own : String} {ret : Option FieldType} {nm : String} {fr lc : Nat} {α : Type} {Q : Cx → Mem → α → Mem → State → Prop} {M M' : Mem} {pc pc' : Nat} {lv lv' : List (Nat × Value)} {st st' : List Value} {k k1 k2 : Option (α × Mem)}
theorem J_step (h : ∀ (x : Cx) (A : Act G x cc nL own ret nm) (H : Heap) (locs : List Loc) (ls : Array Slot) (cells slots : Nat) (Q' : State → Prop), lv_has ls nL lv → WW x H locs cells slots Q' (F0 (xm x) pc' ls st') → WW x H locs cells slots Q' (F0 (xm x) pc ls st))
    (k1 : J G l cc nL own ret nm fr lc Q pc' lv st' M k) : J G l cc nL own ret nm fr lc Q pc lv st M k := fun r Me e =>
  ⟨(k1 r Me e).1, fun x M0 e1 A f1 f2 a b c d H locs ls hH hS hl => h x A H locs ls _ _ _ hl ((k1 r Me e).2 x M0 e1 A f1 f2 a b c d H locs ls hH hS hl)⟩
theorem J_stepL (h : ∀ (x : Cx) (A : Act G x cc nL own ret nm) (H : Heap) (locs : List Loc) (ls : Array Slot) (cells slots : Nat) (Q' : State → Prop), lv_has ls nL lv → (∀ ls' : Array Slot, lv_has ls' nL lv' → WW x H locs cells slots Q' (F0 (xm x) pc' ls' st')) → WW x H locs cells slots Q' (F0 (xm x) pc ls st))
    (k1 : J G l cc nL own ret nm fr lc Q pc' lv' st' M k) : J G l cc nL own ret nm fr lc Q pc lv st M k := fun r Me e =>
  ⟨(k1 r Me e).1, fun x M0 e1 A f1 f2 a b c d H locs ls hH hS hl => h x A H locs ls _ _ _ hl (fun ls' hl' => (k1 r Me e).2 x M0 e1 A f1 f2 a b c d H locs ls' hH hS hl')⟩
theorem J_stepH (h : ∀ (x : Cx) (A : Act G x cc nL own ret nm) (H : Heap) (locs : List Loc) (ls : Array Slot) (cells slots : Nat) (Q' : State → Prop), Hold G M H → va_S (rA G) (xs x).heap H locs → lv_has ls nL lv → WW x H locs cells slots Q' (F0 (xm x) pc' ls st') → WW x H locs cells slots Q' (F0 (xm x) pc ls st))
    (k1 : J G l cc nL own ret nm fr lc Q pc' lv st' M k) : J G l cc nL own ret nm fr lc Q pc lv st M k := fun r Me e =>
  ⟨(k1 r Me e).1, fun x M0 e1 A f1 f2 a b c d H locs ls hH hS hl => h x A H locs ls _ _ _ hH hS hl ((k1 r Me e).2 x M0 e1 A f1 f2 a b c d H locs ls hH hS hl)⟩
theorem J_stepS (e1 : M'.1 = M.1) (e2 : M'.2.1 = M.2.1) (h : ∀ (x : Cx) (A : Act G x cc nL own ret nm) (H : Heap) (locs : List Loc) (ls : Array Slot) (cells slots : Nat) (Q' : State → Prop), Hold G M H → va_S (rA G) (xs x).heap H locs → lv_has ls nL lv → (∀ (H1 : Heap) (locs1 : List Loc), Hold G M' H1 → va_S (rA G) (xs x).heap H1 locs1 → WW x H1 locs1 cells slots Q' (F0 (xm x) pc' ls st')) → WW x H locs cells slots Q' (F0 (xm x) pc ls st))
    (k1 : J G l cc nL own ret nm fr lc Q pc' lv st' M' k) : J G l cc nL own ret nm fr lc Q pc lv st M k := by
  intro r Me e
  have q := k1 r Me e
  rw [e1, e2] at q
  exact ⟨q.1, fun x M0 e1 A f1 f2 a b c d H locs ls hH hS hl => h x A H locs ls _ _ _ hH hS hl (fun H1 locs1 hH1 hS1 => q.2 x M0 e1 A f1 f2 a b c d H1 locs1 ls hH1 hS1 hl)⟩
theorem J_none : J G l cc nL own ret nm fr lc Q pc lv st M none := fun r Me e => by cases e
theorem J_ite {c : Prop} [Decidable c] (h1 : c → J G l cc nL own ret nm fr lc Q pc lv st M k1) (h2 : ¬ c → J G l cc nL own ret nm fr lc Q pc lv st M k2) : J G l cc nL own ret nm fr lc Q pc lv st M (if c then k1 else k2) := by
  by_cases hc : c
  · rw [if_pos hc]; exact h1 hc
  · rw [if_neg hc]; exact h2 hc
theorem J_sub (ks : List Nat) (hl : lv_pick lv ks = lv') (k1 : J G l cc nL own ret nm fr lc Q pc lv' st M k) : J G l cc nL own ret nm fr lc Q pc lv st M k := fun r Me e =>
  ⟨(k1 r Me e).1, fun x M0 e1 A f1 f2 a b c d H locs ls hH hS h => (k1 r Me e).2 x M0 e1 A f1 f2 a b c d H locs ls hH hS (lv_sub h ks hl)⟩
-- constants, locals, stack, arithmetic
theorem J_iconst {n : Int} {v : Int32} (hdg : decode cc pc = .ok (.iconst n, 1)) (hv : Int32.ofInt n = v) (k1 : J G l cc nL own ret nm fr lc Q (pc + 1) lv (.int v :: st) M k) : J G l cc nL own ret nm fr lc Q pc lv st M k := J_step (fun x A _ _ _ _ _ _ _ w => lv_iconst A.1 A.2.1 hdg hv w) k1
theorem J_bipush {n : Int} {v : Int32} (hdg : decode cc pc = .ok (.bipush n, 2)) (hv : (Int8.ofInt n).toInt32 = v) (k1 : J G l cc nL own ret nm fr lc Q (pc + 2) lv (.int v :: st) M k) : J G l cc nL own ret nm fr lc Q pc lv st M k := J_step (fun x A _ _ _ _ _ _ _ w => lv_bipush A.1 A.2.1 hdg hv w) k1
theorem J_sipush {n : Int} {v : Int32} (hdg : decode cc pc = .ok (.sipush n, 3)) (hv : (Int16.ofInt n).toInt32 = v) (k1 : J G l cc nL own ret nm fr lc Q (pc + 3) lv (.int v :: st) M k) : J G l cc nL own ret nm fr lc Q pc lv st M k := J_step (fun x A _ _ _ _ _ _ _ w => lv_sipush A.1 A.2.1 hdg hv w) k1
theorem J_lconst {n : Fin 2} {v : Int64} (hdg : decode cc pc = .ok (.lconst n, 1)) (hv : Int64.ofNat (n : Nat) = v) (k1 : J G l cc nL own ret nm fr lc Q (pc + 1) lv (.long v :: st) M k) : J G l cc nL own ret nm fr lc Q pc lv st M k := J_step (fun x A _ _ _ _ _ _ _ w => lv_lconst A.1 A.2.1 hdg hv w) k1
theorem J_ldc {i : Nat} {v : Int32} (hdg : decode cc pc = .ok (.ldc i, 2)) (hw : Cond.constant own i v ∈ lwT) (k1 : J G l cc nL own ret nm fr lc Q (pc + 2) lv (.int v :: st) M k) : J G l cc nL own ret nm fr lc Q pc lv st M k := J_step (fun x A _ _ _ _ _ _ _ w => lv_ldc A.1 A.2.1 A.2.2.2.1 (A.2.2.2.2.1 _ hw) hdg w) k1
theorem J_ldcw {i : Nat} {v : Int32} (hdg : decode cc pc = .ok (.ldc_w i, 3)) (hw : Cond.constant own i v ∈ lwT) (k1 : J G l cc nL own ret nm fr lc Q (pc + 3) lv (.int v :: st) M k) : J G l cc nL own ret nm fr lc Q pc lv st M k := J_step (fun x A _ _ _ _ _ _ _ w => lv_ldcw A.1 A.2.1 A.2.2.2.1 (A.2.2.2.2.1 _ hw) hdg w) k1
theorem J_ldc2 {i : Nat} {v : Int64} (hdg : decode cc pc = .ok (.ldc2_w i, 3)) (hw : Cond.constantLong own i v ∈ lwT) (k1 : J G l cc nL own ret nm fr lc Q (pc + 3) lv (.long v :: st) M k) : J G l cc nL own ret nm fr lc Q pc lv st M k := J_step (fun x A _ _ _ _ _ _ _ w => lv_ldc2 A.1 A.2.1 A.2.2.2.1 (A.2.2.2.2.1 _ hw) hdg w) k1
theorem J_iload_n {i : Fin 4} {v : Int32} (hdg : decode cc pc = .ok (.iload_n i, 1)) (q : Nat) (hq : lv[q]? = some ((i : Nat), .int v)) (k1 : J G l cc nL own ret nm fr lc Q (pc + 1) lv (.int v :: st) M k) : J G l cc nL own ret nm fr lc Q pc lv st M k := J_step (fun x A _ _ _ _ _ _ hl w => lv_iload_n A.1 A.2.1 hdg rfl (lv_at hl q hq) w) k1
theorem J_iload {i : Nat} {v : Int32} (hdg : decode cc pc = .ok (.iload i, 2)) (q : Nat) (hq : lv[q]? = some (i, .int v)) (k1 : J G l cc nL own ret nm fr lc Q (pc + 2) lv (.int v :: st) M k) : J G l cc nL own ret nm fr lc Q pc lv st M k := J_step (fun x A _ _ _ _ _ _ hl w => lv_iload A.1 A.2.1 hdg (lv_at hl q hq) w) k1
theorem J_lload_n {i : Fin 4} {v : Int64} (hdg : decode cc pc = .ok (.lload_n i, 1)) (q : Nat) (hq : lv[q]? = some ((i : Nat), .long v)) (k1 : J G l cc nL own ret nm fr lc Q (pc + 1) lv (.long v :: st) M k) : J G l cc nL own ret nm fr lc Q pc lv st M k := J_step (fun x A _ _ _ _ _ _ hl w => lv_lload_n A.1 A.2.1 hdg rfl (lv_at hl q hq) w) k1
theorem J_lload {i : Nat} {v : Int64} (hdg : decode cc pc = .ok (.lload i, 2)) (q : Nat) (hq : lv[q]? = some (i, .long v)) (k1 : J G l cc nL own ret nm fr lc Q (pc + 2) lv (.long v :: st) M k) : J G l cc nL own ret nm fr lc Q pc lv st M k := J_step (fun x A _ _ _ _ _ _ hl w => lv_lload A.1 A.2.1 hdg (lv_at hl q hq) w) k1
theorem J_aload_n {i : Fin 4} {v : Nat} (hdg : decode cc pc = .ok (.aload_n i, 1)) (q : Nat) (hq : lv[q]? = some ((i : Nat), .ref v)) (k1 : J G l cc nL own ret nm fr lc Q (pc + 1) lv (.ref v :: st) M k) : J G l cc nL own ret nm fr lc Q pc lv st M k := J_step (fun x A _ _ _ _ _ _ hl w => lv_aload_n A.1 A.2.1 hdg rfl (lv_at hl q hq) w) k1
theorem J_aload {i : Nat} {v : Nat} (hdg : decode cc pc = .ok (.aload i, 2)) (q : Nat) (hq : lv[q]? = some (i, .ref v)) (k1 : J G l cc nL own ret nm fr lc Q (pc + 2) lv (.ref v :: st) M k) : J G l cc nL own ret nm fr lc Q pc lv st M k := J_step (fun x A _ _ _ _ _ _ hl w => lv_aload A.1 A.2.1 hdg (lv_at hl q hq) w) k1
theorem J_istore_n {i : Fin 4} {v : Int32} (hdg : decode cc pc = .ok (.istore_n i, 1)) (hn : (i : Nat) < nL) (hl : ((i : Nat), Value.int v) :: lv.filter (fun q => !(q.1 == (i : Nat)) && !(q.1 + 1 == (i : Nat) && q.2.category == 2)) = lv') (k1 : J G l cc nL own ret nm fr lc Q (pc + 1) lv' st M k) : J G l cc nL own ret nm fr lc Q pc lv (.int v :: st) M k := J_stepL (fun x A _ _ _ _ _ _ h w => lv_istore_n A.1 A.2.1 hdg rfl h hn hl w) k1
theorem J_istore {i : Nat} {v : Int32} (hdg : decode cc pc = .ok (.istore i, 2)) (hn : i < nL) (hl : (i, Value.int v) :: lv.filter (fun q => !(q.1 == i) && !(q.1 + 1 == i && q.2.category == 2)) = lv') (k1 : J G l cc nL own ret nm fr lc Q (pc + 2) lv' st M k) : J G l cc nL own ret nm fr lc Q pc lv (.int v :: st) M k := J_stepL (fun x A _ _ _ _ _ _ h w => lv_istore A.1 A.2.1 hdg h hn hl w) k1
theorem J_astore_n {i : Fin 4} {v : Nat} (hdg : decode cc pc = .ok (.astore_n i, 1)) (hn : (i : Nat) < nL) (hl : ((i : Nat), Value.ref v) :: lv.filter (fun q => !(q.1 == (i : Nat)) && !(q.1 + 1 == (i : Nat) && q.2.category == 2)) = lv') (k1 : J G l cc nL own ret nm fr lc Q (pc + 1) lv' st M k) : J G l cc nL own ret nm fr lc Q pc lv (.ref v :: st) M k := J_stepL (fun x A _ _ _ _ _ _ h w => lv_astore_n A.1 A.2.1 hdg rfl h hn hl w) k1
theorem J_astore {i : Nat} {v : Nat} (hdg : decode cc pc = .ok (.astore i, 2)) (hn : i < nL) (hl : (i, Value.ref v) :: lv.filter (fun q => !(q.1 == i) && !(q.1 + 1 == i && q.2.category == 2)) = lv') (k1 : J G l cc nL own ret nm fr lc Q (pc + 2) lv' st M k) : J G l cc nL own ret nm fr lc Q pc lv (.ref v :: st) M k := J_stepL (fun x A _ _ _ _ _ _ h w => lv_astore A.1 A.2.1 hdg h hn hl w) k1
theorem J_lstore_n {i : Fin 4} {v : Int64} (hdg : decode cc pc = .ok (.lstore_n i, 1)) (hn : (i : Nat) + 1 < nL) (hl : ((i : Nat), Value.long v) :: lv.filter (fun q => !(q.1 == (i : Nat)) && (!(q.1 == (i : Nat) + 1) && !(q.1 + 1 == (i : Nat) && q.2.category == 2))) = lv') (k1 : J G l cc nL own ret nm fr lc Q (pc + 1) lv' st M k) : J G l cc nL own ret nm fr lc Q pc lv (.long v :: st) M k := J_stepL (fun x A _ _ _ _ _ _ h w => lv_lstore_n A.1 A.2.1 hdg rfl h hn hl w) k1
theorem J_lstore {i : Nat} {v : Int64} (hdg : decode cc pc = .ok (.lstore i, 2)) (hn : i + 1 < nL) (hl : (i, Value.long v) :: lv.filter (fun q => !(q.1 == i) && (!(q.1 == i + 1) && !(q.1 + 1 == i && q.2.category == 2))) = lv') (k1 : J G l cc nL own ret nm fr lc Q (pc + 2) lv' st M k) : J G l cc nL own ret nm fr lc Q pc lv (.long v :: st) M k := J_stepL (fun x A _ _ _ _ _ _ h w => lv_lstore A.1 A.2.1 hdg h hn hl w) k1
theorem J_iinc {i : Nat} {n : Int} {v z : Int32} (hdg : decode cc pc = .ok (.iinc i n, 3)) (q : Nat) (hq : lv[q]? = some (i, .int v)) (hv : v + Int32.ofInt n = z) (hn : i < nL) (hl : (i, Value.int z) :: lv.filter (fun q => !(q.1 == i) && !(q.1 + 1 == i && q.2.category == 2)) = lv') (k1 : J G l cc nL own ret nm fr lc Q (pc + 3) lv' st M k) : J G l cc nL own ret nm fr lc Q pc lv st M k := J_stepL (fun x A _ _ _ _ _ _ h w => lv_iinc A.1 A.2.1 hdg h hq hv hn hl w) k1
theorem J_pop {v : Value} (hdg : decode cc pc = .ok (.pop, 1)) (hv : v.category = 1) (k1 : J G l cc nL own ret nm fr lc Q (pc + 1) lv st M k) : J G l cc nL own ret nm fr lc Q pc lv (v :: st) M k := J_step (fun x A _ _ _ _ _ _ _ w => lv_pop A.1 A.2.1 hdg hv w) k1
theorem J_dup {v : Value} (hdg : decode cc pc = .ok (.dup, 1)) (hv : v.category = 1) (k1 : J G l cc nL own ret nm fr lc Q (pc + 1) lv (v :: v :: st) M k) : J G l cc nL own ret nm fr lc Q pc lv (v :: st) M k := J_step (fun x A _ _ _ _ _ _ _ w => lv_dup A.1 A.2.1 hdg hv w) k1
theorem J_dup2 {v z : Value} (hdg : decode cc pc = .ok (.dup2, 1)) (hv : v.category = 1) (hz : z.category = 1) (k1 : J G l cc nL own ret nm fr lc Q (pc + 1) lv (v :: z :: v :: z :: st) M k) : J G l cc nL own ret nm fr lc Q pc lv (v :: z :: st) M k := J_step (fun x A _ _ _ _ _ _ _ w => lv_dup2_11 A.1 A.2.1 hdg hv hz w) k1
theorem J_iadd {a b : Int32} (hdg : decode cc pc = .ok (.iadd, 1)) (k1 : J G l cc nL own ret nm fr lc Q (pc + 1) lv (.int (a + b) :: st) M k) : J G l cc nL own ret nm fr lc Q pc lv (.int b :: .int a :: st) M k := J_step (fun x A _ _ _ _ _ _ _ w => lv_iadd A.1 A.2.1 hdg w) k1
theorem J_isub {a b : Int32} (hdg : decode cc pc = .ok (.isub, 1)) (k1 : J G l cc nL own ret nm fr lc Q (pc + 1) lv (.int (a - b) :: st) M k) : J G l cc nL own ret nm fr lc Q pc lv (.int b :: .int a :: st) M k := J_step (fun x A _ _ _ _ _ _ _ w => lv_isub A.1 A.2.1 hdg w) k1
theorem J_imul {a b : Int32} (hdg : decode cc pc = .ok (.imul, 1)) (k1 : J G l cc nL own ret nm fr lc Q (pc + 1) lv (.int (a * b) :: st) M k) : J G l cc nL own ret nm fr lc Q pc lv (.int b :: .int a :: st) M k := J_step (fun x A _ _ _ _ _ _ _ w => lv_imul A.1 A.2.1 hdg w) k1
theorem J_iand {a b : Int32} (hdg : decode cc pc = .ok (.iand, 1)) (k1 : J G l cc nL own ret nm fr lc Q (pc + 1) lv (.int (a &&& b) :: st) M k) : J G l cc nL own ret nm fr lc Q pc lv (.int b :: .int a :: st) M k := J_step (fun x A _ _ _ _ _ _ _ w => lv_iand A.1 A.2.1 hdg w) k1
theorem J_ior {a b : Int32} (hdg : decode cc pc = .ok (.ior, 1)) (k1 : J G l cc nL own ret nm fr lc Q (pc + 1) lv (.int (a ||| b) :: st) M k) : J G l cc nL own ret nm fr lc Q pc lv (.int b :: .int a :: st) M k := J_step (fun x A _ _ _ _ _ _ _ w => lv_ior A.1 A.2.1 hdg w) k1
theorem J_ixor {a b : Int32} (hdg : decode cc pc = .ok (.ixor, 1)) (k1 : J G l cc nL own ret nm fr lc Q (pc + 1) lv (.int (a ^^^ b) :: st) M k) : J G l cc nL own ret nm fr lc Q pc lv (.int b :: .int a :: st) M k := J_step (fun x A _ _ _ _ _ _ _ w => lv_ixor A.1 A.2.1 hdg w) k1
theorem J_ishl {a b : Int32} (hdg : decode cc pc = .ok (.ishl, 1)) (k1 : J G l cc nL own ret nm fr lc Q (pc + 1) lv (.int (a <<< (b &&& 31)) :: st) M k) : J G l cc nL own ret nm fr lc Q pc lv (.int b :: .int a :: st) M k := J_step (fun x A _ _ _ _ _ _ _ w => lv_ishl A.1 A.2.1 hdg w) k1
theorem J_ishr {a b : Int32} (hdg : decode cc pc = .ok (.ishr, 1)) (k1 : J G l cc nL own ret nm fr lc Q (pc + 1) lv (.int (a >>> (b &&& 31)) :: st) M k) : J G l cc nL own ret nm fr lc Q pc lv (.int b :: .int a :: st) M k := J_step (fun x A _ _ _ _ _ _ _ w => lv_ishr A.1 A.2.1 hdg w) k1
theorem J_ladd {a b : Int64} (hdg : decode cc pc = .ok (.ladd, 1)) (k1 : J G l cc nL own ret nm fr lc Q (pc + 1) lv (.long (a + b) :: st) M k) : J G l cc nL own ret nm fr lc Q pc lv (.long b :: .long a :: st) M k := J_step (fun x A _ _ _ _ _ _ _ w => lv_ladd A.1 A.2.1 hdg w) k1
theorem J_lsub {a b : Int64} (hdg : decode cc pc = .ok (.lsub, 1)) (k1 : J G l cc nL own ret nm fr lc Q (pc + 1) lv (.long (a - b) :: st) M k) : J G l cc nL own ret nm fr lc Q pc lv (.long b :: .long a :: st) M k := J_step (fun x A _ _ _ _ _ _ _ w => lv_lsub A.1 A.2.1 hdg w) k1
theorem J_lmul {a b : Int64} (hdg : decode cc pc = .ok (.lmul, 1)) (k1 : J G l cc nL own ret nm fr lc Q (pc + 1) lv (.long (a * b) :: st) M k) : J G l cc nL own ret nm fr lc Q pc lv (.long b :: .long a :: st) M k := J_step (fun x A _ _ _ _ _ _ _ w => lv_lmul A.1 A.2.1 hdg w) k1
theorem J_land {a b : Int64} (hdg : decode cc pc = .ok (.land, 1)) (k1 : J G l cc nL own ret nm fr lc Q (pc + 1) lv (.long (a &&& b) :: st) M k) : J G l cc nL own ret nm fr lc Q pc lv (.long b :: .long a :: st) M k := J_step (fun x A _ _ _ _ _ _ _ w => lv_land A.1 A.2.1 hdg w) k1
theorem J_lor {a b : Int64} (hdg : decode cc pc = .ok (.lor, 1)) (k1 : J G l cc nL own ret nm fr lc Q (pc + 1) lv (.long (a ||| b) :: st) M k) : J G l cc nL own ret nm fr lc Q pc lv (.long b :: .long a :: st) M k := J_step (fun x A _ _ _ _ _ _ _ w => lv_lor A.1 A.2.1 hdg w) k1
theorem J_lxor {a b : Int64} (hdg : decode cc pc = .ok (.lxor, 1)) (k1 : J G l cc nL own ret nm fr lc Q (pc + 1) lv (.long (a ^^^ b) :: st) M k) : J G l cc nL own ret nm fr lc Q pc lv (.long b :: .long a :: st) M k := J_step (fun x A _ _ _ _ _ _ _ w => lv_lxor A.1 A.2.1 hdg w) k1
theorem J_lneg {a : Int64} (hdg : decode cc pc = .ok (.lneg, 1)) (k1 : J G l cc nL own ret nm fr lc Q (pc + 1) lv (.long (0 - a) :: st) M k) : J G l cc nL own ret nm fr lc Q pc lv (.long a :: st) M k := J_step (fun x A _ _ _ _ _ _ _ w => lv_lneg A.1 A.2.1 hdg (by first | exact w | (rw [Int64.zero_sub] at w; exact w))) k1
theorem J_iushr {a b : Int32} (hdg : decode cc pc = .ok (.iushr, 1)) (k1 : J G l cc nL own ret nm fr lc Q (pc + 1) lv (.int ((a.toUInt32 >>> (b.toUInt32 &&& Int32.toUInt32 31)).toInt32) :: st) M k) : J G l cc nL own ret nm fr lc Q pc lv (.int b :: .int a :: st) M k := J_step (fun x A _ _ _ _ _ _ _ w => lv_iushr A.1 A.2.1 hdg rfl w) k1
theorem J_lushr {a : Int64} {b : Int32} (hdg : decode cc pc = .ok (.lushr, 1)) (k1 : J G l cc nL own ret nm fr lc Q (pc + 1) lv (.long ((a.toUInt64 >>> (b.toInt64.toUInt64 &&& Int64.toUInt64 63)).toInt64) :: st) M k) : J G l cc nL own ret nm fr lc Q pc lv (.int b :: .long a :: st) M k := J_step (fun x A _ _ _ _ _ _ _ w => lv_lushr A.1 A.2.1 hdg rfl w) k1
theorem J_lshl {a : Int64} {b : Int32} (hdg : decode cc pc = .ok (.lshl, 1)) (k1 : J G l cc nL own ret nm fr lc Q (pc + 1) lv (.long (a <<< (b.toInt64 &&& 63)) :: st) M k) : J G l cc nL own ret nm fr lc Q pc lv (.int b :: .long a :: st) M k := J_step (fun x A _ _ _ _ _ _ _ w => lv_lshl A.1 A.2.1 hdg rfl w) k1
theorem J_lshr {a : Int64} {b : Int32} (hdg : decode cc pc = .ok (.lshr, 1)) (k1 : J G l cc nL own ret nm fr lc Q (pc + 1) lv (.long (a >>> (b.toInt64 &&& 63)) :: st) M k) : J G l cc nL own ret nm fr lc Q pc lv (.int b :: .long a :: st) M k := J_step (fun x A _ _ _ _ _ _ _ w => lv_lshr A.1 A.2.1 hdg rfl w) k1
theorem J_i2l {a : Int32} (hdg : decode cc pc = .ok (.i2l, 1)) (k1 : J G l cc nL own ret nm fr lc Q (pc + 1) lv (.long a.toInt64 :: st) M k) : J G l cc nL own ret nm fr lc Q pc lv (.int a :: st) M k := J_step (fun x A _ _ _ _ _ _ _ w => lv_i2l A.1 A.2.1 hdg rfl w) k1
theorem J_l2i {a : Int64} (hdg : decode cc pc = .ok (.l2i, 1)) (k1 : J G l cc nL own ret nm fr lc Q (pc + 1) lv (.int a.toInt32 :: st) M k) : J G l cc nL own ret nm fr lc Q pc lv (.long a :: st) M k := J_step (fun x A _ _ _ _ _ _ _ w => lv_l2i A.1 A.2.1 hdg rfl w) k1
theorem J_i2b {a : Int32} (hdg : decode cc pc = .ok (.i2b, 1)) (k1 : J G l cc nL own ret nm fr lc Q (pc + 1) lv (.int a.toInt8.toInt32 :: st) M k) : J G l cc nL own ret nm fr lc Q pc lv (.int a :: st) M k := J_step (fun x A _ _ _ _ _ _ _ w => lv_i2b A.1 A.2.1 hdg rfl w) k1
theorem J_i2s {a : Int32} (hdg : decode cc pc = .ok (.i2s, 1)) (k1 : J G l cc nL own ret nm fr lc Q (pc + 1) lv (.int a.toInt16.toInt32 :: st) M k) : J G l cc nL own ret nm fr lc Q pc lv (.int a :: st) M k := J_step (fun x A _ _ _ _ _ _ _ w => lv_i2s A.1 A.2.1 hdg rfl w) k1
theorem J_lcmp {a b : Int64} (hdg : decode cc pc = .ok (.lcmp, 1)) (k1 : J G l cc nL own ret nm fr lc Q (pc + 1) lv (.int (lg_cmp a b) :: st) M k) : J G l cc nL own ret nm fr lc Q pc lv (.long b :: .long a :: st) M k := J_step (fun x A _ _ _ _ _ _ _ w => W.lcmp A.1 A.2.1 hdg w) k1
theorem J_idiv {a b : Int32} (hdg : decode cc pc = .ok (.idiv, 1)) (k1 : J G l cc nL own ret nm fr lc Q (pc + 1) lv (.int (a / b) :: st) M k) : J G l cc nL own ret nm fr lc Q pc lv (.int b :: .int a :: st) M (if b = 0 then none else k) := J_ite (fun _ => J_none) (fun h => J_step (fun x A _ _ _ _ _ _ _ w => lv_idiv A.1 A.2.1 hdg h w) k1)
theorem J_irem {a b : Int32} (hdg : decode cc pc = .ok (.irem, 1)) (k1 : J G l cc nL own ret nm fr lc Q (pc + 1) lv (.int (a - a / b * b) :: st) M k) : J G l cc nL own ret nm fr lc Q pc lv (.int b :: .int a :: st) M (if b = 0 then none else k) := J_ite (fun _ => J_none) (fun h => J_step (fun x A _ _ _ _ _ _ _ w => lv_irem A.1 A.2.1 hdg h w) k1)
theorem J_goto {off : Int} {tgt : Nat} (hdg : decode cc pc = .ok (.goto off, 3)) (ht : (pc : Int) + off = (tgt : Int)) (k1 : J G l cc nL own ret nm fr lc Q tgt lv st M k) : J G l cc nL own ret nm fr lc Q pc lv st M k := J_step (fun x A _ _ _ _ _ _ _ w => lv_goto A.1 A.2.1 hdg ht w) k1
theorem J_tabO {dflt lo hi : Int} {offs : Array Int} {len : Nat} {v : Int32} {tgt : Nat} (hdg : decode cc pc = .ok (.tableswitch dflt lo hi offs, len)) (h : v.toInt < lo ∨ hi < v.toInt) (ht : (pc : Int) + dflt = (tgt : Int)) (k1 : J G l cc nL own ret nm fr lc Q tgt lv st M k) : J G l cc nL own ret nm fr lc Q pc lv (.int v :: st) M k := J_step (fun x A _ _ _ _ _ _ _ w => lv_tableOut A.1 A.2.1 hdg h ht w) k1
theorem J_tabI {dflt lo hi : Int} {offs : Array Int} {len : Nat} {v : Int32} {off : Int} {tgt : Nat} (hdg : decode cc pc = .ok (.tableswitch dflt lo hi offs, len)) (h1 : ¬ v.toInt < lo) (h2 : ¬ hi < v.toInt) (ho : offs[(v.toInt - lo).toNat]? = some off) (ht : (pc : Int) + off = (tgt : Int)) (k1 : J G l cc nL own ret nm fr lc Q tgt lv st M k) : J G l cc nL own ret nm fr lc Q pc lv (.int v :: st) M k := J_step (fun x A _ _ _ _ _ _ _ w => lv_tableIn A.1 A.2.1 hdg h1 h2 ho ht w) k1
end CoreA
