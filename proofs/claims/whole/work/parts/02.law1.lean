def retL {β : Type} (v : Int32) (k : Option β) : Option β := if v = 1 then k else none
def gL {β : Type} (M : Mem) (c : Nat) (k : Int32 → Option β) : Option β := if c < nS then (match mSh M c with | .inl (_, n) => k n.toInt32 | .inr _ => none) else none
/-- the law's end -/
def QL (G : Gx) (x : Cx) (_ : Mem) (_ : Int32) (_ : Mem) : State → Prop := fun t => (xR x = room_1 ∧ G.2.2.1 = (xs x).heap.size ∧ xa x = #[Value.ref (adr G 2)]) → lw_Z (xb x) (xa x) (xs x) t
section CoreO
variable {G : Gx} {l : Launch} {cc : ByteArray} {nL : Nat} {own : String} {ret' : Option FieldType} {nm : String} {fr lc : Nat} {α : Type} {Q : Cx → Mem → α → Mem → State → Prop} {M M' : Mem} {pc pc' : Nat} {lv lv' : List (Nat × Value)} {st st' : List Value}
theorem J_alen {k : Int32 → Option (α × Mem)} {c : Nat} (hdg : decode cc pc = .ok (.arraylength, 1)) (k1 : ∀ v, J G l cc nL own ret' nm fr lc Q (pc + 1) lv (.int v :: st) M (k v)) : J G l cc nL own ret' nm fr lc Q pc lv (.ref (adr G c) :: st) M (gL M c k) := by
  unfold gL
  refine J_ite (fun q => ?_) (fun _ => J_none)
  cases hs : mSh M c with
  | inr z => exact J_none
  | inl z =>
    obtain ⟨ty, n⟩ := z
    refine J_stepH (fun x A H _ _ _ _ _ hH hS _ w => ?_) (k1 n.toInt32)
    obtain ⟨n', cell, g1, g2, g3, g4, g5⟩ := hH.2.2.2 c q
    rw [hs] at g1
    cases g1
    have ea : adr G c = G.2.2.2 c := by unfold adr; rw [if_pos q]
    have hK := A.2.2.2.2.2.2.2.2
    have hb : ¬ rA G (adr G c) := by rw [ea]; exact Nat.not_le.mpr (hK.2.1 c q)
    have hbs : adr G c < (xs x).heap.size := by rw [ea]; exact Nat.lt_of_lt_of_le (hK.2.1 c q) hK.2.2.1
    have g6 : (xs x).heap[G.2.2.2 c]? = some cell := by rw [← ea, ← hS.2.1 _ hbs hb]; exact g2
    exact W.alen A.1 A.2.1 g2 (hK.2.2.2.2.2.2.2 c q cell g6) g4.2 rfl rfl hdg w
theorem J_lawret {v : Int32} (hdg : decode code pc = .ok (.ireturn, 1)) : J G l code nL own ret nm fr lc (QL G) pc lv [.int v] M (retL v (some (v, M))) := by
  unfold retL
  refine J_ite (fun h => ?_) (fun _ => J_none)
  subst h
  intro r Me e
  cases e
  refine ⟨⟨Nat.le_refl _, Nat.le_refl _⟩, fun x M0 e1 A f1 f2 a b c d H locs ls hH hS hl => ?_⟩
  by_cases hq : xR x = room_1 ∧ G.2.2.1 = (xs x).heap.size ∧ xa x = #[Value.ref (adr G 2)]
  · obtain ⟨p, l', e', R, s, m, args, below, meth, cd⟩ := x
    obtain ⟨h1, h2, h3⟩ := hq
    have h1 : R = room_1 := h1
    have h2 : G.2.2.1 = s.heap.size := h2
    have h3 : args = #[Value.ref (adr G 2)] := h3
    subst h1
    subst h3
    have w := lw_ret (p := p) (l := l') (e := e') (s := s) (m := m) (below := below) (meth := meth) (c := cd) (b := adr G 2) A.1 A.2.1 A.2.2.2.2.2.2.1 A.2.2.2.2.2.1 (H := H) (ls := ls) hdg
    refine W.widen (by assumption) (by assumption) (va_forget (fun q hq => by rw [← h2]; exact hS.2.2 q hq) ?_)
    intro T hT X
    obtain ⟨t, a1, b1⟩ := w T hT X
    exact ⟨t, a1, fun _ => b1⟩
  · intro T hT X
    exact ⟨_, Steps.refl _, fun z => absurd z hq⟩
end CoreO
