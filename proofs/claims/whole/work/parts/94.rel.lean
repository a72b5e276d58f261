-- P6: class and reference side by side: what holds between the calls
abbrev Stt : Type := Lg × Nat × (Nat → Nat × Int64) × (Nat → Nat) × (Nat → Option Nat) × Hd × Tr
/-- the class has the state s -/
def RC (I : Nat → Nat → Int32) (J : Nat → Nat → Int64) (s : Stt) : Prop := CA I J s.1 s.2.1 s.2.2.1 s.2.2.2.1 s.2.2.2.2.1 ∧ HdC I s.2.2.2.2.2.1 ∧ TrC I s.2.2.2.2.2.2 ∧ Mir I J
/-- the reference has the state s -/
def RM (I : Nat → Nat → Int32) (J : Nat → Nat → Int64) (s : Stt) : Prop := MA I J s.1 s.2.1 s.2.2.1 s.2.2.2.1 s.2.2.2.2.1 ∧ HdM I s.2.2.2.2.2.1 ∧ TrM I s.2.2.2.2.2.2 ∧ MS I
/-- the state s can be -/
def RP (s : Stt) : Prop := LInv s.1 ∧ ¬ Due s.1 ∧ (∀ k, s.2.2.2.1 k < 256) ∧ (∀ k, k < s.2.1 → (s.2.2.1 k).1 < 256 ∧ (s.2.2.1 k).2 ≠ 0 ∧ (s.2.2.1 k).2 ≠ -9223372036854775808) ∧ HdG s.2.2.2.2.2.1 s.1.ne ∧ TrG s.1.ne s.2.2.2.2.2.2
section Rel
variable {I I' : Nat → Nat → Int32} {J J' : Nat → Nat → Int64}
theorem c_tails {ne : Nat} (hne : ne ≤ 200) {hd : Hd} {tr : Tr} (hG : TrG ne tr) (h : HdC I hd ∧ TrC I tr ∧ Mir I J) (f : ∀ c, 692 ≤ c → c < 758 → I' c = I c) (g : ∀ c, 692 ≤ c → c < 758 → J' c = J c) : HdC I' hd ∧ TrC I' tr ∧ Mir I' J' := by
  refine ⟨fun k hk => ?_, h.2.1.ft (fun c q1 q2 => f c (by omega) (by omega)) (st9 hne hG), h.2.2.congr (fun c q1 q2 => f c (by omega) (by omega)) (fun c q1 q2 _ => g c (by omega) (by omega))⟩
  rw [f (693 + 3 * k) (by omega) (by omega), f (694 + 3 * k) (by omega) (by omega), f (695 + 3 * k) (by omega) (by omega)]
  exact h.1 k hk
theorem m_tails {hd : Hd} {tr : Tr} (h : HdM I hd ∧ TrM I tr ∧ MS I) (f : ∀ c, 790 ≤ c → c ≤ 801 → I' c = I c) (g1 : I' 759 42 = I 759 42) (g2 : ∀ j, 52 ≤ j → j ≤ 55 → I' 759 j = I 759 j) : HdM I' hd ∧ TrM I' tr ∧ MS I' := by
  refine ⟨fun k hk => ?_, h.2.1.sfr g2 (f 801 (by omega) (by omega)), fun j hj => ?_, ?_⟩
  · rw [f 797 (by omega) (by omega), f 798 (by omega) (by omega), f 799 (by omega) (by omega), f 800 (by omega) (by omega)]
    exact h.1 k hk
  · rw [f 790 (by omega) (by omega)]
    exact h.2.2.1 j hj
  · rw [g1]
    exact h.2.2.2
theorem MA.cg {L : Lg} {tn : Nat} {tl : Nat → Nat × Int64} {nw : Nat → Nat} {et : Nat → Option Nat} (hL : LInv L) (h : MA I J L tn tl nw et) (f : ∀ c, 759 < c → c ≤ 789 → I' c = I c) (g : ∀ j, j < 42 → I' 759 j = I 759 j) (k : ∀ c, 759 < c → c ≤ 789 → J' c = J c) : MA I' J' L tn tl nw et := by
  have h1 := hL.1
  obtain ⟨a1, a2, a3, a4, a5⟩ := h
  refine ⟨MRep.congr h1.1 h1.2.1 (fun i hi => (hL.2.2.1 i hi).1.2.2.2) (fun c j x => by unfold Hf at x; rw [f c (by omega) (by omega)]) (fun c j x => by unfold Hf at x; rw [k c (by omega) (by omega)]) a1, ⟨?_, ?_, ?_⟩, ?_, ⟨?_, a4.2.1, ?_⟩, ?_⟩
  · rw [g 20 (by omega)]; exact a2.1
  · rw [f (759 + 21) (by omega) (by omega), f (759 + 22) (by omega) (by omega)]
    exact a2.2.1
  · rw [f (759 + 20) (by omega) (by omega)]
    exact a2.2.2
  · intro k hk
    rw [f (759 + 19) (by omega) (by omega)]
    exact a3 k hk
  · rw [g 37 (by omega)]; exact a4.1
  · intro i hi
    rw [f (759 + 29) (by omega) (by omega), k (759 + 30) (by omega) (by omega)]
    exact a4.2.2 i hi
  · exact a5.congr (Nat.le_refl _) (g _ (by omega)) (f _ (by omega) (by omega)) (f _ (by omega) (by omega))
theorem RC.cg {s : Stt} (hP : RP s) (h : RC I J s) (f : ∀ c, c < 759 → I' c = I c) (g : ∀ c, c < 759 → J' c = J c) : RC I' J' s := by
  have hne := hP.1.1.2.1
  obtain ⟨⟨a1, a2, a3, a4⟩, h2⟩ := h
  refine ⟨⟨CRep.congr (fun c q1 q2 => f c (by omega)) (fun c q1 q2 _ => g c (by omega)) a1, ⟨?_, a2.2.1, ?_⟩, ?_, a4.congr (by decide) hne (fun c q => f c (by have : nS = 3 := rfl; omega))⟩, c_tails hne hP.2.2.2.2.2 h2 (fun c _ q => f c (by omega)) (fun c _ q => g c (by omega))⟩
  · rw [f 21 (by omega)]; exact a2.1
  · rw [f (21 + 1) (by omega), g (21 + 2) (by omega)]; exact a2.2.2
  · rw [f 24 (by omega)]; exact a3
theorem RM.cg {s : Stt} (hP : RP s) (h : RM I J s) (f : ∀ c, 759 ≤ c → I' c = I c) (g : ∀ c, 759 ≤ c → J' c = J c) : RM I' J' s :=
  ⟨h.1.cg hP.1 (fun c _ _ => f c (by omega)) (fun j _ => by rw [f 759 (by omega)]) (fun c _ _ => g c (by omega)), m_tails h.2 (fun c _ _ => f c (by omega)) (by rw [f 759 (by omega)]) (fun j _ _ => by rw [f 759 (by omega)])⟩
end Rel
/-- some state holds on both sides -/
def Both (I : Nat → Nat → Int32) (J : Nat → Nat → Int64) : Prop := ∃ s : Stt, RP s ∧ RC I J s ∧ RM I J s
/-- a call of the class and the same of the reference: one answer, and a state on both sides again -/
def Op {α : Type} (N SL : Nat) (S : Nat → Shp) (R : Nat → Nat → Option Nat) (I : Nat → Nat → Int32) (J : Nat → Nat → Int64) (C M : Mem → Option (α × Mem)) : Prop :=
  ∃ (a : α) (I1 I2 : Nat → Nat → Int32) (J1 J2 : Nat → Nat → Int64), C (N, SL, S, R, I, J) = some (a, (N, SL, S, R, I1, J1)) ∧ I1 2 = I 2 ∧ M (N, SL, S, R, I1, J1) = some (a, (N, SL, S, R, I2, J2)) ∧ I2 2 = I 2 ∧ Both I2 J2
section Ops
variable {N SL : Nat} {S : Nat → Shp} {R : Nat → Nat → Option Nat} {I : Nat → Nat → Int32} {J : Nat → Nat → Int64} {α : Type} {C M : Mem → Option (α × Mem)}
theorem Op.mk' {s s' : Stt} (hP : RP s) (hP' : RP s') (hm : RM I J s) (a : α) (c : ∃ (I' : Nat → Nat → Int32) (J' : Nat → Nat → Int64), C (N, SL, S, R, I, J) = some (a, (N, SL, S, R, I', J')) ∧ RC I' J' s' ∧ (∀ c, (c = 2 ∨ 759 ≤ c) → I' c = I c) ∧ ∀ c, 759 ≤ c → J' c = J c) (m : ∀ (I : Nat → Nat → Int32) (J : Nat → Nat → Int64), RM I J s → ∃ (I' : Nat → Nat → Int32) (J' : Nat → Nat → Int64), M (N, SL, S, R, I, J) = some (a, (N, SL, S, R, I', J')) ∧ RM I' J' s' ∧ (∀ c, c < 759 → I' c = I c) ∧ ∀ c, c < 759 → J' c = J c) : Op N SL S R I J C M := by
  obtain ⟨I1, J1, c1, c2, c3, c4⟩ := c
  obtain ⟨I2, J2, m1, m2, m3, m4⟩ := m I1 J1 (hm.cg hP (fun c q => c3 c (Or.inr q)) c4)
  exact ⟨a, I1, I2, J1, J2, c1, c3 2 (Or.inl rfl), m1, by rw [m3 2 (by omega), c3 2 (Or.inl rfl)], s', hP', c2.cg hP' m3 m4, m2⟩
end Ops
