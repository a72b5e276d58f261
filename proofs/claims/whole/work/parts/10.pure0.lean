-- P0: reads and writes of a memory (N, SL, S, R, I, J) whose shapes are known
section Pure0
variable {N SL : Nat} {S : Nat → Shp} {R : Nat → Nat → Option Nat} {I : Nat → Nat → Int32} {J : Nat → Nat → Int64} {β : Type} {ty : FieldType} {c n j ci f a : Nat}
theorem rI_mk {k : Int32 → Option β} (hc : c < N) (hs : S c = .inl (ty, n)) (hj : j < n) (hn : n < 2 ^ 31) : rI (N, SL, S, R, I, J) ty c (nI j) k = k (I c j) := by
  unfold rI
  rw [if_pos (okA_of (M := (N, SL, S, R, I, J)) hc hs (vp_in_nI hj hn)), nI_clamp (by omega)]
theorem rJ_mk {k : Int64 → Option β} (hc : c < N) (hs : S c = .inl (.long, n)) (hj : j < n) (hn : n < 2 ^ 31) : rJ (N, SL, S, R, I, J) c (nI j) k = k (J c j) := by
  unfold rJ
  rw [if_pos (okA_of (M := (N, SL, S, R, I, J)) hc hs (vp_in_nI hj hn)), nI_clamp (by omega)]
theorem rR_mk {k : Nat → Option β} (hc : c < N) (hs : S c = .inl (ty, n)) (hj : j < n) (hn : n < 2 ^ 31) (hr : R c j = some a) : rR (N, SL, S, R, I, J) ty c (nI j) k = k a := by
  unfold rR
  rw [if_pos (okA_of (M := (N, SL, S, R, I, J)) hc hs (vp_in_nI hj hn)), nI_clamp (by omega)]
  show (match R c j with | some a => k a | none => none) = _
  rw [hr]
theorem wI_mk {k : Mem → Option β} {x : Int32} (hc : c < N) (h0 : nS ≤ c) (hs : S c = .inl (ty, n)) (hj : j < n) (hn : n < 2 ^ 31) : wI (N, SL, S, R, I, J) ty c (nI j) x k = k (N, SL, S, R, u2 I c j (vp_nar ty x), J) := by
  unfold wI
  rw [if_pos ⟨okA_of (M := (N, SL, S, R, I, J)) hc hs (vp_in_nI hj hn), h0⟩, nI_clamp (by omega)]
  rfl
theorem wJ_mk {k : Mem → Option β} {x : Int64} (hc : c < N) (h0 : nS ≤ c) (hs : S c = .inl (.long, n)) (hj : j < n) (hn : n < 2 ^ 31) : wJ (N, SL, S, R, I, J) c (nI j) x k = k (N, SL, S, R, I, u2 J c j x) := by
  unfold wJ
  rw [if_pos ⟨okA_of (M := (N, SL, S, R, I, J)) hc hs (vp_in_nI hj hn), h0⟩, nI_clamp (by omega)]
  rfl
/-- an object of class ci stands at c -/
def Ob (N : Nat) (S : Nat → Shp) (c ci : Nat) : Prop := c < N ∧ nS ≤ c ∧ S c = .inr ci
theorem Ob.ok {M : Mem} (h : Ob M.1 (mSh M) c ci) : okO M ci c = true := okO_of h.1 h.2.1 h.2.2
theorem gI_mk {k : Int32 → Option β} (h : Ob N S c ci) : gI (N, SL, S, R, I, J) ci f c k = k (I c f) := by
  unfold gI
  rw [if_pos (Ob.ok (M := (N, SL, S, R, I, J)) h)]
theorem gJ_mk {k : Int64 → Option β} (h : Ob N S c ci) : gJ (N, SL, S, R, I, J) ci f c k = k (J c f) := by
  unfold gJ
  rw [if_pos (Ob.ok (M := (N, SL, S, R, I, J)) h)]
theorem gR_mk {k : Nat → Option β} (h : Ob N S c ci) (hr : R c f = some a) : gR (N, SL, S, R, I, J) ci f c k = k a := by
  unfold gR
  rw [if_pos (Ob.ok (M := (N, SL, S, R, I, J)) h)]
  show (match R c f with | some a => k a | none => none) = _
  rw [hr]
theorem pI_mk {k : Mem → Option β} {x : Int32} (h : Ob N S c ci) : pI (N, SL, S, R, I, J) ci f c x k = k (N, SL, S, R, u2 I c f x, J) := by
  unfold pI
  rw [if_pos (Ob.ok (M := (N, SL, S, R, I, J)) h)]
  rfl
theorem pZ_mk {k : Mem → Option β} {x : Int32} (h : Ob N S c ci) (hx : x = 0 ∨ x = 1) : pZ (N, SL, S, R, I, J) ci f c x k = k (N, SL, S, R, u2 I c f x, J) := by
  unfold pZ
  rw [if_pos ⟨Ob.ok (M := (N, SL, S, R, I, J)) h, hx⟩]
  rfl
theorem pJ_mk {k : Mem → Option β} {x : Int64} (h : Ob N S c ci) : pJ (N, SL, S, R, I, J) ci f c x k = k (N, SL, S, R, I, u2 J c f x) := by
  unfold pJ
  rw [if_pos (Ob.ok (M := (N, SL, S, R, I, J)) h)]
  rfl
theorem cV_mk {γ : Type} {r : Option (γ × Mem)} {k : γ → Mem → Option β} (h : Ob N S c ci) : cV (N, SL, S, R, I, J) ci c r k = bd r k := by
  unfold cV
  rw [if_pos (Ob.ok (M := (N, SL, S, R, I, J)) h)]
theorem bd_some {γ : Type} {r : γ} {M : Mem} {k : γ → Mem → Option β} : bd (some (r, M)) k = k r M := rfl
end Pure0
theorem vp_narI (x : Int32) : vp_nar .int x = x := by
  unfold vp_nar
  rw [vp_nar_int]
theorem u2_row {α : Type} {f : Nat → Nat → α} {c i : Nat} {x : α} : u2 f c i x = u1 f c (fun j => if j = i then x else f c j) := by
  funext c' j
  unfold u2 u1
  by_cases h : c' = c
  · subst h
    rw [if_pos rfl]
    by_cases q : j = i
    · rw [if_pos ⟨rfl, q⟩]; rw [if_pos q]
    · rw [if_neg (fun z => q z.2), if_neg q]
  · rw [if_neg (fun z => h z.1), if_neg h]
theorem u1_u1 {α : Type} {f : Nat → Nat → α} {c : Nat} {g h : Nat → α} : u1 (u1 f c g) c h = u1 f c h := by
  funext c'
  unfold u1
  by_cases q : c' = c
  · rw [if_pos q, if_pos q]
  · rw [if_neg q, if_neg q, if_neg q]
theorem u1_self {α : Type} {f : Nat → Nat → α} {c : Nat} : u1 f c (f c) = f := by
  funext c'
  unfold u1
  by_cases q : c' = c
  · subst q; rw [if_pos rfl]
  · rw [if_neg q]
/-- comparisons of small numbers -/
theorem lit_le {a b : Nat} (ha : a < 2 ^ 31) (hb : b < 2 ^ 31) : nI a ≤ nI b ↔ a ≤ b := nI_leI ha hb
theorem FU_gt {m : Nat} (h : m < 1000000) : ∃ k, FU = m + 1 + k := ⟨FU - (m + 1), by unfold FU; omega⟩
