-- what a call of the memory answers: reads and writes, none where the machine would throw
def okA (M : Mem) (ty : FieldType) (c : Nat) (i : Int32) : Bool := decide (c < M.1) && (match mSh M c with
  | .inl (t, n) => decide (t = ty) && decide (¬ (i < 0 ∨ n ≤ i.toNatClampNeg))
  | .inr _ => false)
def okO (M : Mem) (ci c : Nat) : Bool := decide (c < M.1) && decide (nS ≤ c) && (match mSh M c with
  | .inl _ => false
  | .inr z => decide (z = ci))
theorem okA_spec {M : Mem} {ty : FieldType} {c : Nat} {i : Int32} (h : okA M ty c i = true) : c < M.1 ∧ ∃ n, mSh M c = .inl (ty, n) ∧ vp_in i n := by
  unfold okA at h
  rw [Bool.and_eq_true] at h
  refine ⟨of_decide_eq_true h.1, ?_⟩
  have h2 := h.2
  split at h2
  · next t n e =>
    rw [Bool.and_eq_true] at h2
    have e1 := of_decide_eq_true h2.1
    subst e1
    exact ⟨n, e, (of_decide_eq_true h2.2 : ¬ (i < 0 ∨ n ≤ i.toNatClampNeg))⟩
  · cases h2
theorem okA_of {M : Mem} {ty : FieldType} {c : Nat} {i : Int32} {n : Nat} (h : c < M.1) (e : mSh M c = .inl (ty, n)) (hi : vp_in i n) : okA M ty c i = true := by
  unfold okA
  rw [e, Bool.and_eq_true]
  refine ⟨decide_eq_true h, ?_⟩
  show (decide (ty = ty) && decide (¬ (i < 0 ∨ n ≤ i.toNatClampNeg))) = true
  rw [Bool.and_eq_true]
  exact ⟨decide_eq_true rfl, decide_eq_true hi⟩
theorem okO_spec {M : Mem} {ci c : Nat} (h : okO M ci c = true) : c < M.1 ∧ nS ≤ c ∧ mSh M c = .inr ci := by
  unfold okO at h
  rw [Bool.and_eq_true, Bool.and_eq_true] at h
  refine ⟨of_decide_eq_true h.1.1, of_decide_eq_true h.1.2, ?_⟩
  have h2 := h.2
  split at h2
  · cases h2
  · next z e => rw [e, of_decide_eq_true h2]
theorem okO_of {M : Mem} {ci c : Nat} (h : c < M.1) (h1 : nS ≤ c) (e : mSh M c = .inr ci) : okO M ci c = true := by
  unfold okO
  rw [e, Bool.and_eq_true, Bool.and_eq_true]
  exact ⟨⟨decide_eq_true h, decide_eq_true h1⟩, decide_eq_true rfl⟩
-- arrays
def rI {β : Type} (M : Mem) (ty : FieldType) (c : Nat) (i : Int32) (k : Int32 → Option β) : Option β := if okA M ty c i = true then k (mI M c i.toNatClampNeg) else none
def rJ {β : Type} (M : Mem) (c : Nat) (i : Int32) (k : Int64 → Option β) : Option β := if okA M .long c i = true then k (mJ M c i.toNatClampNeg) else none
def rR {β : Type} (M : Mem) (ty : FieldType) (c : Nat) (i : Int32) (k : Nat → Option β) : Option β := if okA M ty c i = true then (match mR M c i.toNatClampNeg with | some a => k a | none => none) else none
def wI {β : Type} (M : Mem) (ty : FieldType) (c : Nat) (i : Int32) (x : Int32) (k : Mem → Option β) : Option β := if okA M ty c i = true ∧ nS ≤ c then k (stI M c i.toNatClampNeg (vp_nar ty x)) else none
def wJ {β : Type} (M : Mem) (c : Nat) (i : Int32) (x : Int64) (k : Mem → Option β) : Option β := if okA M .long c i = true ∧ nS ≤ c then k (stJ M c i.toNatClampNeg x) else none
-- fields
def gI {β : Type} (M : Mem) (ci f c : Nat) (k : Int32 → Option β) : Option β := if okO M ci c = true then k (mI M c f) else none
def gJ {β : Type} (M : Mem) (ci f c : Nat) (k : Int64 → Option β) : Option β := if okO M ci c = true then k (mJ M c f) else none
def gR {β : Type} (M : Mem) (ci f c : Nat) (k : Nat → Option β) : Option β := if okO M ci c = true then (match mR M c f with | some a => k a | none => none) else none
def pI {β : Type} (M : Mem) (ci f c : Nat) (x : Int32) (k : Mem → Option β) : Option β := if okO M ci c = true then k (stI M c f x) else none
def pZ {β : Type} (M : Mem) (ci f c : Nat) (x : Int32) (k : Mem → Option β) : Option β := if okO M ci c = true ∧ (x = 0 ∨ x = 1) then k (stI M c f x) else none
def pJ {β : Type} (M : Mem) (ci f c : Nat) (x : Int64) (k : Mem → Option β) : Option β := if okO M ci c = true then k (stJ M c f x) else none
def pR {β : Type} (M : Mem) (ci f c : Nat) (x : Nat) (k : Mem → Option β) : Option β := if okO M ci c = true then k (stR M c f (some x)) else none
theorem u2_ne {α : Type} {f : Nat → Nat → α} {c i c' : Nat} {x : α} (h : c' ≠ c) : u2 f c i x c' = f c' := by
  funext j
  unfold u2
  rw [if_neg (fun q => h q.1)]
theorem u2_eqI {f : Nat → Nat → Int32} {c i : Nat} {x : Int32} : u2 f c i x c = upd (f c) i x := by
  funext j
  unfold u2 upd
  by_cases h : j = i
  · rw [if_pos ⟨rfl, h⟩, if_pos h]
  · rw [if_neg (fun q => h q.2), if_neg h]
theorem u2_eqJ {f : Nat → Nat → Int64} {c i : Nat} {x : Int64} : u2 f c i x c = vp_updL (f c) i x := by
  funext j
  unfold u2 vp_updL
  by_cases h : j = i
  · rw [if_pos ⟨rfl, h⟩, if_pos h]
  · rw [if_neg (fun q => h q.2), if_neg h]
theorem fvals_congr {G : Gx} {M M' : Mem} {c : Nat} (h2 : mR M' c = mR M c) (h3 : mI M' c = mI M c) (h4 : mJ M' c = mJ M c) : ∀ (l : List FieldType) (b : Nat), fvals G M' c b l = fvals G M c b l
  | [], _ => rfl
  | ty :: r, b => by
    unfold fvals
    rw [fvals_congr h2 h3 h4 r (b + 1)]
    congr 1
    unfold fval
    rw [h2, h3, h4]
theorem cont_congr {G : Gx} {M M' : Mem} {c : Nat} (h1 : mSh M' c = mSh M c) (h2 : mR M' c = mR M c) (h3 : mI M' c = mI M c) (h4 : mJ M' c = mJ M c) : cont G M' c = cont G M c := by
  unfold cont
  rw [h1]
  split
  · unfold rowOf
    rw [h2, h3, h4]
  · rw [fvals_congr h2 h3 h4]
theorem fvals_get {G : Gx} {M : Mem} {c : Nat} : ∀ (l : List FieldType) (b k : Nat), (fvals G M c b l)[k]? = l[k]?.map (fun ty => fval G M c (b + k) ty)
  | [], _, k => by simp [fvals]
  | ty :: r, b, 0 => by simp [fvals]
  | ty :: r, b, k + 1 => by
    have h := fvals_get (G := G) (M := M) (c := c) r (b + 1) k
    simp only [fvals, List.getElem?_cons_succ]
    rw [h, show b + 1 + k = b + (k + 1) by omega]
theorem fvals_len {G : Gx} {M : Mem} {c : Nat} : ∀ (l : List FieldType) (b : Nat), (fvals G M c b l).length = l.length
  | [], _ => rfl
  | _ :: r, b => by simp [fvals, fvals_len r (b + 1)]
theorem fvals_set {G : Gx} {M M' : Mem} {c f : Nat} {l : List FieldType} {ty : FieldType} {v : Value} (hf : l[f]? = some ty) (hv : fval G M' c f ty = v) (ho : ∀ k t, k ≠ f → fval G M' c k t = fval G M c k t) : fvals G M' c 0 l = (fvals G M c 0 l).set f v := by
  apply List.ext_getElem?
  intro k
  rw [fvals_get, List.getElem?_set]
  by_cases h : f = k
  · subst h
    have hlt : f < l.length := (List.getElem?_eq_some_iff.mp hf).1
    rw [if_pos rfl, fvals_len, if_pos hlt, hf]
    simp only [Option.map_some, Nat.zero_add]
    rw [hv]
  · rw [if_neg h, fvals_get]
    cases l[k]? with
    | none => rfl
    | some t => simp only [Option.map_some, Nat.zero_add]; rw [ho k t (Ne.symm h)]
theorem adr_ne {G : Gx} {c c' : Nat} (hs : ∀ c, c < nS → G.2.2.2 c < G.2.2.1) (h : nS ≤ c) (hn : c' ≠ c) : adr G c' ≠ adr G c := by
  unfold adr
  rw [if_neg (Nat.not_lt.mpr h)]
  by_cases q : c' < nS
  · rw [if_pos q]
    have := hs c' q
    omega
  · rw [if_neg q]
    omega
theorem adr_rA {G : Gx} {c : Nat} (h : nS ≤ c) : rA G (adr G c) := by
  unfold rA adr
  rw [if_neg (Nat.not_lt.mpr h)]
  omega
theorem hold_set {G : Gx} {M M' : Mem} {H H1 : Heap} {c : Nat} (hH : Hold G M H) (hs : ∀ c, c < nS → G.2.2.2 c < G.2.2.1) (h : nS ≤ c) (e : M'.1 = M.1) (z : H1.size = H.size) (oq : ∀ q, q ≠ adr G c → H1[q]? = H[q]?) (ho : ∀ c', c' ≠ c → mSh M' c' = mSh M c' ∧ mR M' c' = mR M c' ∧ mI M' c' = mI M c' ∧ mJ M' c' = mJ M c') (hc : va_at G.1 vwCl (adr G c, cont G M' c) H1) : Hold G M' H1 := by
  refine ⟨by rw [e]; exact hH.1, by rw [z, e]; exact hH.2.1, fun c' hn' hc' => ?_, fun c' hc' => ?_⟩
  · by_cases q : c' = c
    · subst q; exact hc
    · rw [cont_congr (ho c' q).1 (ho c' q).2.1 (ho c' q).2.2.1 (ho c' q).2.2.2]
      exact (hH.2.2.1 c' hn' (by rw [← e]; exact hc')).kept (oq _ (adr_ne hs h q))
  · have q : c' ≠ c := by omega
    obtain ⟨n, cell, g1, g2, g3, g4, g5⟩ := hH.2.2.2 c' hc'
    exact ⟨n, cell, by rw [(ho c' q).1]; exact g1, by rw [oq _ (adr_ne hs h q)]; exact g2, g3, g4, fun j hj => by rw [(ho c' q).2.2.1]; exact g5 j hj⟩
theorem va_P1 {D : va_G} {cl : List vw_C} {q : Nat × va_E} {H : Heap} (h : va_at D cl q H) : va_P D cl [q] H := by
  intro k p hp
  have hk : k < 1 := (List.getElem?_eq_some_iff.mp hp).1
  rw [show k = 0 by omega] at hp
  cases hp
  exact h
theorem hold_arr {G : Gx} {M : Mem} {H : Heap} {c n : Nat} {ty : FieldType} (hH : Hold G M H) (hn : nS ≤ c) (hc : c < M.1) (e : mSh M c = .inl (ty, n)) : va_at G.1 vwCl (adr G c, .inl (G.2.1 ty, n, rowOf G M c ty)) H := by
  have h := hH.2.2.1 c hn hc
  unfold cont at h
  rw [e] at h
  exact h
theorem hold_obj {G : Gx} {M : Mem} {H : Heap} {c ci : Nat} (hH : Hold G M H) (hc : c < M.1) (e : mSh M c = .inr ci) : va_at G.1 vwCl (adr G c, .inr (ci, fvals G M c 0 (cfT ci))) H := by
  have hn : nS ≤ c := by
    rcases Nat.lt_or_ge c nS with q | q
    · obtain ⟨n, cell, g1, -⟩ := hH.2.2.2 c q
      rw [e] at g1
      cases g1
    · exact q
  have h := hH.2.2.1 c hn hc
  unfold cont at h
  rw [e] at h
  exact h
theorem hold_ns {G : Gx} {M : Mem} {H : Heap} {c n : Nat} {ty : FieldType} (hH : Hold G M H) (e : mSh M c = .inl (ty, n)) (ht : ty ≠ .int) : nS ≤ c := by
  rcases Nat.lt_or_ge c nS with q | q
  · obtain ⟨n', cell, g1, -⟩ := hH.2.2.2 c q
    rw [e] at g1
    cases g1
    exact absurd rfl ht
  · exact q
