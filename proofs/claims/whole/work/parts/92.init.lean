-- P2: the constructors: the memory as logs of what was made and written
/-- cells, slots, shapes, references, ints, cells of zeros -/
abbrev Ab : Type := Nat × Nat × List (Nat × Shp) × List (Nat × Nat × Nat) × List (Nat × Nat × Int32) × List Nat
def lk1 : List (Nat × Shp) → Nat → Option Shp
  | [], _ => none
  | q :: r, c => bif Nat.beq c q.1 then some q.2 else lk1 r c
def lkR : List (Nat × Nat × Nat) → Nat → Nat → Option Nat
  | [], _, _ => none
  | q :: r, c, f => bif Nat.beq c q.1 && Nat.beq f q.2.1 then some q.2.2 else lkR r c f
def lkI : List (Nat × Nat × Int32) → Nat → Nat → Option Int32
  | [], _, _ => none
  | q :: r, c, f => bif Nat.beq c q.1 && Nat.beq f q.2.1 then some q.2.2 else lkI r c f
def inZ : List Nat → Nat → Bool
  | [], _ => false
  | q :: r, c => bif Nat.beq c q then true else inZ r c
theorem bif_1 {α : Type} {a b : Nat} {x y : α} : (bif Nat.beq a b then x else y) = if a = b then x else y := by
  cases h : Nat.beq a b with
  | false => rw [if_neg (Nat.ne_of_beq_eq_false h)]; rfl
  | true => rw [if_pos (Nat.eq_of_beq_eq_true h)]; rfl
theorem bif_2 {α : Type} {a b c d : Nat} {x y : α} : (bif Nat.beq a b && Nat.beq c d then x else y) = if a = b ∧ c = d then x else y := by
  cases h : Nat.beq a b with
  | false => rw [if_neg (fun q => Nat.ne_of_beq_eq_false h q.1)]; rfl
  | true =>
    cases h' : Nat.beq c d with
    | false => rw [if_neg (fun q => Nat.ne_of_beq_eq_false h' q.2)]; rfl
    | true => rw [if_pos ⟨Nat.eq_of_beq_eq_true h, Nat.eq_of_beq_eq_true h'⟩]; rfl
theorem lk1_c (q : Nat × Shp) (r : List (Nat × Shp)) (c : Nat) : lk1 (q :: r) c = if c = q.1 then some q.2 else lk1 r c := bif_1
theorem lkR_c (q : Nat × Nat × Nat) (r : List (Nat × Nat × Nat)) (c f : Nat) : lkR (q :: r) c f = if c = q.1 ∧ f = q.2.1 then some q.2.2 else lkR r c f := bif_2
theorem lkI_c (q : Nat × Nat × Int32) (r : List (Nat × Nat × Int32)) (c f : Nat) : lkI (q :: r) c f = if c = q.1 ∧ f = q.2.1 then some q.2.2 else lkI r c f := bif_2
theorem inZ_c (q : Nat) (r : List Nat) (c : Nat) : inZ (q :: r) c = if c = q then true else inZ r c := bif_1
def Rp (L : Nat) (I0 : Nat → Nat → Int32) (s : Ab) : Mem := (s.1, s.2.1, (fun c => (lk1 s.2.2.1 c).getD (.inl (.int, L))), (fun c f => lkR s.2.2.2.1 c f), (fun c f => (lkI s.2.2.2.2.1 c f).getD (if inZ s.2.2.2.2.2 c = true then 0 else I0 c f)), fun _ _ => 0)
def Iv (s : Ab) : Prop := 3 ≤ s.1 ∧ (∀ q ∈ s.2.2.2.1, q.1 < s.1) ∧ ∀ q ∈ s.2.2.2.2.1, q.1 < s.1
def yM (s : Ab) (sh : Shp) (n : Nat) : Ab := (s.1 + 1, s.2.1 + n, (s.1, sh) :: s.2.2.1, s.2.2.2.1, s.2.2.2.2.1, s.1 :: s.2.2.2.2.2)
def ynwO {β : Type} (s : Ab) (ci n : Nat) (k : Nat → Ab → Option β) : Option β := k s.1 (yM s (.inr ci) n)
def ynwA {β : Type} (s : Ab) (ty : FieldType) (n : Int32) (k : Nat → Ab → Option β) : Option β := if ¬ n < 0 ∧ n.toNatClampNeg ≤ 60000000 then k s.1 (yM s (.inl (ty, n.toNatClampNeg)) n.toNatClampNeg) else none
def gS (N k : Nat) : Nat → List (Nat × Shp) → List (Nat × Shp)
  | 0, a => a
  | i + 1, a => (N + 1 + i, .inl (.int, k)) :: gS N k i a
def gF (N : Nat) : Nat → List (Nat × Nat × Nat) → List (Nat × Nat × Nat)
  | 0, a => a
  | i + 1, a => (N, i, N + 1 + i) :: gF N i a
def gZ (N : Nat) : Nat → List Nat → List Nat
  | 0, a => a
  | i + 1, a => (N + 1 + i) :: gZ N i a
def yG (s : Ab) (n k : Nat) : Ab := (s.1 + 1 + n, s.2.1 + n + n * k, gS s.1 k n ((s.1, .inl (.array .int, n)) :: s.2.2.1), gF s.1 n s.2.2.2.1, s.2.2.2.2.1, gZ s.1 n s.2.2.2.2.2)
def ynwG {β : Type} (s : Ab) (n k : Int32) (kk : Nat → Ab → Option β) : Option β := if (¬ n < 0 ∧ ¬ k < 0) ∧ n.toNatClampNeg ≤ 1000000 ∧ k.toNatClampNeg ≤ 1000000 then kk s.1 (yG s n.toNatClampNeg k.toNatClampNeg) else none
abbrev isO (s : Ab) (ci c : Nat) : Prop := c < s.1 ∧ 3 ≤ c ∧ lk1 s.2.2.1 c = some (.inr ci)
def ypR {β : Type} (s : Ab) (ci f c : Nat) (x : Nat) (k : Ab → Option β) : Option β := if isO s ci c then k (s.1, s.2.1, s.2.2.1, (c, f, x) :: s.2.2.2.1, s.2.2.2.2) else none
def ypI {β : Type} (s : Ab) (ci f c : Nat) (x : Int32) (k : Ab → Option β) : Option β := if isO s ci c then k (s.1, s.2.1, s.2.2.1, s.2.2.2.1, (c, f, x) :: s.2.2.2.2.1, s.2.2.2.2.2) else none
def ygR {β : Type} (s : Ab) (ci f c : Nat) (k : Nat → Option β) : Option β := if isO s ci c then (match lkR s.2.2.2.1 c f with | some a => k a | none => none) else none
def isA (s : Ab) (ty : FieldType) (c : Nat) (i : Int32) : Bool := decide (c < s.1 ∧ 3 ≤ c) && (match lk1 s.2.2.1 c with
  | some (.inl (t, n)) => decide (t = ty) && decide (¬ (i < 0 ∨ n ≤ i.toNatClampNeg))
  | _ => false)
def ywI {β : Type} (s : Ab) (ty : FieldType) (c : Nat) (i x : Int32) (k : Ab → Option β) : Option β := if isA s ty c i = true ∧ ty = .int then k (s.1, s.2.1, s.2.2.1, s.2.2.2.1, (c, i.toNatClampNeg, x) :: s.2.2.2.2.1, s.2.2.2.2.2) else none
def ywR {β : Type} (s : Ab) (ci c : Nat) (i : Int32) (x : Nat) (k : Ab → Option β) : Option β := if isA s (.object "ChainBooks$Head") c i = true ∧ isO s ci x then k (s.1, s.2.1, s.2.2.1, (c, i.toNatClampNeg, x) :: s.2.2.2.1, s.2.2.2.2) else none
def ybd {α β : Type} (c : Option (α × Ab)) (k : α → Ab → Option β) : Option β := match c with
  | some (r, s) => k r s
  | none => none
/-- where the logs go through, the memory goes along -/
def Gs (L : Nat) (I0 : Nat → Nat → Int32) {α : Type} (x : Option (α × Mem)) (x' : Option (α × Ab)) : Prop := ∀ y, x' = some y → x = some (y.1, Rp L I0 y.2) ∧ Iv y.2
theorem lkR_no {N : Nat} : ∀ {r : List (Nat × Nat × Nat)} {f : Nat}, (∀ q ∈ r, q.1 < N) → ∀ c, N ≤ c → lkR r c f = none
  | [], f, h, c, hc => rfl
  | q :: r, f, h, c, hc => by
    have := h q (List.mem_cons_self ..)
    rw [lkR_c, if_neg (by omega)]
    exact lkR_no (fun z hz => h z (List.mem_cons_of_mem _ hz)) c hc
theorem lkI_no {N : Nat} : ∀ {r : List (Nat × Nat × Int32)} {f : Nat}, (∀ q ∈ r, q.1 < N) → ∀ c, N ≤ c → lkI r c f = none
  | [], f, h, c, hc => rfl
  | q :: r, f, h, c, hc => by
    have := h q (List.mem_cons_self ..)
    rw [lkI_c, if_neg (by omega)]
    exact lkI_no (fun z hz => h z (List.mem_cons_of_mem _ hz)) c hc
theorem gS_lk (N k : Nat) (a : List (Nat × Shp)) (c : Nat) : ∀ n, lk1 (gS N k n a) c = if N < c ∧ c < N + 1 + n then some (.inl (.int, k)) else lk1 a c
  | 0 => by rw [gS, if_neg (by omega)]
  | n + 1 => by
    rw [gS, lk1_c, gS_lk N k a c n]
    by_cases h : c = N + 1 + n
    · rw [if_pos h, if_pos ⟨by omega, by omega⟩]
    · rw [if_neg h]
      by_cases w : N < c ∧ c < N + 1 + n
      · rw [if_pos w, if_pos ⟨w.1, by omega⟩]
      · rw [if_neg w, if_neg (fun q => w ⟨q.1, by omega⟩)]
theorem gF_lk (N : Nat) (a : List (Nat × Nat × Nat)) (c f : Nat) : ∀ n, lkR (gF N n a) c f = if c = N ∧ f < n then some (N + 1 + f) else lkR a c f
  | 0 => by rw [gF, if_neg (by omega)]
  | n + 1 => by
    rw [gF, lkR_c, gF_lk N a c f n]
    by_cases h : c = N ∧ f = n
    · rw [if_pos h, if_pos ⟨h.1, by omega⟩, h.2]
    · rw [if_neg h]
      by_cases w : c = N ∧ f < n
      · rw [if_pos w, if_pos ⟨w.1, by omega⟩]
      · rw [if_neg w, if_neg (fun q => w ⟨q.1, by
          have : ¬ f = n := fun z => h ⟨q.1, z⟩
          omega⟩)]
theorem gZ_in (N : Nat) (a : List Nat) (c : Nat) : ∀ n, inZ (gZ N n a) c = if N < c ∧ c < N + 1 + n then true else inZ a c
  | 0 => by rw [gZ, if_neg (by omega)]
  | n + 1 => by
    rw [gZ, inZ_c, gZ_in N a c n]
    by_cases h : c = N + 1 + n
    · rw [if_pos h, if_pos ⟨by omega, by omega⟩]
    · rw [if_neg h]
      by_cases w : N < c ∧ c < N + 1 + n
      · rw [if_pos w, if_pos ⟨w.1, by omega⟩]
      · rw [if_neg w, if_neg (fun q => w ⟨q.1, by omega⟩)]
theorem gF_in (N M : Nat) (hN : N < M) : ∀ (n : Nat) (a : List (Nat × Nat × Nat)), (∀ q ∈ a, q.1 < M) → ∀ q ∈ gF N n a, q.1 < M
  | 0, a, h => h
  | n + 1, a, h => fun q hq => (List.mem_cons.mp hq).elim (fun e => by rw [e]; exact hN) (fun e => gF_in N M hN n a h q e)
section Init
variable {L : Nat} {I0 : Nat → Nat → Int32} {s : Ab} {α : Type}
theorem nwM_rp (h : Iv s) (sh : Shp) (n : Nat) : nwM (Rp L I0 s) sh n = Rp L I0 (yM s sh n) := by
  obtain ⟨h0, h1, h2⟩ := h
  have eS : (fun c => if c = s.1 then sh else (lk1 s.2.2.1 c).getD (.inl (.int, L))) = fun c => (lk1 ((s.1, sh) :: s.2.2.1) c).getD (.inl (.int, L)) := by
    funext c
    rw [lk1_c]
    by_cases q : c = s.1
    · rw [if_pos q, if_pos q]; rfl
    · rw [if_neg q, if_neg q]
  have eR : u1 (fun c f => lkR s.2.2.2.1 c f) s.1 (fun _ => none) = fun c f => lkR s.2.2.2.1 c f := by
    funext c
    unfold u1
    by_cases q : c = s.1
    · rw [if_pos q]
      funext f
      rw [lkR_no h1 c (by omega)]
    · rw [if_neg q]
  have eI : u1 (fun c f => (lkI s.2.2.2.2.1 c f).getD (if inZ s.2.2.2.2.2 c = true then 0 else I0 c f)) s.1 (fun _ => 0) = fun c f => (lkI s.2.2.2.2.1 c f).getD (if inZ (s.1 :: s.2.2.2.2.2) c = true then 0 else I0 c f) := by
    funext c f
    unfold u1
    rw [inZ_c]
    by_cases q : c = s.1
    · rw [if_pos q, if_pos q, lkI_no h2 c (by omega), if_pos rfl]; rfl
    · rw [if_neg q, if_neg q]
  have eJ : u1 (fun _ _ => (0 : Int64)) s.1 (fun _ => 0) = fun _ _ => 0 := by
    funext c
    unfold u1
    split <;> rfl
  show (s.1 + 1, s.2.1 + n, (fun c => if c = s.1 then sh else (lk1 s.2.2.1 c).getD (.inl (.int, L))), u1 (fun c f => lkR s.2.2.2.1 c f) s.1 (fun _ => none), u1 (fun c f => (lkI s.2.2.2.2.1 c f).getD (if inZ s.2.2.2.2.2 c = true then 0 else I0 c f)) s.1 (fun _ => 0), u1 (fun _ _ => (0 : Int64)) s.1 (fun _ => 0)) = _
  rw [eS, eR, eI, eJ]
  rfl
theorem yM_iv (h : Iv s) (sh : Shp) (n : Nat) : Iv (yM s sh n) := ⟨Nat.le_succ_of_le h.1, fun q hq => Nat.lt_succ_of_lt (h.2.1 q hq), fun q hq => Nat.lt_succ_of_lt (h.2.2 q hq)⟩
theorem nwGM_rp (h : Iv s) (n k : Nat) : nwGM (Rp L I0 s) n k = Rp L I0 (yG s n k) := by
  obtain ⟨h0, h1, h2⟩ := h
  have eS : (fun c => if c = s.1 then .inl (.array .int, n) else if s.1 < c ∧ c < s.1 + 1 + n then .inl (.int, k) else (lk1 s.2.2.1 c).getD (.inl (.int, L))) = fun c => (lk1 (gS s.1 k n ((s.1, .inl (.array .int, n)) :: s.2.2.1)) c).getD (.inl (.int, L)) := by
    funext c
    rw [gS_lk, lk1_c]
    by_cases q : c = s.1
    · rw [if_pos q, if_neg (by omega), if_pos q]; rfl
    · rw [if_neg q, if_neg q]
      by_cases w : s.1 < c ∧ c < s.1 + 1 + n
      · rw [if_pos w, if_pos w]; rfl
      · rw [if_neg w, if_neg w]
  have eR : u1 (fun c f => lkR s.2.2.2.1 c f) s.1 (fun i => if i < n then some (s.1 + 1 + i) else none) = fun c f => lkR (gF s.1 n s.2.2.2.1) c f := by
    funext c f
    rw [gF_lk]
    unfold u1
    by_cases q : c = s.1
    · rw [if_pos q]
      by_cases w : f < n
      · rw [if_pos w, if_pos ⟨q, w⟩]
      · rw [if_neg w, if_neg (fun z => w z.2), lkR_no h1 c (by omega)]
    · rw [if_neg q, if_neg (fun z => q z.1)]
  have eI : (fun c => if s.1 < c ∧ c < s.1 + 1 + n then (fun _ => (0 : Int32)) else fun f => (lkI s.2.2.2.2.1 c f).getD (if inZ s.2.2.2.2.2 c = true then 0 else I0 c f)) = fun c f => (lkI s.2.2.2.2.1 c f).getD (if inZ (gZ s.1 n s.2.2.2.2.2) c = true then 0 else I0 c f) := by
    funext c f
    rw [gZ_in]
    by_cases w : s.1 < c ∧ c < s.1 + 1 + n
    · rw [if_pos w, if_pos w, lkI_no h2 c (by omega), if_pos rfl]; rfl
    · rw [if_neg w, if_neg w]
  show (s.1 + 1 + n, s.2.1 + n + n * k, (fun c => if c = s.1 then .inl (.array .int, n) else if s.1 < c ∧ c < s.1 + 1 + n then .inl (.int, k) else (lk1 s.2.2.1 c).getD (.inl (.int, L))), u1 (fun c f => lkR s.2.2.2.1 c f) s.1 (fun i => if i < n then some (s.1 + 1 + i) else none), (fun c => if s.1 < c ∧ c < s.1 + 1 + n then (fun _ => (0 : Int32)) else fun f => (lkI s.2.2.2.2.1 c f).getD (if inZ s.2.2.2.2.2 c = true then 0 else I0 c f)), fun _ _ => (0 : Int64)) = _
  rw [eS, eR, eI]
  rfl
theorem yG_iv (h : Iv s) (n k : Nat) : Iv (yG s n k) := by
  obtain ⟨h0, h1, h2⟩ := h
  refine ⟨by show 3 ≤ s.1 + 1 + n; omega, ?_, fun q hq => by have := h2 q hq; show q.1 < s.1 + 1 + n; omega⟩
  exact gF_in s.1 (s.1 + 1 + n) (by omega) n s.2.2.2.1 (fun q hq => by have := h1 q hq; omega)
theorem okO_rp {ci c : Nat} (h : isO s ci c) : okO (Rp L I0 s) ci c = true := okO_of h.1 h.2.1 (by
  show (lk1 s.2.2.1 c).getD _ = _
  rw [h.2.2]
  rfl)
theorem okA_rp {ty : FieldType} {c : Nat} {i : Int32} (h : isA s ty c i = true) : okA (Rp L I0 s) ty c i = true ∧ nS ≤ c ∧ c < s.1 := by
  unfold isA at h
  rw [Bool.and_eq_true] at h
  have h1 := of_decide_eq_true h.1
  have h2 := h.2
  refine ⟨?_, h1.2, h1.1⟩
  have e : mSh (Rp L I0 s) c = (lk1 s.2.2.1 c).getD (.inl (.int, L)) := rfl
  unfold okA
  rw [e]
  cases hx : lk1 s.2.2.1 c with
  | none => rw [hx] at h2; cases h2
  | some z =>
    rw [hx] at h2
    cases z with
    | inr y => cases h2
    | inl y =>
      rw [Bool.and_eq_true]
      exact ⟨decide_eq_true h1.1, h2⟩
theorem Gs_some (h : Iv s) {a : α} : Gs L I0 (some (a, Rp L I0 s)) (some (a, s)) := fun y hy => by cases hy; exact ⟨rfl, h⟩
theorem Gs_none {x : Option (α × Mem)} : Gs L I0 x none := fun y hy => by cases hy
theorem Gs_nwO (h : Iv s) {ci n : Nat} {k : Nat → Mem → Option (α × Mem)} {k' : Nat → Ab → Option (α × Ab)} (hk : ∀ c t, Iv t → Gs L I0 (k c (Rp L I0 t)) (k' c t)) : Gs L I0 (nwO (Rp L I0 s) ci n k) (ynwO s ci n k') := by
  unfold nwO ynwO
  rw [nwM_rp h]
  exact hk _ _ (yM_iv h _ _)
theorem Gs_nwA (h : Iv s) {ty : FieldType} {n : Int32} {k : Nat → Mem → Option (α × Mem)} {k' : Nat → Ab → Option (α × Ab)} (hk : ∀ c t, Iv t → Gs L I0 (k c (Rp L I0 t)) (k' c t)) : Gs L I0 (nwA (Rp L I0 s) ty n k) (ynwA s ty n k') := by
  unfold nwA ynwA
  by_cases w : ¬ n < 0 ∧ n.toNatClampNeg ≤ 60000000
  · rw [if_pos w, if_pos w, nwM_rp h]
    exact hk _ _ (yM_iv h _ _)
  · rw [if_neg w, if_neg w]
    exact Gs_none
theorem Gs_nwG (h : Iv s) {n j : Int32} {k : Nat → Mem → Option (α × Mem)} {k' : Nat → Ab → Option (α × Ab)} (hk : ∀ c t, Iv t → Gs L I0 (k c (Rp L I0 t)) (k' c t)) : Gs L I0 (nwG (Rp L I0 s) n j k) (ynwG s n j k') := by
  unfold nwG ynwG
  by_cases w : (¬ n < 0 ∧ ¬ j < 0) ∧ n.toNatClampNeg ≤ 1000000 ∧ j.toNatClampNeg ≤ 1000000
  · rw [if_pos w, if_pos w, nwGM_rp h]
    exact hk _ _ (yG_iv h _ _)
  · rw [if_neg w, if_neg w]
    exact Gs_none
theorem stR_rp {c f x : Nat} : stR (Rp L I0 s) c f (some x) = Rp L I0 (s.1, s.2.1, s.2.2.1, (c, f, x) :: s.2.2.2.1, s.2.2.2.2) := by
  have eR : u2 (fun c f => lkR s.2.2.2.1 c f) c f (some x) = fun c' f' => lkR ((c, f, x) :: s.2.2.2.1) c' f' := by
    funext c' f'
    rw [lkR_c]
    rfl
  show (s.1, s.2.1, _, u2 (fun c f => lkR s.2.2.2.1 c f) c f (some x), _, _) = _
  rw [eR]
  rfl
theorem stI_rp {c f : Nat} {x : Int32} : stI (Rp L I0 s) c f x = Rp L I0 (s.1, s.2.1, s.2.2.1, s.2.2.2.1, (c, f, x) :: s.2.2.2.2.1, s.2.2.2.2.2) := by
  have eI : u2 (fun c f => (lkI s.2.2.2.2.1 c f).getD (if inZ s.2.2.2.2.2 c = true then 0 else I0 c f)) c f x = fun c' f' => (lkI ((c, f, x) :: s.2.2.2.2.1) c' f').getD (if inZ s.2.2.2.2.2 c' = true then 0 else I0 c' f') := by
    funext c' f'
    rw [lkI_c]
    unfold u2
    by_cases w : c' = c ∧ f' = f
    · rw [if_pos w, if_pos w]; rfl
    · rw [if_neg w, if_neg w]
  show (s.1, s.2.1, _, _, u2 (fun c f => (lkI s.2.2.2.2.1 c f).getD (if inZ s.2.2.2.2.2 c = true then 0 else I0 c f)) c f x, _) = _
  rw [eI]
  rfl
theorem Gs_pR (h : Iv s) {ci f c x : Nat} {k : Mem → Option (α × Mem)} {k' : Ab → Option (α × Ab)} (hk : ∀ t, Iv t → Gs L I0 (k (Rp L I0 t)) (k' t)) : Gs L I0 (pR (Rp L I0 s) ci f c x k) (ypR s ci f c x k') := by
  unfold ypR
  by_cases w : isO s ci c
  · rw [if_pos w]
    unfold pR
    rw [if_pos (okO_rp w), stR_rp]
    exact hk _ ⟨h.1, fun q hq => (List.mem_cons.mp hq).elim (fun e => by rw [e]; exact w.1) (fun e => h.2.1 q e), h.2.2⟩
  · rw [if_neg w]
    exact Gs_none
theorem Gs_pI (h : Iv s) {ci f c : Nat} {x : Int32} {k : Mem → Option (α × Mem)} {k' : Ab → Option (α × Ab)} (hk : ∀ t, Iv t → Gs L I0 (k (Rp L I0 t)) (k' t)) : Gs L I0 (pI (Rp L I0 s) ci f c x k) (ypI s ci f c x k') := by
  unfold ypI
  by_cases w : isO s ci c
  · rw [if_pos w]
    unfold pI
    rw [if_pos (okO_rp w), stI_rp]
    exact hk _ ⟨h.1, h.2.1, fun q hq => (List.mem_cons.mp hq).elim (fun e => by rw [e]; exact w.1) (fun e => h.2.2 q e)⟩
  · rw [if_neg w]
    exact Gs_none
theorem Gs_gR {ci f c : Nat} {k : Nat → Option (α × Mem)} {k' : Nat → Option (α × Ab)} (hk : ∀ a, Gs L I0 (k a) (k' a)) : Gs L I0 (gR (Rp L I0 s) ci f c k) (ygR s ci f c k') := by
  unfold ygR
  by_cases w : isO s ci c
  · rw [if_pos w]
    unfold gR
    rw [if_pos (okO_rp w)]
    show Gs L I0 (match lkR s.2.2.2.1 c f with | some a => k a | none => none) _
    cases lkR s.2.2.2.1 c f with
    | none => exact Gs_none
    | some a => exact hk a
  · rw [if_neg w]
    exact Gs_none
theorem Gs_wI (h : Iv s) {ty : FieldType} {c : Nat} {i x : Int32} {k : Mem → Option (α × Mem)} {k' : Ab → Option (α × Ab)} (hk : ∀ t, Iv t → Gs L I0 (k (Rp L I0 t)) (k' t)) : Gs L I0 (wI (Rp L I0 s) ty c i x k) (ywI s ty c i x k') := by
  unfold ywI
  by_cases w : isA s ty c i = true ∧ ty = .int
  · rw [if_pos w]
    have o := okA_rp (L := L) (I0 := I0) w.1
    unfold wI
    rw [if_pos ⟨o.1, o.2.1⟩, w.2, vp_narI, stI_rp]
    exact hk _ ⟨h.1, h.2.1, fun q hq => (List.mem_cons.mp hq).elim (fun e => by rw [e]; exact o.2.2) (fun e => h.2.2 q e)⟩
  · rw [if_neg w]
    exact Gs_none
theorem Gs_wR (h : Iv s) {ci c x : Nat} {i : Int32} {k : Mem → Option (α × Mem)} {k' : Ab → Option (α × Ab)} (hk : ∀ t, Iv t → Gs L I0 (k (Rp L I0 t)) (k' t)) : Gs L I0 (wR (Rp L I0 s) ci c i x k) (ywR s ci c i x k') := by
  unfold ywR
  by_cases w : isA s (.object "ChainBooks$Head") c i = true ∧ isO s ci x
  · rw [if_pos w]
    have o := okA_rp (L := L) (I0 := I0) w.1
    unfold wR
    rw [if_pos ⟨⟨o.1, o.2.1⟩, okO_rp w.2⟩, stR_rp]
    exact hk _ ⟨h.1, fun q hq => (List.mem_cons.mp hq).elim (fun e => by rw [e]; exact o.2.2) (fun e => h.2.1 q e), h.2.2⟩
  · rw [if_neg w]
    exact Gs_none
theorem Gs_bd {γ : Type} {x : Option (γ × Mem)} {x' : Option (γ × Ab)} {k : γ → Mem → Option (α × Mem)} {k' : γ → Ab → Option (α × Ab)} (hx : Gs L I0 x x') (hk : ∀ u t, Iv t → Gs L I0 (k u (Rp L I0 t)) (k' u t)) : Gs L I0 (bd x k) (ybd x' k') := by
  unfold ybd
  cases e : x' with
  | none => exact Gs_none
  | some y =>
    obtain ⟨a1, a2⟩ := hx y e
    rw [a1, bd_some]
    exact hk _ _ a2
theorem Gs_ite {c : Prop} [Decidable c] {x y : Option (α × Mem)} {x' y' : Option (α × Ab)} (h1 : Gs L I0 x x') (h2 : Gs L I0 y y') : Gs L I0 (if c then x else y) (if c then x' else y') := by
  by_cases w : c
  · rw [if_pos w, if_pos w]; exact h1
  · rw [if_neg w, if_neg w]; exact h2
end Init

def qX1_init (l0 : Nat) (M : Ab) : Option (Unit × Ab) := (ynwA M .byte (82 : Int32) fun c1 M2 => (ypR M2 1 0 l0 c1 fun M3 => some ((), M3)))
set_option maxRecDepth 100000 in
set_option maxHeartbeats 4000000 in
theorem sfX1_init {L : Nat} {I0 : Nat → Nat → Int32} {s : Ab} (hs : Iv s) (l0 : Nat) : Gs L I0 (fX1_init l0 (Rp L I0 s)) (qX1_init l0 s) := by
  unfold fX1_init qX1_init
  repeat (first | exact Gs_some hs | refine Gs_nwA hs (fun _ _ hs => ?_) | refine Gs_pR hs (fun _ hs => ?_) | refine Gs_wI hs (fun _ hs => ?_) | refine Gs_nwO hs (fun _ _ hs => ?_) | refine Gs_nwG hs (fun _ _ hs => ?_) | refine Gs_pI hs (fun _ hs => ?_) | refine Gs_wR hs (fun _ hs => ?_) | refine Gs_gR (fun _ => ?_))
def qX4_init (l0 : Nat) (M : Ab) : Option (Unit × Ab) := (ynwA M .int (8 : Int32) fun c1 M2 => (ypR M2 4 0 l0 c1 fun M3 => (ynwA M3 .long (8 : Int32) fun c4 M5 => (ypR M5 4 1 l0 c4 fun M6 => some ((), M6)))))
set_option maxRecDepth 100000 in
set_option maxHeartbeats 4000000 in
theorem sfX4_init {L : Nat} {I0 : Nat → Nat → Int32} {s : Ab} (hs : Iv s) (l0 : Nat) : Gs L I0 (fX4_init l0 (Rp L I0 s)) (qX4_init l0 s) := by
  unfold fX4_init qX4_init
  repeat (first | exact Gs_some hs | refine Gs_nwA hs (fun _ _ hs => ?_) | refine Gs_pR hs (fun _ hs => ?_) | refine Gs_wI hs (fun _ hs => ?_) | refine Gs_nwO hs (fun _ _ hs => ?_) | refine Gs_nwG hs (fun _ _ hs => ?_) | refine Gs_pI hs (fun _ hs => ?_) | refine Gs_wR hs (fun _ hs => ?_) | refine Gs_gR (fun _ => ?_))
def qX3_init (l0 : Nat) (M : Ab) : Option (Unit × Ab) := (ynwA M .long (40 : Int32) fun c1 M2 => (ypR M2 3 0 l0 c1 fun M3 => (ynwA M3 .long (40 : Int32) fun c4 M5 => (ypR M5 3 1 l0 c4 fun M6 => (ynwA M6 .long (40 : Int32) fun c7 M8 => (ypR M8 3 2 l0 c7 fun M9 => (ynwA M9 .long (40 : Int32) fun c10 M11 => (ypR M11 3 3 l0 c10 fun M12 => (ynwA M12 .byte (16400 : Int32) fun c13 M14 => (ypR M14 3 5 l0 c13 fun M15 => (ynwA M15 .int (201 : Int32) fun c16 M17 => (ypR M17 3 6 l0 c16 fun M18 => (ynwA M18 .long (200 : Int32) fun c19 M20 => (ypR M20 3 7 l0 c19 fun M21 => (ynwA M21 .int (200 : Int32) fun c22 M23 => (ypR M23 3 8 l0 c22 fun M24 => (ynwA M24 .int (200 : Int32) fun c25 M26 => (ypR M26 3 9 l0 c25 fun M27 => (ynwA M27 .int (1600 : Int32) fun c28 M29 => (ypR M29 3 10 l0 c28 fun M30 => (ynwA M30 .long (1600 : Int32) fun c31 M32 => (ypR M32 3 11 l0 c31 fun M33 => (ynwO M33 1 2 fun c34 M35 => (ybd (qX1_init c34 M35) fun _u37 M36 => (ypR M36 3 13 l0 c34 fun M38 => (ynwO M38 4 3 fun c39 M40 => (ybd (qX4_init c39 M40) fun _u42 M41 => (ypR M41 3 14 l0 c39 fun M43 => some ((), M43)))))))))))))))))))))))))))))
set_option maxRecDepth 100000 in
set_option maxHeartbeats 4000000 in
theorem sfX3_init {L : Nat} {I0 : Nat → Nat → Int32} {s : Ab} (hs : Iv s) (l0 : Nat) : Gs L I0 (fX3_init l0 (Rp L I0 s)) (qX3_init l0 s) := by
  unfold fX3_init qX3_init
  repeat (first | exact Gs_some hs | refine Gs_nwA hs (fun _ _ hs => ?_) | refine Gs_pR hs (fun _ hs => ?_) | refine Gs_wI hs (fun _ hs => ?_) | refine Gs_nwO hs (fun _ _ hs => ?_) | refine Gs_bd (sfX1_init hs _) (fun _ _ hs => ?_) | refine Gs_bd (sfX4_init hs _) (fun _ _ hs => ?_) | refine Gs_nwG hs (fun _ _ hs => ?_) | refine Gs_pI hs (fun _ hs => ?_) | refine Gs_wR hs (fun _ hs => ?_) | refine Gs_gR (fun _ => ?_))
def qX0_init (l0 : Nat) (M : Ab) : Option (Unit × Ab) := (ynwO M 3 18 fun c1 M2 => (ybd (qX3_init c1 M2) fun _u4 M3 => (ypR M3 0 0 l0 c1 fun M5 => (ynwO M5 4 3 fun c6 M7 => (ybd (qX4_init c6 M7) fun _u9 M8 => (ypR M8 0 1 l0 c6 fun M10 => some ((), M10)))))))
set_option maxRecDepth 100000 in
set_option maxHeartbeats 4000000 in
theorem sfX0_init {L : Nat} {I0 : Nat → Nat → Int32} {s : Ab} (hs : Iv s) (l0 : Nat) : Gs L I0 (fX0_init l0 (Rp L I0 s)) (qX0_init l0 s) := by
  unfold fX0_init qX0_init
  repeat (first | exact Gs_some hs | refine Gs_nwA hs (fun _ _ hs => ?_) | refine Gs_pR hs (fun _ hs => ?_) | refine Gs_wI hs (fun _ hs => ?_) | refine Gs_nwO hs (fun _ _ hs => ?_) | refine Gs_bd (sfX3_init hs _) (fun _ _ hs => ?_) | refine Gs_bd (sfX4_init hs _) (fun _ _ hs => ?_) | refine Gs_nwG hs (fun _ _ hs => ?_) | refine Gs_pI hs (fun _ hs => ?_) | refine Gs_wR hs (fun _ hs => ?_) | refine Gs_gR (fun _ => ?_))
def qX2_init (l0 : Nat) (M : Ab) : Option (Unit × Ab) := (ynwA M .int (8 : Int32) fun c1 M2 => (ypR M2 2 0 l0 c1 fun M3 => (ynwA M3 .int (8 : Int32) fun c4 M5 => (ypR M5 2 1 l0 c4 fun M6 => (ypI M6 2 2 l0 (-1 : Int32) fun M7 => some ((), M7))))))
set_option maxRecDepth 100000 in
set_option maxHeartbeats 4000000 in
theorem sfX2_init {L : Nat} {I0 : Nat → Nat → Int32} {s : Ab} (hs : Iv s) (l0 : Nat) : Gs L I0 (fX2_init l0 (Rp L I0 s)) (qX2_init l0 s) := by
  unfold fX2_init qX2_init
  repeat (first | exact Gs_some hs | refine Gs_nwA hs (fun _ _ hs => ?_) | refine Gs_pR hs (fun _ hs => ?_) | refine Gs_wI hs (fun _ hs => ?_) | refine Gs_nwO hs (fun _ _ hs => ?_) | refine Gs_nwG hs (fun _ _ hs => ?_) | refine Gs_pI hs (fun _ hs => ?_) | refine Gs_wR hs (fun _ hs => ?_) | refine Gs_gR (fun _ => ?_))
def qX6_init (l0 : Nat) (M : Ab) : Option (Unit × Ab) := (ynwA M .byte (128 : Int32) fun c1 M2 => (ypR M2 6 0 l0 c1 fun M3 => (ynwA M3 .int (64 : Int32) fun c4 M5 => (ypR M5 6 2 l0 c4 fun M6 => (ynwA M6 .int (8 : Int32) fun c7 M8 => (ypR M8 6 3 l0 c7 fun M9 => some ((), M9)))))))
set_option maxRecDepth 100000 in
set_option maxHeartbeats 4000000 in
theorem sfX6_init {L : Nat} {I0 : Nat → Nat → Int32} {s : Ab} (hs : Iv s) (l0 : Nat) : Gs L I0 (fX6_init l0 (Rp L I0 s)) (qX6_init l0 s) := by
  unfold fX6_init qX6_init
  repeat (first | exact Gs_some hs | refine Gs_nwA hs (fun _ _ hs => ?_) | refine Gs_pR hs (fun _ hs => ?_) | refine Gs_wI hs (fun _ hs => ?_) | refine Gs_nwO hs (fun _ _ hs => ?_) | refine Gs_nwG hs (fun _ _ hs => ?_) | refine Gs_pI hs (fun _ hs => ?_) | refine Gs_wR hs (fun _ hs => ?_) | refine Gs_gR (fun _ => ?_))
def qX5_init (l0 : Nat) (M : Ab) : Option (Unit × Ab) := (ynwA M .byte (16400 : Int32) fun c1 M2 => (ypR M2 5 0 l0 c1 fun M3 => (ynwA M3 .int (201 : Int32) fun c4 M5 => (ypR M5 5 1 l0 c4 fun M6 => (ynwO M6 6 4 fun c7 M8 => (ybd (qX6_init c7 M8) fun _u10 M9 => (ypR M9 5 3 l0 c7 fun M11 => (ynwG M11 (201 : Int32) (8 : Int32) fun c12 M13 => (ypR M13 5 4 l0 c12 fun M14 => (ynwG M14 (456 : Int32) (8 : Int32) fun c15 M16 => (ypR M16 5 6 l0 c15 fun M17 => (ynwA M17 .boolean (456 : Int32) fun c18 M19 => (ypR M19 5 7 l0 c18 fun M20 => some ((), M20))))))))))))))
set_option maxRecDepth 100000 in
set_option maxHeartbeats 4000000 in
theorem sfX5_init {L : Nat} {I0 : Nat → Nat → Int32} {s : Ab} (hs : Iv s) (l0 : Nat) : Gs L I0 (fX5_init l0 (Rp L I0 s)) (qX5_init l0 s) := by
  unfold fX5_init qX5_init
  repeat (first | exact Gs_some hs | refine Gs_nwA hs (fun _ _ hs => ?_) | refine Gs_pR hs (fun _ hs => ?_) | refine Gs_wI hs (fun _ hs => ?_) | refine Gs_nwO hs (fun _ _ hs => ?_) | refine Gs_bd (sfX6_init hs _) (fun _ _ hs => ?_) | refine Gs_nwG hs (fun _ _ hs => ?_) | refine Gs_pI hs (fun _ hs => ?_) | refine Gs_wR hs (fun _ hs => ?_) | refine Gs_gR (fun _ => ?_))
def qX7_init (l0 : Nat) (M : Ab) : Option (Unit × Ab) := (ynwG M (9 : Int32) (8 : Int32) fun c1 M2 => (ypR M2 7 0 l0 c1 fun M3 => (ynwA M3 .boolean (8 : Int32) fun c4 M5 => (ypR M5 7 6 l0 c4 fun M6 => (ynwA M6 .int (8 : Int32) fun c7 M8 => (ypR M8 7 7 l0 c7 fun M9 => (ynwA M9 .int (8 : Int32) fun c10 M11 => (ypR M11 7 8 l0 c10 fun M12 => (ynwO M12 6 4 fun c13 M14 => (ybd (qX6_init c13 M14) fun _u16 M15 => (ypR M15 7 12 l0 c13 fun M17 => (ynwA M17 .int (8 : Int32) fun c18 M19 => (ypR M19 7 13 l0 c18 fun M20 => (ynwA M20 .int (8 : Int32) fun c21 M22 => (ypR M22 7 14 l0 c21 fun M23 => some ((), M23))))))))))))))))
set_option maxRecDepth 100000 in
set_option maxHeartbeats 4000000 in
theorem sfX7_init {L : Nat} {I0 : Nat → Nat → Int32} {s : Ab} (hs : Iv s) (l0 : Nat) : Gs L I0 (fX7_init l0 (Rp L I0 s)) (qX7_init l0 s) := by
  unfold fX7_init qX7_init
  repeat (first | exact Gs_some hs | refine Gs_nwA hs (fun _ _ hs => ?_) | refine Gs_pR hs (fun _ hs => ?_) | refine Gs_wI hs (fun _ hs => ?_) | refine Gs_nwO hs (fun _ _ hs => ?_) | refine Gs_bd (sfX6_init hs _) (fun _ _ hs => ?_) | refine Gs_nwG hs (fun _ _ hs => ?_) | refine Gs_pI hs (fun _ hs => ?_) | refine Gs_wR hs (fun _ hs => ?_) | refine Gs_gR (fun _ => ?_))
def qX8_init_79  : Nat → Nat → Int32 → Ab → Option (Unit × Ab)
  | 0, _, _, _ => none
  | n + 1, l0, l1, M => (if (8 : Int32) ≤ l1 then (ynwO M 7 15 fun c1 M2 => (ybd (qX7_init c1 M2) fun _u4 M3 => (ypR M3 8 5 l0 c1 fun M5 => (ynwO M5 0 2 fun c6 M7 => (ybd (qX0_init c6 M7) fun _u9 M8 => (ypR M8 8 6 l0 c6 fun M10 => (ynwA M10 .int (8 : Int32) fun c11 M12 => (ypR M12 8 7 l0 c11 fun M13 => some ((), M13))))))))) else (ygR M 8 4 l0 fun r14 => (ynwO M 2 3 fun c15 M16 => (ybd (qX2_init c15 M16) fun _u18 M17 => (ywR M17 2 r14 l1 c15 fun M19 => qX8_init_79  n l0 (l1 + (1 : Int32)) M19)))))
set_option maxRecDepth 100000 in
set_option maxHeartbeats 4000000 in
theorem sfX8_init_79 {L : Nat} {I0 : Nat → Nat → Int32} : ∀ (n : Nat) {s : Ab} (hs : Iv s) (l0 : Nat) (l1 : Int32), Gs L I0 (fX8_init_79 n l0 l1 (Rp L I0 s)) (qX8_init_79 n l0 l1 s)
  | 0, s, hs, l0, l1 => Gs_none
  | n + 1, s, hs, l0, l1 => by
    rw [fX8_init_79, qX8_init_79]
    refine Gs_ite ?_ ?_
    · repeat (first | exact Gs_some hs | refine Gs_nwA hs (fun _ _ hs => ?_) | refine Gs_pR hs (fun _ hs => ?_) | refine Gs_wI hs (fun _ hs => ?_) | refine Gs_nwO hs (fun _ _ hs => ?_) | refine Gs_bd (sfX7_init hs _) (fun _ _ hs => ?_) | refine Gs_bd (sfX0_init hs _) (fun _ _ hs => ?_) | refine Gs_bd (sfX2_init hs _) (fun _ _ hs => ?_) | refine Gs_nwG hs (fun _ _ hs => ?_) | refine Gs_pI hs (fun _ hs => ?_) | refine Gs_wR hs (fun _ hs => ?_) | refine Gs_gR (fun _ => ?_) | exact sfX8_init_79 n hs _ _)
    · repeat (first | exact Gs_some hs | refine Gs_nwA hs (fun _ _ hs => ?_) | refine Gs_pR hs (fun _ hs => ?_) | refine Gs_wI hs (fun _ hs => ?_) | refine Gs_nwO hs (fun _ _ hs => ?_) | refine Gs_bd (sfX7_init hs _) (fun _ _ hs => ?_) | refine Gs_bd (sfX0_init hs _) (fun _ _ hs => ?_) | refine Gs_bd (sfX2_init hs _) (fun _ _ hs => ?_) | refine Gs_nwG hs (fun _ _ hs => ?_) | refine Gs_pI hs (fun _ hs => ?_) | refine Gs_wR hs (fun _ hs => ?_) | refine Gs_gR (fun _ => ?_) | exact sfX8_init_79 n hs _ _)
def qX8_init_37  : Nat → Nat → Int32 → Ab → Option (Unit × Ab)
  | 0, _, _, _ => none
  | n + 1, l0, l1, M => (if (200 : Int32) < l1 then (ynwO M 5 8 fun c1 M2 => (ybd (qX5_init c1 M2) fun _u4 M3 => (ypR M3 8 3 l0 c1 fun M5 => (ynwA M5 (.object "ChainBooks$Head") (8 : Int32) fun c6 M7 => (ypR M7 8 4 l0 c6 fun M8 => qX8_init_79  FU l0 (0 : Int32) M8))))) else (ygR M 8 2 l0 fun r9 => (ywI M .int r9 l1 (-1 : Int32) fun M10 => qX8_init_37  n l0 (l1 + (1 : Int32)) M10)))
set_option maxRecDepth 100000 in
set_option maxHeartbeats 4000000 in
theorem sfX8_init_37 {L : Nat} {I0 : Nat → Nat → Int32} : ∀ (n : Nat) {s : Ab} (hs : Iv s) (l0 : Nat) (l1 : Int32), Gs L I0 (fX8_init_37 n l0 l1 (Rp L I0 s)) (qX8_init_37 n l0 l1 s)
  | 0, s, hs, l0, l1 => Gs_none
  | n + 1, s, hs, l0, l1 => by
    rw [fX8_init_37, qX8_init_37]
    refine Gs_ite ?_ ?_
    · repeat (first | exact Gs_some hs | refine Gs_nwA hs (fun _ _ hs => ?_) | refine Gs_pR hs (fun _ hs => ?_) | refine Gs_wI hs (fun _ hs => ?_) | refine Gs_nwO hs (fun _ _ hs => ?_) | refine Gs_bd (sfX5_init hs _) (fun _ _ hs => ?_) | exact sfX8_init_79 _ hs _ _ | refine Gs_nwG hs (fun _ _ hs => ?_) | refine Gs_pI hs (fun _ hs => ?_) | refine Gs_wR hs (fun _ hs => ?_) | refine Gs_gR (fun _ => ?_) | exact sfX8_init_37 n hs _ _)
    · repeat (first | exact Gs_some hs | refine Gs_nwA hs (fun _ _ hs => ?_) | refine Gs_pR hs (fun _ hs => ?_) | refine Gs_wI hs (fun _ hs => ?_) | refine Gs_nwO hs (fun _ _ hs => ?_) | refine Gs_bd (sfX5_init hs _) (fun _ _ hs => ?_) | exact sfX8_init_79 _ hs _ _ | refine Gs_nwG hs (fun _ _ hs => ?_) | refine Gs_pI hs (fun _ hs => ?_) | refine Gs_wR hs (fun _ hs => ?_) | refine Gs_gR (fun _ => ?_) | exact sfX8_init_37 n hs _ _)
def qX8_init (l0 : Nat) (M : Ab) : Option (Unit × Ab) := (ynwO M 3 18 fun c1 M2 => (ybd (qX3_init c1 M2) fun _u4 M3 => (ypR M3 8 0 l0 c1 fun M5 => (ynwO M5 4 3 fun c6 M7 => (ybd (qX4_init c6 M7) fun _u9 M8 => (ypR M8 8 1 l0 c6 fun M10 => (ynwA M10 .int (201 : Int32) fun c11 M12 => (ypR M12 8 2 l0 c11 fun M13 => qX8_init_37  FU l0 (0 : Int32) M13))))))))
set_option maxRecDepth 100000 in
set_option maxHeartbeats 4000000 in
theorem sfX8_init {L : Nat} {I0 : Nat → Nat → Int32} {s : Ab} (hs : Iv s) (l0 : Nat) : Gs L I0 (fX8_init l0 (Rp L I0 s)) (qX8_init l0 s) := by
  unfold fX8_init qX8_init
  repeat (first | exact Gs_some hs | refine Gs_nwA hs (fun _ _ hs => ?_) | refine Gs_pR hs (fun _ hs => ?_) | refine Gs_wI hs (fun _ hs => ?_) | refine Gs_nwO hs (fun _ _ hs => ?_) | refine Gs_bd (sfX3_init hs _) (fun _ _ hs => ?_) | refine Gs_bd (sfX4_init hs _) (fun _ _ hs => ?_) | exact sfX8_init_37 _ hs _ _ | refine Gs_nwG hs (fun _ _ hs => ?_) | refine Gs_pI hs (fun _ hs => ?_) | refine Gs_wR hs (fun _ hs => ?_) | refine Gs_gR (fun _ => ?_))
def qX9_init (l0 : Nat) (M : Ab) : Option (Unit × Ab) := (ynwA M .int (2 : Int32) fun c1 M2 => (ypR M2 9 0 l0 c1 fun M3 => (ynwA M3 .int (2 : Int32) fun c4 M5 => (ypR M5 9 1 l0 c4 fun M6 => (ynwA M6 .int (2 : Int32) fun c7 M8 => (ypR M8 9 2 l0 c7 fun M9 => (ynwA M9 .int (2 : Int32) fun c10 M11 => (ypR M11 9 3 l0 c10 fun M12 => (ynwA M12 .boolean (2 : Int32) fun c13 M14 => (ypR M14 9 4 l0 c13 fun M15 => (ynwA M15 .long (80 : Int32) fun c16 M17 => (ypR M17 9 5 l0 c16 fun M18 => (ynwA M18 .long (80 : Int32) fun c19 M20 => (ypR M20 9 6 l0 c19 fun M21 => (ynwA M21 .long (80 : Int32) fun c22 M23 => (ypR M23 9 7 l0 c22 fun M24 => (ynwA M24 .long (80 : Int32) fun c25 M26 => (ypR M26 9 8 l0 c25 fun M27 => (ynwA M27 .int (400 : Int32) fun c28 M29 => (ypR M29 9 9 l0 c28 fun M30 => (ynwA M30 .long (400 : Int32) fun c31 M32 => (ypR M32 9 10 l0 c31 fun M33 => (ynwA M33 .int (400 : Int32) fun c34 M35 => (ypR M35 9 11 l0 c34 fun M36 => (ynwA M36 .int (3200 : Int32) fun c37 M38 => (ypR M38 9 12 l0 c37 fun M39 => (ynwA M39 .long (3200 : Int32) fun c40 M41 => (ypR M41 9 13 l0 c40 fun M42 => (ynwA M42 .int (400 : Int32) fun c43 M44 => (ypR M44 9 14 l0 c43 fun M45 => (ynwA M45 .long (400 : Int32) fun c46 M47 => (ypR M47 9 15 l0 c46 fun M48 => (ynwA M48 .boolean (400 : Int32) fun c49 M50 => (ypR M50 9 16 l0 c49 fun M51 => (ynwA M51 .int (400 : Int32) fun c52 M53 => (ypR M53 9 17 l0 c52 fun M54 => (ynwA M54 .int (17000 : Int32) fun c55 M56 => (ypR M56 9 18 l0 c55 fun M57 => (ynwA M57 .int (17000 : Int32) fun c58 M59 => (ypR M59 9 19 l0 c58 fun M60 => (ynwA M60 .int (200 : Int32) fun c61 M62 => (ypR M62 9 21 l0 c61 fun M63 => (ynwA M63 .int (200 : Int32) fun c64 M65 => (ypR M65 9 22 l0 c64 fun M66 => (ynwA M66 .int (210 : Int32) fun c67 M68 => (ypR M68 9 23 l0 c67 fun M69 => (ynwA M69 .int (210 : Int32) fun c70 M71 => (ypR M71 9 24 l0 c70 fun M72 => (ynwA M72 .int (8 : Int32) fun c73 M74 => (ypR M74 9 32 l0 c73 fun M75 => (ynwA M75 .long (8 : Int32) fun c76 M77 => (ypR M77 9 33 l0 c76 fun M78 => (ynwA M78 .int (100 : Int32) fun c79 M80 => (ypR M80 9 34 l0 c79 fun M81 => (ynwA M81 .long (40 : Int32) fun c82 M83 => (ypR M83 9 36 l0 c82 fun M84 => (ynwA M84 .int (8 : Int32) fun c85 M86 => (ypR M86 9 38 l0 c85 fun M87 => (ynwA M87 .long (8 : Int32) fun c88 M89 => (ypR M89 9 39 l0 c88 fun M90 => (ynwA M90 .int (64 : Int32) fun c91 M92 => (ywI M92 .int c91 (0 : Int32) (1116352408 : Int32) fun M93 => (ywI M93 .int c91 (1 : Int32) (1899447441 : Int32) fun M94 => (ywI M94 .int c91 (2 : Int32) (-1245643825 : Int32) fun M95 => (ywI M95 .int c91 (3 : Int32) (-373957723 : Int32) fun M96 => (ywI M96 .int c91 (4 : Int32) (961987163 : Int32) fun M97 => (ywI M97 .int c91 (5 : Int32) (1508970993 : Int32) fun M98 => (ywI M98 .int c91 (6 : Int32) (-1841331548 : Int32) fun M99 => (ywI M99 .int c91 (7 : Int32) (-1424204075 : Int32) fun M100 => (ywI M100 .int c91 (8 : Int32) (-670586216 : Int32) fun M101 => (ywI M101 .int c91 (9 : Int32) (310598401 : Int32) fun M102 => (ywI M102 .int c91 (10 : Int32) (607225278 : Int32) fun M103 => (ywI M103 .int c91 (11 : Int32) (1426881987 : Int32) fun M104 => (ywI M104 .int c91 (12 : Int32) (1925078388 : Int32) fun M105 => (ywI M105 .int c91 (13 : Int32) (-2132889090 : Int32) fun M106 => (ywI M106 .int c91 (14 : Int32) (-1680079193 : Int32) fun M107 => (ywI M107 .int c91 (15 : Int32) (-1046744716 : Int32) fun M108 => (ywI M108 .int c91 (16 : Int32) (-459576895 : Int32) fun M109 => (ywI M109 .int c91 (17 : Int32) (-272742522 : Int32) fun M110 => (ywI M110 .int c91 (18 : Int32) (264347078 : Int32) fun M111 => (ywI M111 .int c91 (19 : Int32) (604807628 : Int32) fun M112 => (ywI M112 .int c91 (20 : Int32) (770255983 : Int32) fun M113 => (ywI M113 .int c91 (21 : Int32) (1249150122 : Int32) fun M114 => (ywI M114 .int c91 (22 : Int32) (1555081692 : Int32) fun M115 => (ywI M115 .int c91 (23 : Int32) (1996064986 : Int32) fun M116 => (ywI M116 .int c91 (24 : Int32) (-1740746414 : Int32) fun M117 => (ywI M117 .int c91 (25 : Int32) (-1473132947 : Int32) fun M118 => (ywI M118 .int c91 (26 : Int32) (-1341970488 : Int32) fun M119 => (ywI M119 .int c91 (27 : Int32) (-1084653625 : Int32) fun M120 => (ywI M120 .int c91 (28 : Int32) (-958395405 : Int32) fun M121 => (ywI M121 .int c91 (29 : Int32) (-710438585 : Int32) fun M122 => (ywI M122 .int c91 (30 : Int32) (113926993 : Int32) fun M123 => (ywI M123 .int c91 (31 : Int32) (338241895 : Int32) fun M124 => (ywI M124 .int c91 (32 : Int32) (666307205 : Int32) fun M125 => (ywI M125 .int c91 (33 : Int32) (773529912 : Int32) fun M126 => (ywI M126 .int c91 (34 : Int32) (1294757372 : Int32) fun M127 => (ywI M127 .int c91 (35 : Int32) (1396182291 : Int32) fun M128 => (ywI M128 .int c91 (36 : Int32) (1695183700 : Int32) fun M129 => (ywI M129 .int c91 (37 : Int32) (1986661051 : Int32) fun M130 => (ywI M130 .int c91 (38 : Int32) (-2117940946 : Int32) fun M131 => (ywI M131 .int c91 (39 : Int32) (-1838011259 : Int32) fun M132 => (ywI M132 .int c91 (40 : Int32) (-1564481375 : Int32) fun M133 => (ywI M133 .int c91 (41 : Int32) (-1474664885 : Int32) fun M134 => (ywI M134 .int c91 (42 : Int32) (-1035236496 : Int32) fun M135 => (ywI M135 .int c91 (43 : Int32) (-949202525 : Int32) fun M136 => (ywI M136 .int c91 (44 : Int32) (-778901479 : Int32) fun M137 => (ywI M137 .int c91 (45 : Int32) (-694614492 : Int32) fun M138 => (ywI M138 .int c91 (46 : Int32) (-200395387 : Int32) fun M139 => (ywI M139 .int c91 (47 : Int32) (275423344 : Int32) fun M140 => (ywI M140 .int c91 (48 : Int32) (430227734 : Int32) fun M141 => (ywI M141 .int c91 (49 : Int32) (506948616 : Int32) fun M142 => (ywI M142 .int c91 (50 : Int32) (659060556 : Int32) fun M143 => (ywI M143 .int c91 (51 : Int32) (883997877 : Int32) fun M144 => (ywI M144 .int c91 (52 : Int32) (958139571 : Int32) fun M145 => (ywI M145 .int c91 (53 : Int32) (1322822218 : Int32) fun M146 => (ywI M146 .int c91 (54 : Int32) (1537002063 : Int32) fun M147 => (ywI M147 .int c91 (55 : Int32) (1747873779 : Int32) fun M148 => (ywI M148 .int c91 (56 : Int32) (1955562222 : Int32) fun M149 => (ywI M149 .int c91 (57 : Int32) (2024104815 : Int32) fun M150 => (ywI M150 .int c91 (58 : Int32) (-2067236844 : Int32) fun M151 => (ywI M151 .int c91 (59 : Int32) (-1933114872 : Int32) fun M152 => (ywI M152 .int c91 (60 : Int32) (-1866530822 : Int32) fun M153 => (ywI M153 .int c91 (61 : Int32) (-1538233109 : Int32) fun M154 => (ywI M154 .int c91 (62 : Int32) (-1090935817 : Int32) fun M155 => (ywI M155 .int c91 (63 : Int32) (-965641998 : Int32) fun M156 => (ypR M156 9 40 l0 c91 fun M157 => (ynwA M157 .int (256 : Int32) fun c158 M159 => (ypR M159 9 41 l0 c158 fun M160 => (ynwA M160 .int (64 : Int32) fun c161 M162 => (ypR M162 9 43 l0 c161 fun M163 => (ynwA M163 .int (8 : Int32) fun c164 M165 => (ypR M165 9 44 l0 c164 fun M166 => (ynwA M166 .int (32 : Int32) fun c167 M168 => (ypR M168 9 45 l0 c167 fun M169 => (ynwA M169 .int (512 : Int32) fun c170 M171 => (ypR M171 9 46 l0 c170 fun M172 => (ynwA M172 .int (16 : Int32) fun c173 M174 => (ypR M174 9 47 l0 c173 fun M175 => (ynwA M175 .int (8 : Int32) fun c176 M177 => (ypR M177 9 48 l0 c176 fun M178 => (ynwA M178 .boolean (8 : Int32) fun c179 M180 => (ypR M180 9 49 l0 c179 fun M181 => (ynwA M181 .int (256 : Int32) fun c182 M183 => (ypR M183 9 50 l0 c182 fun M184 => (ynwA M184 .int (256 : Int32) fun c185 M186 => (ypR M186 9 51 l0 c185 fun M187 => (ynwA M187 .int (1024 : Int32) fun c188 M189 => (ypR M189 9 56 l0 c188 fun M190 => (ynwA M190 .boolean (16 : Int32) fun c191 M192 => (ypR M192 9 57 l0 c191 fun M193 => (ynwA M193 .int (16 : Int32) fun c194 M195 => (ypR M195 9 58 l0 c194 fun M196 => (ynwA M196 .int (16 : Int32) fun c197 M198 => (ypR M198 9 59 l0 c197 fun M199 => (ynwA M199 .int (32 : Int32) fun c200 M201 => (ypR M201 9 64 l0 c200 fun M202 => (ynwA M202 .int (32 : Int32) fun c203 M204 => (ypR M204 9 65 l0 c203 fun M205 => some ((), M205)))))))))))))))))))))))))))))))))))))))))))))))))))))))))))))))))))))))))))))))))))))))))))))))))))))))))))))))))))))))))))))))))))))))))))))))))))))))))))))))
set_option maxRecDepth 100000 in
set_option maxHeartbeats 4000000 in
theorem sfX9_init {L : Nat} {I0 : Nat → Nat → Int32} {s : Ab} (hs : Iv s) (l0 : Nat) : Gs L I0 (fX9_init l0 (Rp L I0 s)) (qX9_init l0 s) := by
  unfold fX9_init qX9_init
  repeat (first | exact Gs_some hs | refine Gs_nwA hs (fun _ _ hs => ?_) | refine Gs_pR hs (fun _ hs => ?_) | refine Gs_wI hs (fun _ hs => ?_) | refine Gs_nwO hs (fun _ _ hs => ?_) | refine Gs_nwG hs (fun _ _ hs => ?_) | refine Gs_pI hs (fun _ hs => ?_) | refine Gs_wR hs (fun _ hs => ?_) | refine Gs_gR (fun _ => ?_))
