-- P1: the digest, in numbers: words, rounds, blocks
abbrev V8 : Type := Int32 × Int32 × Int32 × Int32 × Int32 × Int32 × Int32 × Int32
def sgA (x : Int32) : Int32 := (((xushr x 7) ||| (xshl x 25)) ^^^ ((xushr x 18) ||| (xshl x 14))) ^^^ (xushr x 3)
def sgB (x : Int32) : Int32 := (((xushr x 17) ||| (xshl x 15)) ^^^ ((xushr x 19) ||| (xshl x 13))) ^^^ (xushr x 10)
def suE (e : Int32) : Int32 := (((xushr e 6) ||| (xshl e 26)) ^^^ ((xushr e 11) ||| (xshl e 21))) ^^^ ((xushr e 25) ||| (xshl e 7))
def suA (a : Int32) : Int32 := (((xushr a 2) ||| (xshl a 30)) ^^^ ((xushr a 13) ||| (xshl a 19))) ^^^ ((xushr a 22) ||| (xshl a 10))
def t1 (kt wt : Int32) (v : V8) : Int32 := (((v.2.2.2.2.2.2.2 + suE v.2.2.2.2.1) + ((v.2.2.2.2.1 &&& v.2.2.2.2.2.1) ^^^ ((v.2.2.2.2.1 ^^^ (-1 : Int32)) &&& v.2.2.2.2.2.2.1))) + kt) + wt
def t2 (v : V8) : Int32 := suA v.1 + (((v.1 &&& v.2.1) ^^^ (v.1 &&& v.2.2.1)) ^^^ (v.2.1 &&& v.2.2.1))
/-- one round -/
def rd1 (kt wt : Int32) (v : V8) : V8 := (t1 kt wt v + t2 v, v.1, v.2.1, v.2.2.1, v.2.2.2.1 + t1 kt wt v, v.2.2.2.2.1, v.2.2.2.2.2.1, v.2.2.2.2.2.2.1)
/-- the rounds t, t + 1, .. (m of them) -/
def rds (K W : Nat → Int32) : Nat → Nat → V8 → V8
  | _, 0, v => v
  | t, m + 1, v => rds K W (t + 1) m (rd1 (K t) (W t) v)
def v8 (h : Nat → Int32) : V8 := (h 0, h 1, h 2, h 3, h 4, h 5, h 6, h 7)
def at8 (v : V8) (i : Nat) : Int32 := match i with
  | 0 => v.1
  | 1 => v.2.1
  | 2 => v.2.2.1
  | 3 => v.2.2.2.1
  | 4 => v.2.2.2.2.1
  | 5 => v.2.2.2.2.2.1
  | 6 => v.2.2.2.2.2.2.1
  | _ => v.2.2.2.2.2.2.2
/-- the schedule: k words more behind the first 16 -/
def sch (w : Nat → Int32) : Nat → Nat → Int32
  | 0 => w
  | k + 1 => fun j => if j = 16 + k then ((sch w k k + sch w k (k + 9)) + sgA (sch w k (k + 1))) + sgB (sch w k (k + 14)) else sch w k j
/-- a block of 16 words over a state -/
def comp (K w h : Nat → Int32) : Nat → Int32 := fun i => if i < 8 then h i + at8 (rds K (sch w 48) 0 64 (v8 h)) i else h i
theorem sch_ext {w w' : Nat → Int32} (h : ∀ j, j < 16 → w j = w' j) : ∀ k j, j < 16 + k → sch w k j = sch w' k j
  | 0, j, hj => h j hj
  | k + 1, j, hj => by
    show (if j = 16 + k then _ else sch w k j) = (if j = 16 + k then _ else sch w' k j)
    by_cases q : j = 16 + k
    · rw [if_pos q, if_pos q, sch_ext h k k (by omega), sch_ext h k (k + 9) (by omega), sch_ext h k (k + 1) (by omega), sch_ext h k (k + 14) (by omega)]
    · rw [if_neg q, if_neg q, sch_ext h k j (by omega)]
theorem rds_ext {K K' W W' : Nat → Int32} : ∀ m t v, (∀ j, t ≤ j → j < t + m → K j = K' j ∧ W j = W' j) → rds K W t m v = rds K' W' t m v
  | 0, _, _, _ => rfl
  | m + 1, t, v, h => by
    show rds K W (t + 1) m (rd1 (K t) (W t) v) = rds K' W' (t + 1) m (rd1 (K' t) (W' t) v)
    rw [(h t (Nat.le_refl _) (by omega)).1, (h t (Nat.le_refl _) (by omega)).2]
    exact rds_ext m (t + 1) _ (fun j h1 h2 => h j (by omega) (by omega))
theorem comp_ext {K K' w w' h h' : Nat → Int32} (hK : ∀ j, j < 64 → K j = K' j) (hw : ∀ j, j < 16 → w j = w' j) (hh : ∀ j, j < 8 → h j = h' j) : ∀ i, i < 8 → comp K w h i = comp K' w' h' i := by
  intro i hi
  have hv : v8 h = v8 h' := by
    unfold v8
    rw [hh 0 (by omega), hh 1 (by omega), hh 2 (by omega), hh 3 (by omega), hh 4 (by omega), hh 5 (by omega), hh 6 (by omega), hh 7 (by omega)]
  unfold comp
  rw [if_pos hi, if_pos hi, hh i hi, hv, rds_ext 64 0 (v8 h') (fun j _ h2 => ⟨hK j (by omega), sch_ext hw 48 j (by omega)⟩)]
