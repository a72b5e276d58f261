-- P4, reference: leaf, joins, chain's step, as digests of lists
/-- only the digest's own cells have changed -/
def MF (m : Nat) (I I' : Nat → Nat → Int32) : Prop := (∀ c, c ≠ m → c ≠ m + 32 → c ≠ m + 33 → c ≠ m + 34 → c ≠ m + 35 → I' c = I c) ∧ ∀ j, j ≠ 42 → I' m j = I m j
theorem MF.refl {m : Nat} {I : Nat → Nat → Int32} : MF m I I := ⟨fun _ _ _ _ _ _ => rfl, fun _ _ => rfl⟩
theorem MF.trans {m : Nat} {I I' I'' : Nat → Nat → Int32} (h : MF m I I') (h' : MF m I' I'') : MF m I I'' := ⟨fun c a b d e f => (h'.1 c a b d e f).trans (h.1 c a b d e f), fun j hj => (h'.2 j hj).trans (h.2 j hj)⟩
theorem MF.sm {m : Nat} {I : Nat → Nat → Int32} {r : Nat → Int32} {k : Nat} : MF m I (smI I m r k) := ⟨fun c a b _ _ _ => sm_ne a b, fun j hj => by rw [sm_m, if_neg hj]⟩
section ShaM4
variable {N SL : Nat} {S : Nat → Shp} {R : Nat → Nat → Option Nat} {m : Nat}
/-- sum() over a message that is a list -/
theorem sum_D (hA : MdAt N S R m) (I : Nat → Nat → Int32) (J : Nat → Nat → Int64) (hK : ∀ j, j < 64 → I (m + 31) j = K0h j) (l : List Int32) (hl : l.length < 120) (r : Nat → Int32) (hr : ∀ i, i < l.length → r i = l.getD i 0) :
    ∃ I' : Nat → Nat → Int32, fX9_sum m (N, SL, S, R, smI I m r l.length, J) = some ((), (N, SL, S, R, I', J)) ∧ MF m I I' ∧ I' m 42 = nI 0 ∧ ∀ j, j < 32 → I' (m + 35) j = hb (D l) j := by
  obtain ⟨I', g1, g2, g3, g4, g5⟩ := sum_spec (SL := SL) hA l.length hl (smI I m r l.length) J (by rw [sm_m, if_pos rfl])
  refine ⟨I', g1, MF.sm.trans ⟨g2, g3⟩, g4, fun j hj => ?_⟩
  rw [g5 j hj, sm_msg, sm_ne (by omega) (by omega)]
  refine hb_ext (fun i hi => ?_) hj
  show _ = (if i < 8 then _ else _)
  rw [if_pos hi]
  exact dig_ext hK (fun _ _ => rfl) hr i hi
theorem sayE_loop (hA : MdAt N S R m) (I : Nat → Nat → Int32) (J : Nat → Nat → Int64) (i b z : Nat) (hi : i < 200) (hb : I (m + 21) i = nI b) (hz : I (m + 22) i = nI z) (hbz : b + z ≤ 17000) : ∀ (q k2 : Nat) (r : Nat → Int32) (k fuel : Nat), k2 + q = z → q < fuel → k + q ≤ 256 →
    fX9_saysEntry_2 fuel m (nI i) (nI k2) (N, SL, S, R, smI I m r k, J) = some ((), (N, SL, S, R, smI I m (fun j => if k ≤ j ∧ j < k + q then I (m + 19) (b + (k2 + (j - k))) else r j) (k + q), J)) := by
  obtain ⟨rd, sd, ld, nd⟩ := md_data hA
  obtain ⟨rb, sb, lb, nbg⟩ := md_begin hA
  obtain ⟨rz, sz, lz, nz⟩ := md_size hA
  have ho := hA.1
  intro q
  induction q with
  | zero =>
    intro k2 r k fuel hk2 hf hk
    obtain ⟨y, rfl⟩ : ∃ y, fuel = y + 1 := ⟨fuel - 1, by omega⟩
    have hk2 : k2 = z := by omega
    subst hk2
    rw [fX9_saysEntry_2, gR_mk ho rz, rI_mk lz sz hi (by decide), sm_ne (by omega) (by omega), hz, if_pos ((nI_leI (by omega) (by omega)).mpr (Nat.le_refl _))]
    have e1 : (fun j => if k ≤ j ∧ j < k + 0 then I (m + 19) (b + (k2 + (j - k))) else r j) = r := funext fun j => if_neg (by omega)
    rw [e1]
    rfl
  | succ q ih =>
    intro k2 r k fuel hk2 hf hk
    obtain ⟨y, rfl⟩ : ∃ y, fuel = y + 1 := ⟨fuel - 1, by omega⟩
    rw [fX9_saysEntry_2, gR_mk ho rz, rI_mk lz sz hi (by decide), sm_ne (by omega) (by omega), hz, if_neg (nI_lt_of (k := z) (by omega) (by omega))]
    rw [gR_mk ho rd, gR_mk ho rb, rI_mk lb sb hi (by decide), sm_ne (by omega) (by omega), hb, nI_add, rI_mk ld sd (by omega) (by decide), sm_ne (by omega) (by omega), cV_mk ho, says_sm hA I J r k (by omega), bd_some, nI_1]
    rw [ih (k2 + 1) _ (k + 1) y (by omega) (by omega) (by omega), show k + 1 + q = k + (q + 1) by omega]
    refine congrArg (fun w => some ((), (N, SL, S, R, smI I m w (k + (q + 1)), J))) (funext fun j => ?_)
    by_cases q1 : k + 1 ≤ j ∧ j < k + (q + 1)
    · rw [if_pos q1, if_pos ⟨by omega, by omega⟩, show k2 + 1 + (j - (k + 1)) = k2 + (j - k) by omega]
    · rw [if_neg q1]
      by_cases q2 : j = k
      · rw [if_pos q2, if_pos ⟨by omega, by omega⟩, show b + (k2 + (j - k)) = b + k2 by omega]
      · rw [if_neg q2, if_neg (fun h => q1 ⟨by omega, h.2⟩)]
/-- entry i's bytes as they are in the reference -/
def bysM (I : Nat → Nat → Int32) (m b z : Nat) : List Int32 := (List.range z).map (fun k => I (m + 19) (b + k))
theorem bysM_len {I : Nat → Nat → Int32} {m b z : Nat} : (bysM I m b z).length = z := by unfold bysM; simp
theorem bysM_get {I : Nat → Nat → Int32} {m b z k : Nat} (h : k < z) : (bysM I m b z).getD k 0 = I (m + 19) (b + k) := by
  unfold bysM
  rw [List.getD_eq_getElem?_getD, List.getElem?_map, List.getElem?_range h]
  rfl
/-- leaf(i): the hash of a byte 0 and the entry's bytes -/
theorem leaf_D (hA : MdAt N S R m) (I : Nat → Nat → Int32) (J : Nat → Nat → Int64) (hK : ∀ j, j < 64 → I (m + 31) j = K0h j) (h42 : I m 42 = nI 0) (i b z : Nat) (hi : i < 200) (hbe : I (m + 21) i = nI b) (hz : I (m + 22) i = nI z) (hbz : b + z ≤ 17000) (hz2 : z < 119) :
    ∃ I' : Nat → Nat → Int32, fX9_leaf m (nI i) (N, SL, S, R, I, J) = some ((), (N, SL, S, R, I', J)) ∧ MF m I I' ∧ I' m 42 = nI 0 ∧ ∀ j, j < 32 → I' (m + 35) j = hb (D (0 :: bysM I m b z)) j := by
  have ho := hA.1
  obtain ⟨I', g1, g2⟩ := sum_D (SL := SL) hA I J hK (0 :: bysM I m b z) (by simp [bysM_len]; omega) (fun j => if 0 + 1 ≤ j ∧ j < 0 + 1 + z then I (m + 19) (b + (0 + (j - (0 + 1)))) else if j = 0 then (0 : Int32) else I (m + 32) j) (fun j hj => by
    rw [List.length_cons, bysM_len] at hj
    match j with
    | 0 => rfl
    | j + 1 =>
      rw [if_pos ⟨by omega, by omega⟩, List.getD_cons_succ, bysM_get (by omega)]
      congr 1
      omega)
  refine ⟨I', ?_, g2⟩
  unfold fX9_leaf
  have e0 : (N, SL, S, R, I, J) = ((N, SL, S, R, smI I m (I (m + 32)) 0, J) : Mem) := by rw [sm_self h42]
  rw [e0, cV_mk ho, says_sm hA I J _ 0 (by decide), bd_some, cV_mk ho]
  unfold fX9_saysEntry
  rw [show (0 : Int32) = nI 0 from rfl, sayE_loop hA I J i b z hi hbe hz hbz z 0 _ (0 + 1) FU (by omega) (by unfold FU; omega) (by omega), bd_some, cV_mk ho]
  rw [List.length_cons, bysM_len, Nat.add_comm z 1] at g1
  rw [show 0 + 1 + z = 1 + z by omega]
  have g1' := g1
  rw [show (0 : Int32) = nI 0 from rfl] at g1'
  rw [show 0 + 1 + z = 1 + z by omega] at g1'
  rw [g1', bd_some]
end ShaM4
