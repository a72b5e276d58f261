-- P4, class: digests of lists over the Sha at s: join, leaf, a chain's step
/-- only the Sha's cells and d have changed -/
def CF (s d : Nat) (I I' : Nat → Nat → Int32) : Prop := ∀ c, c ≠ s → c ≠ s + 1 → c ≠ s + 2 → c ≠ s + 3 → c ≠ d → I' c = I c
/-- the static rows -/
def Sta (I : Nat → Nat → Int32) : Prop := (∀ j, j < 64 → I 1 j = K0h j) ∧ ∀ j, j < 8 → I 0 j = F0h j
theorem D_lt {l : List Int32} {j : Nat} (h : j < 8) : D l j = dig K0h F0h (fun j => l.getD j 0) l.length j := if_pos h
theorem byC_mask (h : Nat → Int32) (j : Nat) : byC h j &&& 255 = hb h j := by rw [byC_hb, hb_mask]
section ShaC5
variable {N SL : Nat} {S : Nat → Shp} {R : Nat → Nat → Option Nat} {s : Nat}
theorem begin_any (hA : ShaAt N S R s) (I : Nat → Nat → Int32) (J : Nat → Nat → Int64) : fX6_begin s (N, SL, S, R, I, J) = some ((), (N, SL, S, R, txI I s (I (s + 1)) 0, J)) := by
  unfold fX6_begin
  rw [pI_mk hA.1]
  refine congrArg (fun z => some ((), (N, SL, S, R, z, J))) ?_
  unfold txI
  rw [u1_self, u2_row]
  rfl
/-- end(to) over a text that is a list -/
theorem end_D (hA : ShaAt N S R s) {to : Nat} (ht : to < N) (htn : nS ≤ to) (hts : S to = .inl (.int, 8)) (hto : to ≠ s + 1 ∧ to ≠ s + 2 ∧ to ≠ s + 3) (hto0 : to ≠ s) (I : Nat → Nat → Int32) (J : Nat → Nat → Int64) (hS : Sta I) (l : List Int32) (hl : l.length < 120) (r : Nat → Int32) (hr : ∀ i, i < l.length → r i &&& 255 = l.getD i 0) :
    ∃ I' : Nat → Nat → Int32, fX6_end s to (N, SL, S, R, txI I s r l.length, J) = some ((), (N, SL, S, R, I', J)) ∧ CF s to I I' ∧ ∀ j, j < 8 → I' to j = D l j := by
  have hns : nS ≤ s := hA.1.2.1
  have hnS : nS = 3 := rfl
  obtain ⟨T, W, X, g⟩ := end_spec (SL := SL) hA ht htn hts hto l.length hl (txI I s r l.length) J (by rw [tx_s, if_pos rfl])
  refine ⟨_, g, fun c a b d e f => ?_, fun j hj => ?_⟩
  · rw [u1_ne f, u1_ne e, u1_ne d, u1_ne b, tx_ne a b]
  · rw [u1_eq, if_pos hj, tx_txt, tx_ne (by omega) (by omega), tx_ne (by omega) (by omega), D_lt hj]
    exact dig_ext hS.1 hS.2 hr j hj
/-- join(left, right, to) -/
theorem join_D (hA : ShaAt N S R s) {a b to : Nat} (ha : a < N) (hsa : S a = .inl (.int, 8)) (has : a ≠ s ∧ a ≠ s + 1) (hb_ : b < N) (hsb : S b = .inl (.int, 8)) (hbs_ : b ≠ s ∧ b ≠ s + 1) (ht : to < N) (htn : nS ≤ to) (hts : S to = .inl (.int, 8)) (hto : to ≠ s + 1 ∧ to ≠ s + 2 ∧ to ≠ s + 3) (hto0 : to ≠ s) (I : Nat → Nat → Int32) (J : Nat → Nat → Int64) (hS : Sta I) :
    ∃ I' : Nat → Nat → Int32, fX6_join s a b to (N, SL, S, R, I, J) = some ((), (N, SL, S, R, I', J)) ∧ CF s to I I' ∧ ∀ j, j < 8 → I' to j = ndH (I a) (I b) j := by
  have ho := hA.1
  have hlen : (1 :: (hbs (I a) ++ hbs (I b))).length = 65 := by simp [hbs_len]
  obtain ⟨I', g1, g2, g3⟩ := end_D (SL := SL) hA ht htn hts hto hto0 I J hS (1 :: (hbs (I a) ++ hbs (I b))) (by rw [hlen]; decide) (fun j => if 33 ≤ j ∧ j < 33 + 32 then nb (byC (I b) (j - 33)) else if 1 ≤ j ∧ j < 1 + 32 then nb (byC (I a) (j - 1)) else if j = 0 then nb 1 else I (s + 1) j) (fun j hj => by
    rw [hlen] at hj
    match j with
    | 0 => rw [if_neg (by omega), if_neg (by omega), if_pos rfl]; show nb 1 &&& 255 = 1; decide
    | j + 1 =>
      rw [List.getD_cons_succ]
      by_cases q : j < 32
      · rw [if_neg (by omega), if_pos ⟨by omega, by omega⟩, getD_app_l (by rw [hbs_len]; exact q), hbs_get _ q, nb_mask, byC_mask, show j + 1 - 1 = j by omega]
      · rw [if_pos ⟨by omega, by omega⟩, getD_app_r (by rw [hbs_len]; omega), hbs_len, hbs_get _ (by omega), nb_mask, byC_mask, show j + 1 - 33 = j - 32 by omega])
  refine ⟨I', ?_, g2, g3⟩
  unfold fX6_join
  rw [cV_mk ho, begin_any hA I J, bd_some, cV_mk ho, add_tx hA I J _ 0 (by decide), bd_some, cV_mk ho, addHash_tx hA ha hsa has.1 has.2 I J _ (0 + 1) (by decide), bd_some, cV_mk ho, addHash_tx hA hb_ hsb hbs_.1 hbs_.2 I J _ (0 + 1 + 32) (by decide), bd_some, cV_mk ho]
  rw [hlen] at g1
  rw [show 0 + 1 + 32 + 32 = 65 from rfl, show 0 + 1 + 32 = 33 from rfl, show 0 + 1 = 1 from rfl, g1, bd_some]
/-- the bytes of a row of signed bytes -/
def byC8 (row : Nat → Int32) (b e : Nat) : List Int32 := (List.range (e - b)).map (fun k => row (b + k) &&& 255)
theorem byC8_len {row : Nat → Int32} {b e : Nat} : (byC8 row b e).length = e - b := by unfold byC8; simp
theorem byC8_get {row : Nat → Int32} {b e k : Nat} (h : k < e - b) : (byC8 row b e).getD k 0 = row (b + k) &&& 255 := by
  unfold byC8
  rw [List.getD_eq_getElem?_getD, List.getElem?_map, List.getElem?_range h]
  rfl
/-- begin(), add(0), addBytes(from, b, e), end(to): the LEAF -/
theorem leafC_D (hA : ShaAt N S R s) {a to n b e : Nat} (ha : a < N) (hsa : S a = .inl (.byte, n)) (hn : n < 2 ^ 31) (has : a ≠ s ∧ a ≠ s + 1) (hbe : b ≤ e) (hen : e ≤ n) (hz : e - b < 119) (ht : to < N) (htn : nS ≤ to) (hts : S to = .inl (.int, 8)) (hto : to ≠ s + 1 ∧ to ≠ s + 2 ∧ to ≠ s + 3) (hto0 : to ≠ s) (I : Nat → Nat → Int32) (J : Nat → Nat → Int64) (hS : Sta I) :
    ∃ I1 I2 : Nat → Nat → Int32, fX6_begin s (N, SL, S, R, I, J) = some ((), (N, SL, S, R, txI I s (I (s + 1)) 0, J)) ∧ fX6_add s (0 : Int32) (N, SL, S, R, txI I s (I (s + 1)) 0, J) = some ((), (N, SL, S, R, txI I s (fun j => if j = 0 then nb 0 else I (s + 1) j) 1, J)) ∧
      fX6_addBytes s a (nI b) (nI e) (N, SL, S, R, txI I s (fun j => if j = 0 then nb 0 else I (s + 1) j) 1, J) = some ((), (N, SL, S, R, I1, J)) ∧ (∀ c, c ≠ s → c ≠ s + 1 → I1 c = I c) ∧ fX6_end s to (N, SL, S, R, I1, J) = some ((), (N, SL, S, R, I2, J)) ∧ CF s to I I2 ∧ ∀ j, j < 8 → I2 to j = D (0 :: byC8 (I a) b e) j := by
  have hlen : (0 :: byC8 (I a) b e).length = 1 + (e - b) := by rw [List.length_cons, byC8_len, Nat.add_comm]
  obtain ⟨I2, g1, g2, g3⟩ := end_D (SL := SL) hA ht htn hts hto hto0 I J hS (0 :: byC8 (I a) b e) (by rw [hlen]; omega) (fun j => if 1 ≤ j ∧ j < 1 + (e - b) then nb (I a (b + (j - 1))) else if j = 0 then nb 0 else I (s + 1) j) (fun j hj => by
    rw [hlen] at hj
    match j with
    | 0 => rw [if_neg (by omega), if_pos rfl]; show nb 0 &&& 255 = 0; decide
    | j + 1 => rw [List.getD_cons_succ, if_pos ⟨by omega, by omega⟩, byC8_get (by omega), nb_mask, show j + 1 - 1 = j by omega])
  rw [hlen] at g1
  exact ⟨_, I2, begin_any hA I J, add_tx hA I J _ 0 (by decide) 0, addBytes_tx hA ha hsa hn has.1 has.2 I J b e hbe hen _ 1 (by omega), fun c h1 h2 => tx_ne h1 h2, g1, g2, g3⟩
/-- begin(), addHash(h), addBytes(from, b, e), end(to): a step of THE CHAIN -/
theorem chainC_D (hA : ShaAt N S R s) {a h to n b e : Nat} (hh : h < N) (hsh : S h = .inl (.int, 8)) (hhs : h ≠ s ∧ h ≠ s + 1) (ha : a < N) (hsa : S a = .inl (.byte, n)) (hn : n < 2 ^ 31) (has : a ≠ s ∧ a ≠ s + 1) (hbe : b ≤ e) (hen : e ≤ n) (hz : e - b < 87) (ht : to < N) (htn : nS ≤ to) (hts : S to = .inl (.int, 8)) (hto : to ≠ s + 1 ∧ to ≠ s + 2 ∧ to ≠ s + 3) (hto0 : to ≠ s) (I : Nat → Nat → Int32) (J : Nat → Nat → Int64) (hS : Sta I) :
    ∃ I0 I1 I2 : Nat → Nat → Int32, fX6_begin s (N, SL, S, R, I, J) = some ((), (N, SL, S, R, txI I s (I (s + 1)) 0, J)) ∧ fX6_addHash s h (N, SL, S, R, txI I s (I (s + 1)) 0, J) = some ((), (N, SL, S, R, I0, J)) ∧ (∀ c, c ≠ s → c ≠ s + 1 → I0 c = I c) ∧
      fX6_addBytes s a (nI b) (nI e) (N, SL, S, R, I0, J) = some ((), (N, SL, S, R, I1, J)) ∧ (∀ c, c ≠ s → c ≠ s + 1 → I1 c = I c) ∧ fX6_end s to (N, SL, S, R, I1, J) = some ((), (N, SL, S, R, I2, J)) ∧ CF s to I I2 ∧ ∀ j, j < 8 → I2 to j = D (hbs (I h) ++ byC8 (I a) b e) j := by
  have hlen : (hbs (I h) ++ byC8 (I a) b e).length = 32 + (e - b) := by rw [List.length_append, hbs_len, byC8_len]
  obtain ⟨I2, g1, g2, g3⟩ := end_D (SL := SL) hA ht htn hts hto hto0 I J hS (hbs (I h) ++ byC8 (I a) b e) (by rw [hlen]; omega) (fun j => if 32 ≤ j ∧ j < 32 + (e - b) then nb (I a (b + (j - 32))) else if 0 ≤ j ∧ j < 0 + 32 then nb (byC (I h) (j - 0)) else I (s + 1) j) (fun j hj => by
    rw [hlen] at hj
    by_cases q : j < 32
    · rw [if_neg (by omega), if_pos ⟨by omega, by omega⟩, getD_app_l (by rw [hbs_len]; exact q), hbs_get _ q, nb_mask, byC_mask, Nat.sub_zero]
    · rw [if_pos ⟨by omega, by omega⟩, getD_app_r (by rw [hbs_len]; omega), hbs_len, byC8_get (by omega), nb_mask])
  rw [hlen] at g1
  have e1 := addHash_tx (SL := SL) hA hh hsh hhs.1 hhs.2 I J (I (s + 1)) 0 (by decide)
  rw [show 0 + 32 = 32 from rfl] at e1
  exact ⟨_, _, I2, begin_any hA I J, e1, fun c h1 h2 => tx_ne h1 h2, addBytes_tx hA ha hsa hn has.1 has.2 I J b e hbe hen _ 32 (by omega), fun c h1 h2 => tx_ne h1 h2, g1, g2, g3⟩
end ShaC5
