-- P4, class: Pages at p: now p + 1, start p + 2, sha p + 3, chain p + 7 (rows p + 8 + i), nodes p + 209 (rows p + 210 + i), known p + 666
def PgAt (N : Nat) (S : Nat → Shp) (R : Nat → Nat → Option Nat) (p : Nat) : Prop := (Ob N S p 5 ∧ p + 666 < N ∧ ShaAt N S R (p + 3)) ∧ (R p 0 = some (p + 1) ∧ R p 1 = some (p + 2) ∧ R p 3 = some (p + 3) ∧ R p 4 = some (p + 7) ∧ R p 6 = some (p + 209) ∧ R p 7 = some (p + 666)) ∧ (S (p + 1) = .inl (.byte, 16400) ∧ S (p + 2) = .inl (.int, 201) ∧ S (p + 7) = .inl (.array .int, 201) ∧ S (p + 209) = .inl (.array .int, 456) ∧ S (p + 666) = .inl (.boolean, 456)) ∧ (∀ i, i < 201 → R (p + 7) i = some (p + 8 + i) ∧ S (p + 8 + i) = .inl (.int, 8)) ∧ ∀ i, i < 456 → R (p + 209) i = some (p + 210 + i) ∧ S (p + 210 + i) = .inl (.int, 8)
theorem hbs_ext {h h' : Nat → Int32} (e : ∀ i, i < 8 → h i = h' i) : hbs h = hbs h' := by
  unfold hbs
  exact List.map_congr_left (fun j hj => hb_ext e (List.mem_range.mp hj))
/-- entry i's bytes as they are in the class -/
def byP (now : Nat → Int32) (st : Nat → Nat) (i : Nat) : List Int32 := byC8 now (st i) (st (i + 1))
/-- the bytes' places: where each entry begins, n of them -/
def StOk (I : Nat → Nat → Int32) (p : Nat) (st : Nat → Nat) (n : Nat) : Prop := (∀ i, i ≤ n → I (p + 2) i = nI (st i)) ∧ ∀ i, i < n → st i ≤ st (i + 1) ∧ st (i + 1) - st i < 87 ∧ st (i + 1) ≤ 16400
/-- the chain's rows up to k are as they have to be -/
def ChOk (I : Nat → Nat → Int32) (p : Nat) (st : Nat → Nat) (k : Nat) : Prop := ∀ i, i ≤ k → ∀ j, j < 8 → I (p + 8 + i) j = chH (byP (I (p + 1)) st) i j
/-- only the Sha's cells, the chain's rows and 'chained' have changed -/
def PF (p : Nat) (I I' : Nat → Nat → Int32) : Prop := (∀ c, c ≠ p → (c < p + 3 ∨ p + 6 < c) → (c < p + 8 ∨ p + 208 < c) → I' c = I c) ∧ ∀ j, j ≠ 5 → I' p j = I p j
theorem PF.refl {p : Nat} {I : Nat → Nat → Int32} : PF p I I := ⟨fun _ _ _ _ => rfl, fun _ _ => rfl⟩
theorem PF.trans {p : Nat} {I I' I'' : Nat → Nat → Int32} (h : PF p I I') (h' : PF p I' I'') : PF p I I'' := ⟨fun c a b d => (h'.1 c a b d).trans (h.1 c a b d), fun j hj => (h'.2 j hj).trans (h.2 j hj)⟩
section PagesC
variable {N SL : Nat} {S : Nat → Shp} {R : Nat → Nat → Option Nat} {p : Nat}
theorem imax_nI {a b : Nat} (ha : a < 2 ^ 31) (hb : b < 2 ^ 31) : imax (nI a) (nI b) = nI (Nat.max a b) := by
  unfold imax
  by_cases q : a < b
  · rw [if_pos (nI_lt q hb), show Nat.max a b = b from Nat.max_eq_right (by omega)]
  · rw [if_neg (nI_nlt (by omega) ha), show Nat.max a b = a from Nat.max_eq_left (by omega)]
set_option maxHeartbeats 4000000 in
theorem chainB_loop (hA : PgAt N S R p) (J : Nat → Nat → Int64) (st : Nat → Nat) (n : Nat) (hn : n ≤ 200) (k : Nat) (hk : k ≤ 200) : ∀ (q i : Nat) (I : Nat → Nat → Int32) (fuel : Nat), n ≤ i + q → (i + q = n ∨ q = 0) → q < fuel → i ≤ 200 → StOk I p st n → Sta I → ChOk I p st i → I p 5 = nI k →
    ∃ I' : Nat → Nat → Int32, fX5_chainBehind_5 fuel p (nI n) (nI i) (N, SL, S, R, I, J) = some (p + 8 + n, (N, SL, S, R, I', J)) ∧ PF p I I' ∧ I' p 5 = nI (Nat.max k n) ∧ ChOk I' p st (i + q) := by
  obtain ⟨⟨ho, hl, hsha⟩, ⟨r0, r1, r3, r4, r6, r7⟩, ⟨s1, s2, s7, s209, s666⟩, hch, hnd⟩ := hA
  have hnS : nS = 3 := rfl
  have hns := ho.2.1
  have hs0 := hsha.1
  intro q
  induction q with
  | zero =>
    intro i I fuel h1 h2 hf hi hst hS hc h5
    obtain ⟨y, rfl⟩ : ∃ y, fuel = y + 1 := ⟨fuel - 1, by omega⟩
    refine ⟨u2 I p 5 (nI (Nat.max k n)), ?_, ⟨fun c a _ _ => u2_ne a, fun j hj => by
      rw [u2_row, u1_eq]
      exact if_neg hj⟩, by rw [u2_row, u1_eq]; exact if_pos rfl, fun a ha j hj => ?_⟩
    · rw [fX5_chainBehind_5, if_pos ((nI_leI (by omega) (by omega)).mpr (by omega)), gI_mk ho, h5, imax_nI (by omega) (by omega), pI_mk ho, gR_mk ho r4, rR_mk (by omega) s7 (by omega) (by decide) (hch n (by omega)).1]
    · rw [u2_ne (by omega), u2_ne (by omega)]
      exact hc a ha j hj
  | succ q ih =>
    intro i I fuel h1 h2 hf hi hst hS hc h5
    obtain ⟨y, rfl⟩ : ∃ y, fuel = y + 1 := ⟨fuel - 1, by omega⟩
    have hin : i + (q + 1) = n := by omega
    have hst1 := hst.2 i (by omega)
    obtain ⟨I0, I1, I2, b1, b2, b3, b4, b5, b6, b7, b8⟩ := chainC_D (SL := SL) hsha (a := p + 1) (h := p + 8 + i) (to := p + 8 + (i + 1)) (n := 16400) (b := st i) (e := st (i + 1)) (by omega) (hch i (by omega)).2 ⟨by omega, by omega⟩ (by omega) s1 (by decide) ⟨by omega, by omega⟩ hst1.1 hst1.2.2 hst1.2.1 (by omega) (by omega) (hch (i + 1) (by omega)).2 ⟨by omega, by omega, by omega⟩ (by omega) I J hS
    have hfr : PF p I I2 := ⟨fun c a b d => b7 c (by omega) (by omega) (by omega) (by omega) (by omega), fun j _ => by rw [b7 p (by omega) (by omega) (by omega) (by omega) (by omega)]⟩
    have e1 : I2 (p + 1) = I (p + 1) := hfr.1 _ (by omega) (by omega) (by omega)
    have e2 : I2 (p + 2) = I (p + 2) := hfr.1 _ (by omega) (by omega) (by omega)
    have hst2 : StOk I2 p st n := ⟨fun a ha => by rw [e2]; exact hst.1 a ha, hst.2⟩
    have hS2 : Sta I2 := ⟨fun j hj => by rw [hfr.1 1 (by omega) (by omega) (by omega)]; exact hS.1 j hj, fun j hj => by rw [hfr.1 0 (by omega) (by omega) (by omega)]; exact hS.2 j hj⟩
    have hc2 : ChOk I2 p st (i + 1) := fun a ha j hj => by
      rw [e1]
      by_cases z : a = i + 1
      · subst z
        rw [b8 j hj, hbs_ext (hc i (Nat.le_refl _))]
        rfl
      · rw [b7 (p + 8 + a) (by omega) (by omega) (by omega) (by omega) (by omega)]
        exact hc a (by omega) j hj
    obtain ⟨I', g1, g2, g3, g4⟩ := ih (i + 1) I2 y (by omega) (by omega) (by omega) (by omega) hst2 hS2 hc2 (by rw [hfr.2 5 |> fun _ => b7 p (by omega) (by omega) (by omega) (by omega) (by omega)]; exact h5)
    refine ⟨I', ?_, hfr.trans g2, g3, by rw [show i + (q + 1) = i + 1 + q by omega]; exact g4⟩
    rw [fX5_chainBehind_5, if_neg (nI_lt_of (k := n) (by omega) (by omega)), nI_1 i]
    rw [gR_mk ho r3, cV_mk hs0, b1, bd_some, gR_mk ho r3, gR_mk ho r4, rR_mk (by omega) s7 (by omega) (by decide) (hch i (by omega)).1, cV_mk hs0, b2, bd_some]
    rw [gR_mk ho r3, gR_mk ho r0, gR_mk ho r1, rI_mk (by omega) s2 (by omega) (by decide), gR_mk ho r1, rI_mk (by omega) s2 (by omega) (by decide)]
    rw [b3 (p + 2) (by omega) (by omega), hst.1 i (by omega), hst.1 (i + 1) (by omega), cV_mk hs0, b4, bd_some]
    rw [gR_mk ho r3, gR_mk ho r4, rR_mk (by omega) s7 (by omega) (by decide) (hch (i + 1) (by omega)).1, cV_mk hs0, b6, bd_some]
    exact g1
/-- chainBehind(n): the row that it gives is THE CHAIN behind n entries -/
theorem chainB_spec (hA : PgAt N S R p) (I : Nat → Nat → Int32) (J : Nat → Nat → Int64) (st : Nat → Nat) (n k : Nat) (hn : n ≤ 200) (hk : k ≤ 200) (hst : StOk I p st n) (hS : Sta I) (hc : ChOk I p st k) (h5 : I p 5 = nI k) :
    ∃ I' : Nat → Nat → Int32, fX5_chainBehind p (nI n) (N, SL, S, R, I, J) = some (p + 8 + n, (N, SL, S, R, I', J)) ∧ PF p I I' ∧ I' p 5 = nI (Nat.max k n) ∧ ChOk I' p st (Nat.max k n) := by
  unfold fX5_chainBehind
  rw [gI_mk hA.1.1, h5]
  by_cases q : n ≤ k
  · have e : Nat.max k n = k := Nat.max_eq_left q
    rw [e]
    have h := chainB_loop (SL := SL) hA J st n hn k hk 0 k I FU (by omega) (Or.inr rfl) (by decide) hk hst hS hc h5
    rw [e] at h
    exact h
  · have e : Nat.max k n = n := Nat.max_eq_right (by omega)
    rw [e]
    have h := chainB_loop (SL := SL) hA J st n hn k hk (n - k) k I FU (by omega) (Or.inl (by omega)) (by unfold FU; omega) hk hst hS hc h5
    rw [e, show k + (n - k) = n by omega] at h
    exact h
end PagesC
