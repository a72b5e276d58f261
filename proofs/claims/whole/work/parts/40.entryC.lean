section EntryC
variable {N SL : Nat} {S : Nat → Shp} {R : Nat → Nat → Option Nat} {p : Nat}
/-- size(): where the last entry ends -/
theorem size_mk (hA : PgAt N S R p) (I : Nat → Nat → Int32) (J : Nat → Nat → Int64) (st : Nat → Nat) (n : Nat) (hn : n ≤ 200) (h2 : I p 2 = nI n) (hs : StOk I p st n) : fX5_size p (N, SL, S, R, I, J) = some (nI (st n), (N, SL, S, R, I, J)) := by
  obtain ⟨⟨ho, hlN, hsha⟩, ⟨r0, r1, r3, r4, r6, r7⟩, ⟨s1, s2, s7, s209, s666⟩, hch, hnd⟩ := hA
  unfold fX5_size
  rw [gR_mk ho r1, gI_mk ho, h2, rI_mk (by omega) s2 (by omega) (by decide), hs.1 n (Nat.le_refl _)]
theorem entryWith_loop (hA : PgAt N S R p) (I : Nat → Nat → Int32) (J : Nat → Nat → Int64) (st : Nat → Nat) (n : Nat) (hn : n ≤ 200) (h2 : I p 2 = nI n) (hs : StOk I p st n) (i : Nat) (hi : i < st n) (hi2 : i < 20000) : ∀ (q e fuel : Nat), e + 1 + q = n → q < fuel → st e ≤ i →
    ∃ e', fX5_entryWith_2 fuel p (nI i) (nI e) (N, SL, S, R, I, J) = some (nI e', (N, SL, S, R, I, J)) ∧ e' < n ∧ st e' ≤ i ∧ i < st (e' + 1) := by
  obtain ⟨⟨ho, hlN, hsha⟩, ⟨r0, r1, r3, r4, r6, r7⟩, ⟨s1, s2, s7, s209, s666⟩, hch, hnd⟩ := hA
  intro q
  induction q with
  | zero =>
    intro e fuel he hf hse
    obtain ⟨y, rfl⟩ : ∃ y, fuel = y + 1 := ⟨fuel - 1, by omega⟩
    refine ⟨e, ?_, by omega, hse, by rw [show e + 1 = n by omega]; exact hi⟩
    rw [fX5_entryWith_2, gI_mk ho, h2, nI_1, if_pos ((nI_leI (by omega) (by omega)).mpr (by omega))]
    rfl
  | succ q ih =>
    intro e fuel he hf hse
    obtain ⟨y, rfl⟩ : ∃ y, fuel = y + 1 := ⟨fuel - 1, by omega⟩
    have hb := (hs.2 e (by omega)).2.2
    rw [fX5_entryWith_2, gI_mk ho, h2, nI_1, if_neg (nI_lt_of (k := n) (by omega) (by omega)), gR_mk ho r1, rI_mk (by omega) s2 (by omega) (by decide), hs.1 (e + 1) (by omega)]
    by_cases z : i < st (e + 1)
    · rw [if_pos (nI_lt z (by omega))]
      exact ⟨e, rfl, by omega, hse, z⟩
    · rw [if_neg (nI_nlt (by omega) (by omega))]
      exact ih (e + 1) y (by omega) (by omega) (by omega)
/-- entryWith(i): the entry whose bytes have byte i -/
theorem entryWith_spec (hA : PgAt N S R p) (I : Nat → Nat → Int32) (J : Nat → Nat → Int64) (st : Nat → Nat) (n : Nat) (hn0 : 0 < n) (hn : n ≤ 200) (h2 : I p 2 = nI n) (hs : StOk I p st n) (h0 : st 0 = 0) (i : Nat) (hi : i < st n) (hi2 : i < 20000) :
    ∃ e, fX5_entryWith p (nI i) (N, SL, S, R, I, J) = some (nI e, (N, SL, S, R, I, J)) ∧ e < n ∧ st e ≤ i ∧ i < st (e + 1) :=
  entryWith_loop hA I J st n hn h2 hs i hi hi2 (n - 1) 0 FU (by omega) (by unfold FU; omega) (by omega)
end EntryC
