-- P6: the way down from the whole tree
/-- the greatest power of 2 below s -/
def hfR : Nat → Nat → Nat → Nat
  | 0, k, _ => k
  | q + 1, k, s => if s ≤ 2 * k then k else hfR q (2 * k) s
def hf (s : Nat) : Nat := hfR 8 1 s
theorem hf_ok : ∀ s, s < 201 → 2 ≤ s → (hf s < s ∧ s ≤ 2 * hf s ∧ 1 ≤ hf s) ∧ ∃ j, j < 8 ∧ hf s = 2 ^ j := by decide +kernel
abbrev isE (pf : Bool) (e f s : Nat) : Prop := s = 1 ∨ (pf = true ∧ e = f + s - 1)
/-- the turns: went right, what is left aside: its first entry, its size -/
def dnT (pf : Bool) (e : Nat) : Nat → Nat → Nat → List (Bool × Nat × Nat)
  | 0, _, _ => []
  | q + 1, f, s => if isE pf e f s then [] else if e < f + hf s then (false, f + hf s, s - hf s) :: dnT pf e q f (hf s) else (true, f, hf s) :: dnT pf e q (f + hf s) (s - hf s)
/-- where it ends -/
def dnE (pf : Bool) (e : Nat) : Nat → Nat → Nat → Nat × Nat
  | 0, f, s => (f, s)
  | q + 1, f, s => if isE pf e f s then (f, s) else if e < f + hf s then dnE pf e q f (hf s) else dnE pf e q (f + hf s) (s - hf s)
/-- a part that the tree's own rule cuts -/
def Al (f s : Nat) : Prop := ∃ j, s ≤ 2 ^ j ∧ f % 2 ^ j = 0
theorem mod_pow {f i j : Nat} (h : i ≤ j) (hf : f % 2 ^ j = 0) : f % 2 ^ i = 0 := by
  obtain ⟨d, rfl⟩ : ∃ d, j = i + d := ⟨j - i, by omega⟩
  rw [Nat.pow_add] at hf
  exact Nat.mod_eq_zero_of_dvd (Nat.dvd_trans (Nat.dvd_mul_right _ _) (Nat.dvd_of_mod_eq_zero hf))
theorem Al.hal {f s : Nat} (h : Al f s) : ∀ e, e < 8 → s / 2 ^ e % 2 = 1 → f % 2 ^ e = 0 := by
  obtain ⟨j, h1, h2⟩ := h
  intro e _ he
  refine mod_pow (j := j) ?_ h2
  by_cases w : e ≤ j
  · exact w
  · have hp : 2 ^ j < 2 ^ e := Nat.pow_lt_pow_right (by decide) (by omega)
    rw [Nat.div_eq_of_lt (by omega)] at he
    exact absurd he (by decide)
theorem Al.cut {f s : Nat} (h : Al f s) (hs : s < 201) (h2 : 2 ≤ s) : Al f (hf s) ∧ Al (f + hf s) (s - hf s) := by
  obtain ⟨j, h1, h3⟩ := h
  obtain ⟨⟨a1, a2, a3⟩, i, hi, ei⟩ := hf_ok s hs h2
  have hij : i ≤ j := by
    by_cases w : i ≤ j
    · exact w
    · have hp : 2 ^ j < 2 ^ i := Nat.pow_lt_pow_right (by decide) (by omega)
      omega
  have h0 := mod_pow hij h3
  refine ⟨⟨i, by omega, h0⟩, i, by omega, ?_⟩
  rw [ei, Nat.add_mod_right]
  exact h0
/-- what holds of the turns and of the end -/
theorem dn_ok (pf : Bool) (e T : Nat) (hT : T ≤ 200) : ∀ (q f s : Nat), s ≤ 2 ^ q → 1 ≤ s → f ≤ e → e < f + s → f + s ≤ T → Al f s → (∀ x ∈ dnT pf e q f s, Al x.2.1 x.2.2 ∧ x.2.1 + x.2.2 ≤ T ∧ 1 ≤ x.2.2) ∧ (Al (dnE pf e q f s).1 (dnE pf e q f s).2 ∧ (dnE pf e q f s).1 + (dnE pf e q f s).2 ≤ T ∧ f ≤ (dnE pf e q f s).1 ∧ 1 ≤ (dnE pf e q f s).2) ∧ (dnT pf e q f s).length ≤ q
  | 0, f, s, h1, h2, h3, h4, h5, h6 => ⟨fun x hx => absurd hx (by simp [dnT]), ⟨h6, h5, Nat.le_refl _, h2⟩, Nat.le_refl _⟩
  | q + 1, f, s, h1, h2, h3, h4, h5, h6 => by
    rw [dnT, dnE]
    by_cases w : isE pf e f s
    · rw [if_pos w, if_pos w]
      exact ⟨fun x hx => absurd hx (by simp), ⟨h6, h5, Nat.le_refl _, h2⟩, Nat.zero_le _⟩
    · have hs2 : 2 ≤ s := by
        by_cases z : s = 1
        · exact absurd (Or.inl z) w
        · omega
      obtain ⟨⟨a1, a2, a3⟩, i, hi, ei⟩ := hf_ok s (by omega) hs2
      obtain ⟨c1, c2⟩ := h6.cut (by omega) hs2
      have e2 : 2 ^ (q + 1) = 2 ^ q + 2 ^ q := by rw [Nat.pow_succ]; omega
      have hq : hf s ≤ 2 ^ q := by
        rw [ei]
        by_cases z : i ≤ q
        · exact Nat.pow_le_pow_right (by decide) z
        · have hp : 2 ^ (q + 1) ≤ 2 ^ i := Nat.pow_le_pow_right (by decide) (by omega)
          omega
      rw [if_neg w, if_neg w]
      by_cases z : e < f + hf s
      · rw [if_pos z, if_pos z]
        obtain ⟨g1, g2, g3⟩ := dn_ok pf e T hT q f (hf s) hq (by omega) h3 z (by omega) c1
        refine ⟨fun x hx => ?_, g2, by rw [List.length_cons]; omega⟩
        rcases List.mem_cons.mp hx with rfl | hx
        · exact ⟨c2, by show f + hf s + (s - hf s) ≤ T; omega, by show 1 ≤ s - hf s; omega⟩
        · exact g1 x hx
      · rw [if_neg z, if_neg z]
        obtain ⟨g1, g2, g3⟩ := dn_ok pf e T hT q (f + hf s) (s - hf s) (by omega) (by omega) (by omega) (by omega) (by omega) c2
        refine ⟨fun x hx => ?_, ⟨g2.1, g2.2.1, by omega, g2.2.2.2⟩, by rw [List.length_cons]; omega⟩
        rcases List.mem_cons.mp hx with rfl | hx
        · exact ⟨c1, by show f + hf s ≤ T; omega, a3⟩
        · exact g1 x hx
def bI (b : Bool) : Int32 := if b = true then 1 else 0
section TrailA
variable {N SL : Nat} {S : Nat → Shp} {R : Nat → Nat → Option Nat}
theorem power_loop (M : Mem) (s : Nat) (hs : s < 201) : ∀ (q k fuel : Nat), k + q = 8 → q < fuel → fX7_powerBelow_4 fuel (nI s) (nI (2 ^ k)) (nI k) M = some (nI (hfR q (2 ^ k) s), M)
  | 0, k, fuel, hk, hf => by
    obtain ⟨y, rfl⟩ : ∃ y, fuel = y + 1 := ⟨fuel - 1, by omega⟩
    have : k = 8 := by omega
    subst this
    rw [fX7_powerBelow_4, if_pos (by decide)]
    rfl
  | q + 1, k, fuel, hk, hf => by
    obtain ⟨y, rfl⟩ : ∃ y, fuel = y + 1 := ⟨fuel - 1, by omega⟩
    have hp : 2 ^ k ≤ 2 ^ 7 := Nat.pow_le_pow_right (by decide) (by omega)
    have e7 : 2 ^ 7 = 128 := rfl
    rw [fX7_powerBelow_4, if_neg (show ¬ (8 : Int32) ≤ nI k from nI_lt_of (k := 8) (by decide) (by omega)), show (2 : Int32) = nI 2 from rfl, nI_mul, nI_mul, nI_1, hfR]
    unfold fX7_powerBelow_27
    by_cases w : s ≤ 2 * 2 ^ k
    · rw [if_pos ((nI_leI (by omega) (by omega)).mpr w), if_pos w]
    · rw [if_neg (nI_lt_of (by omega) (by omega)), if_neg w, Nat.mul_comm (2 ^ k) 2, show 2 * 2 ^ k = 2 ^ (k + 1) by rw [Nat.pow_succ, Nat.mul_comm]]
      exact power_loop M s hs q (k + 1) y (by omega) (by omega)
theorem power_mk (M : Mem) (s : Nat) (hs : s < 201) : fX7_powerBelow (nI s) M = some (nI (hf s), M) := power_loop M s hs 8 0 FU rfl (by decide)
theorem half_loop (M : Mem) (s : Nat) (hs : s < 201) : ∀ (q k fuel : Nat), k + q = 8 → q < fuel → fX9_half_2 fuel (nI s) (nI (2 ^ k)) M = some (nI (hfR q (2 ^ k) s), M)
  | 0, k, fuel, hk, hf => by
    obtain ⟨y, rfl⟩ : ∃ y, fuel = y + 1 := ⟨fuel - 1, by omega⟩
    have : k = 8 := by omega
    subst this
    rw [fX9_half_2, show (2 : Int32) = nI 2 from rfl, nI_mul, if_pos ((nI_leI (by omega) (by decide)).mpr (by have : 2 * 2 ^ 8 = 512 := rfl; omega))]
    rfl
  | q + 1, k, fuel, hk, hf => by
    obtain ⟨y, rfl⟩ : ∃ y, fuel = y + 1 := ⟨fuel - 1, by omega⟩
    have hp : 2 ^ k ≤ 2 ^ 7 := Nat.pow_le_pow_right (by decide) (by omega)
    have e7 : 2 ^ 7 = 128 := rfl
    rw [fX9_half_2, show (2 : Int32) = nI 2 from rfl, nI_mul, hfR]
    by_cases w : s ≤ 2 * 2 ^ k
    · rw [if_pos ((nI_leI (by omega) (by omega)).mpr w), if_pos w]
    · rw [if_neg (nI_lt_of (by omega) (by omega)), if_neg w, show 2 * 2 ^ k = 2 ^ (k + 1) by rw [Nat.pow_succ, Nat.mul_comm]]
      exact half_loop M s hs q (k + 1) y (by omega) (by omega)
theorem half_mk (M : Mem) (s : Nat) (hs : s < 201) : fX9_half (nI s) M = some (nI (hf s), M) := half_loop M s hs 8 0 FU rfl (by decide)
theorem isEnd_mk (hT : TopAt N S R) (I : Nat → Nat → Int32) (J : Nat → Nat → Int64) (pf : Bool) (e f s : Nat) (he : e < 201) (hfs : f + s < 201) (h1 : 1 ≤ s) (h11 : I 717 11 = nI s) (h10 : I 717 10 = nI f) (h3 : I 717 3 = bI pf) : fX7_isEnd 717 (nI e) (N, SL, S, R, I, J) = some (if isE pf e f s then 1 else 0, (N, SL, S, R, I, J)) := by
  have ho := hT.2.2.2.2.1.1.1
  unfold fX7_isEnd fX7_isEnd_30 fX7_isEnd_34 fX7_isEnd_35
  rw [gI_mk ho, h11]
  by_cases w : s = 1
  · rw [if_pos (show nI s = (1 : Int32) by rw [w]; rfl), retZ_1, if_pos (show isE pf e f s from Or.inl w)]
  rw [if_neg (show ¬ nI s = (1 : Int32) from fun q => w ((nI_eq (b := 1) (by omega) (by decide)).mp q)), gI_mk ho, h3]
  cases pf with
  | false => rw [if_pos (show bI false = 0 from rfl), retZ_0, if_neg (show ¬ isE false e f s from fun q => q.elim w (fun z => by cases z.1))]
  | true =>
    rw [if_neg (show ¬ bI true = 0 by decide), gI_mk ho, gI_mk ho, h10, h11, nI_add]
    show (if nI e = nI (f + s) - nI 1 then _ else _) = _
    rw [pk_sub (by omega)]
    by_cases z : e = f + s - 1
    · rw [if_pos (by rw [z]), retZ_1, if_pos (show isE true e f s from Or.inr ⟨rfl, z⟩)]
    · rw [if_neg (fun q => z ((nI_eq (by omega) (by omega)).mp q)), retZ_0, if_neg (show ¬ isE true e f s from fun q => q.elim w (fun y => z y.2))]
/-- the cells of the way down have changed alone -/
def GD (I I' : Nat → Nat → Int32) : Prop := (∀ c, c ≠ 717 → (c < 728 ∨ 730 < c) → I' c = I c) ∧ ∀ j, (j < 9 ∨ 11 < j) → I' 717 j = I 717 j
theorem GD.trans {I I' I'' : Nat → Nat → Int32} (h : GD I I') (h' : GD I' I'') : GD I I'' := ⟨fun c a b => (h'.1 c a b).trans (h.1 c a b), fun j hj => (h'.2 j hj).trans (h.2 j hj)⟩
/-- row t + i has turn i of l -/
def TRow (I : Nat → Nat → Int32) (t : Nat) (l : List (Bool × Nat × Nat)) : Prop := ∀ i, i < l.length → I 728 (t + i) = bI (l.getD i (false, 0, 0)).1 ∧ I 729 (t + i) = nI (l.getD i (false, 0, 0)).2.1 ∧ I 730 (t + i) = nI (l.getD i (false, 0, 0)).2.2
set_option maxHeartbeats 4000000 in
theorem goDown_loop (hT : TopAt N S R) (J : Nat → Nat → Int64) (pf : Bool) (e : Nat) (he : e < 200) : ∀ (q t f s fuel : Nat) (I : Nat → Nat → Int32), t + q = 8 → q < fuel → s ≤ 2 ^ q → 1 ≤ s → f ≤ e → e < f + s → f + s < 201 → I 717 9 = nI t → I 717 10 = nI f → I 717 11 = nI s → I 717 3 = bI pf →
    ∃ I' : Nat → Nat → Int32, fX7_goDown_18 fuel 717 (nI e) (N, SL, S, R, I, J) = some ((), (N, SL, S, R, I', J)) ∧ GD I I' ∧ (∀ i, i < t → I' 728 i = I 728 i ∧ I' 729 i = I 729 i ∧ I' 730 i = I 730 i) ∧ I' 717 9 = nI (t + (dnT pf e q f s).length) ∧ I' 717 10 = nI (dnE pf e q f s).1 ∧ I' 717 11 = nI (dnE pf e q f s).2 ∧ TRow I' t (dnT pf e q f s)
  | 0, t, f, s, fuel, I, ht, hfu, h1, h2, h3, h4, h5, i9, i10, i11, i3 => by
    obtain ⟨y, rfl⟩ : ∃ y, fuel = y + 1 := ⟨fuel - 1, by omega⟩
    have ho := hT.2.2.2.2.1.1.1
    have : t = 8 := by omega
    subst this
    refine ⟨I, ?_, ⟨fun _ _ _ => rfl, fun _ _ => rfl⟩, fun _ _ => ⟨rfl, rfl, rfl⟩, i9, i10, i11, fun i hi => absurd hi (by simp [dnT])⟩
    rw [fX7_goDown_18, gI_mk ho, i9, if_pos (by decide)]
    rfl
  | q + 1, t, f, s, fuel, I, ht, hfu, h1, h2, h3, h4, h5, i9, i10, i11, i3 => by
    obtain ⟨y, rfl⟩ : ∃ y, fuel = y + 1 := ⟨fuel - 1, by omega⟩
    obtain ⟨⟨ho, hsha, r0, r6, r7, r8, r12, r13, r14⟩, ⟨s718, s728, s729, s730, s735, s736⟩, hrow⟩ := hT.2.2.2.2.1
    have hN := hT.1.2.1
    have hnS : nS = 3 := rfl
    rw [fX7_goDown_18, gI_mk ho, i9, if_neg (show ¬ (8 : Int32) ≤ nI t from nI_lt_of (k := 8) (by decide) (by omega)), cV_mk ho, isEnd_mk hT I J pf e f s (by omega) h5 h2 i11 i10 i3, bd_some, dnT, dnE]
    by_cases w : isE pf e f s
    · rw [if_pos w, if_neg (show ¬ (1 : Int32) = 0 by decide), if_pos w, if_pos w]
      exact ⟨I, rfl, ⟨fun _ _ _ => rfl, fun _ _ => rfl⟩, fun _ _ => ⟨rfl, rfl, rfl⟩, i9, i10, i11, fun i hi => absurd hi (by simp)⟩
    have hs2 : 2 ≤ s := by
      by_cases z : s = 1
      · exact absurd (Or.inl z) w
      · omega
    obtain ⟨⟨a1, a2, a3⟩, i, hi, ei⟩ := hf_ok s (by omega) hs2
    have e2 : 2 ^ (q + 1) = 2 ^ q + 2 ^ q := by rw [Nat.pow_succ]; omega
    have hq : hf s ≤ 2 ^ q := by
      rw [ei]
      by_cases z : i ≤ q
      · exact Nat.pow_le_pow_right (by decide) z
      · have hp : 2 ^ (q + 1) ≤ 2 ^ i := Nat.pow_le_pow_right (by decide) (by omega)
        omega
    -- one turn
    have turn : ∀ (b : Bool) (af as f' s' : Nat), (b = false → af = f + hf s ∧ as = s - hf s ∧ f' = f ∧ s' = hf s) → (b = true → af = f ∧ as = hf s ∧ f' = f + hf s ∧ s' = s - hf s) →
        fX7_goDown_58 (fX7_goDown_18 y) 717 (nI e) (nI (hf s)) (bI b) (N, SL, S, R, I, J) = fX7_goDown_18 y 717 (nI e) (N, SL, S, R, u2 (u2 (u2 (u2 (u2 (u2 I 728 t (bI b)) 729 t (nI af)) 730 t (nI as)) 717 10 (nI f')) 717 11 (nI s')) 717 9 (nI (t + 1)), J) := by
      intro b af as f' s' hb0 hb1
      have hnar : vp_nar .boolean (bI b) = bI b := by cases b; exact nar_b0; exact nar_b1
      unfold fX7_goDown_58 fX7_goDown_94 fX7_goDown_117 fX7_goDown_136 fX7_goDown_154
      rw [gR_mk ho r6, gI_mk ho, i9, wI_mk (by omega) (by omega) s728 (by omega) (by decide), hnar, gR_mk ho r7, gI_mk ho, u2_ne (by decide), i9]
      cases b with
      | false =>
        obtain ⟨rfl, rfl, rfl, rfl⟩ := hb0 rfl
        rw [if_pos (show bI false = 0 from rfl), gI_mk ho, u2_ne (by decide), i10, nI_add, wI_mk (by omega) (by omega) s729 (by omega) (by decide), vp_narI, gR_mk ho r8, gI_mk ho, u2_ne (by decide), u2_ne (by decide), i9, if_pos (show bI false = 0 from rfl), gI_mk ho, u2_ne (by decide), u2_ne (by decide), i11, pk_sub (by omega), wI_mk (by omega) (by omega) s730 (by omega) (by decide), vp_narI, if_pos (show bI false = 0 from rfl), gI_mk ho, u2_ne (by decide), u2_ne (by decide), u2_ne (by decide), i10, pI_mk ho, if_pos (show bI false = 0 from rfl), pI_mk ho, gI_mk ho, u2_at, up_ne (by decide), u2_at, up_ne (by decide), u2_ne (by decide), u2_ne (by decide), u2_ne (by decide), i9, nI_1, pI_mk ho]
      | true =>
        obtain ⟨rfl, rfl, rfl, rfl⟩ := hb1 rfl
        rw [if_neg (show ¬ bI true = 0 by decide), gI_mk ho, u2_ne (by decide), i10, wI_mk (by omega) (by omega) s729 (by omega) (by decide), vp_narI, gR_mk ho r8, gI_mk ho, u2_ne (by decide), u2_ne (by decide), i9, if_neg (show ¬ bI true = 0 by decide), wI_mk (by omega) (by omega) s730 (by omega) (by decide), vp_narI, if_neg (show ¬ bI true = 0 by decide), gI_mk ho, u2_ne (by decide), u2_ne (by decide), u2_ne (by decide), i10, nI_add, pI_mk ho, if_neg (show ¬ bI true = 0 by decide), gI_mk ho, u2_at, up_ne (by decide), u2_ne (by decide), u2_ne (by decide), u2_ne (by decide), i11, pk_sub (by omega), pI_mk ho, gI_mk ho, u2_at, up_ne (by decide), u2_at, up_ne (by decide), u2_ne (by decide), u2_ne (by decide), u2_ne (by decide), i9, nI_1, pI_mk ho]
    have go : ∀ (b : Bool) (af as f' s' : Nat), (b = false → af = f + hf s ∧ as = s - hf s ∧ f' = f ∧ s' = hf s) → (b = true → af = f ∧ as = hf s ∧ f' = f + hf s ∧ s' = s - hf s) → s' ≤ 2 ^ q → 1 ≤ s' → f' ≤ e → e < f' + s' → f' + s' < 201 →
        ∃ I' : Nat → Nat → Int32, fX7_goDown_58 (fX7_goDown_18 y) 717 (nI e) (nI (hf s)) (bI b) (N, SL, S, R, I, J) = some ((), (N, SL, S, R, I', J)) ∧ GD I I' ∧ (∀ i, i < t → I' 728 i = I 728 i ∧ I' 729 i = I 729 i ∧ I' 730 i = I 730 i) ∧ I' 717 9 = nI (t + ((b, af, as) :: dnT pf e q f' s').length) ∧ I' 717 10 = nI (dnE pf e q f' s').1 ∧ I' 717 11 = nI (dnE pf e q f' s').2 ∧ TRow I' t ((b, af, as) :: dnT pf e q f' s') := by
      intro b af as f' s' hb0 hb1 k1 k2 k3 k4 k5
      obtain ⟨I1, hI1⟩ : ∃ I1, I1 = u2 (u2 (u2 (u2 (u2 (u2 I 728 t (bI b)) 729 t (nI af)) 730 t (nI as)) 717 10 (nI f')) 717 11 (nI s')) 717 9 (nI (t + 1)) := ⟨_, rfl⟩
      have g0 : GD I I1 := ⟨fun c q1 q2 => by rw [hI1, u2_ne q1, u2_ne q1, u2_ne q1, u2_ne (by omega), u2_ne (by omega), u2_ne (by omega)], fun j hj => by rw [hI1, u2_at, up_ne (by omega), u2_at, up_ne (by omega), u2_at, up_ne (by omega), u2_ne (by decide), u2_ne (by decide), u2_ne (by decide)]⟩
      obtain ⟨I', g1, g2, g3, g4, g5, g6, g7⟩ := goDown_loop hT J pf e he q (t + 1) f' s' y I1 (by omega) (by omega) k1 k2 k3 k4 k5 (by rw [hI1, u2_i]) (by rw [hI1, u2_at, up_ne (by decide), u2_at, up_ne (by decide), u2_i]) (by rw [hI1, u2_at, up_ne (by decide), u2_i]) (by rw [g0.2 3 (by omega)]; exact i3)
      have c8 : ∀ j, I1 728 j = up (I 728) t (bI b) j := fun j => by rw [hI1, u2_ne (by decide), u2_ne (by decide), u2_ne (by decide), u2_ne (by decide), u2_ne (by decide), u2_at]
      have c9 : ∀ j, I1 729 j = up (I 729) t (nI af) j := fun j => by rw [hI1, u2_ne (by decide), u2_ne (by decide), u2_ne (by decide), u2_ne (by decide), u2_at, u2_ne (by decide)]
      have c0 : ∀ j, I1 730 j = up (I 730) t (nI as) j := fun j => by rw [hI1, u2_ne (by decide), u2_ne (by decide), u2_ne (by decide), u2_at, u2_ne (by decide), u2_ne (by decide)]
      refine ⟨I', ?_, g0.trans g2, fun j hj => ?_, by rw [g4, List.length_cons, show t + 1 + (dnT pf e q f' s').length = t + ((dnT pf e q f' s').length + 1) by omega], g5, g6, fun j hj => ?_⟩
      · rw [turn b af as f' s' hb0 hb1, ← hI1]; exact g1
      · obtain ⟨o1, o2, o3⟩ := g3 j (by omega)
        rw [o1, o2, o3, c8, c9, c0, up_ne (by omega), up_ne (by omega), up_ne (by omega)]
        exact ⟨rfl, rfl, rfl⟩
      · cases j with
        | zero =>
          obtain ⟨o1, o2, o3⟩ := g3 t (by omega)
          rw [Nat.add_zero, o1, o2, o3, c8, c9, c0, up_eq, up_eq, up_eq]
          exact ⟨rfl, rfl, rfl⟩
        | succ j =>
          rw [List.length_cons] at hj
          have := g7 j (by omega)
          rw [show t + (j + 1) = t + 1 + j by omega, List.getD_cons_succ]
          exact this
    rw [if_neg w, if_pos rfl, gI_mk ho, i11, power_mk _ s (by omega), bd_some, gI_mk ho, i10, nI_add, if_neg w, if_neg w]
    by_cases z : e < f + hf s
    · rw [if_pos (nI_lt z (by omega)), if_pos z, if_pos z]
      exact go false _ _ _ _ (fun _ => ⟨rfl, rfl, rfl, rfl⟩) (fun q => by cases q) hq (by omega) h3 z (by omega)
    · rw [if_neg (nI_nlt (by omega) (by omega)), if_neg z, if_neg z]
      exact go true _ _ _ _ (fun q => by cases q) (fun _ => ⟨rfl, rfl, rfl, rfl⟩) (by omega) (by omega) (by omega) (by omega) (by omega)
end TrailA
