-- P6, reference: the way down, the steps
section TrailB
variable {N SL : Nat} {S : Nat → Shp} {R : Nat → Nat → Option Nat}
/-- of the reference only the cells of the way down have changed -/
def GM (I I' : Nat → Nat → Int32) : Prop := (∀ c, c ≠ 759 → (c < 802 ∨ 804 < c) → I' c = I c) ∧ ∀ j, (j < 60 ∨ 63 < j) → I' 759 j = I 759 j
theorem GM.trans {I I' I'' : Nat → Nat → Int32} (h : GM I I') (h' : GM I' I'') : GM I I'' := ⟨fun c a b => (h'.1 c a b).trans (h.1 c a b), fun j hj => (h'.2 j hj).trans (h.2 j hj)⟩
def TRowM (I : Nat → Nat → Int32) (t : Nat) (l : List (Bool × Nat × Nat)) : Prop := ∀ i, i < l.length → I 802 (t + i) = bI (l.getD i (false, 0, 0)).1 ∧ I 803 (t + i) = nI (l.getD i (false, 0, 0)).2.1 ∧ I 804 (t + i) = nI ((l.getD i (false, 0, 0)).2.1 + (l.getD i (false, 0, 0)).2.2)
/-- what is left of the number that is gone down to -/
def lfO (pf : Bool) (e f : Nat) : Nat := if pf = true then e + 1 - f else e - f
set_option maxHeartbeats 4000000 in
theorem down_loop (hT : TopAt N S R) (J : Nat → Nat → Int64) (pf : Bool) (e : Nat) (he : e < 200) : ∀ (q t f s fuel : Nat) (I : Nat → Nat → Int32) (wh : Int32), t + q = 8 → q < fuel → s ≤ 2 ^ q → 1 ≤ s → f ≤ e → e < f + s → f + s < 201 → I 759 60 = nI t → I 759 63 = wh →
    ∃ I' : Nat → Nat → Int32, fX9_down_19 fuel 759 (bI (!pf)) (nI f) (nI (f + s)) (nI (lfO pf e f)) (N, SL, S, R, I, J) = some ((), (N, SL, S, R, I', J)) ∧ GM I I' ∧ (∀ i, i < t → I' 802 i = I 802 i ∧ I' 803 i = I 803 i ∧ I' 804 i = I 804 i) ∧ I' 759 60 = nI (t + (dnT pf e q f s).length) ∧ I' 759 61 = nI (dnE pf e q f s).1 ∧ I' 759 62 = nI ((dnE pf e q f s).1 + (dnE pf e q f s).2) ∧ I' 759 63 = (if (dnE pf e q f s).1 = f then wh else 0) ∧ TRowM I' t (dnT pf e q f s)
  | q, t, f, s, fuel, I, wh, ht, hfu, h1, h2, h3, h4, h5, i60, i63 => by
    obtain ⟨y, rfl⟩ : ∃ y, fuel = y + 1 := ⟨fuel - 1, by omega⟩
    have hA := hT.md
    have stop : (isE pf e f s ∨ q = 0) → ∃ I' : Nat → Nat → Int32, fX9_down_19 (y + 1) 759 (bI (!pf)) (nI f) (nI (f + s)) (nI (lfO pf e f)) (N, SL, S, R, I, J) = some ((), (N, SL, S, R, I', J)) ∧ GM I I' ∧ (∀ i, i < t → I' 802 i = I 802 i ∧ I' 803 i = I 803 i ∧ I' 804 i = I 804 i) ∧ I' 759 60 = nI t ∧ I' 759 61 = nI f ∧ I' 759 62 = nI (f + s) ∧ I' 759 63 = wh := by
      intro w
      have w' : isE pf e f s := by
        rcases w with w | w
        · exact w
        · subst w
          exact Or.inl (by have : 2 ^ 0 = 1 := rfl; omega)
      refine ⟨u2 (u2 I 759 61 (nI f)) 759 62 (nI (f + s)), ?_, ⟨fun c q1 _ => by rw [u2_ne q1, u2_ne q1], fun j hj => by rw [u2_at, up_ne (by omega), u2_at, up_ne (by omega)]⟩, fun i _ => by rw [u2_ne (by decide), u2_ne (by decide), u2_ne (by decide), u2_ne (by decide), u2_ne (by decide), u2_ne (by decide)]; exact ⟨rfl, rfl, rfl⟩, by rw [u2_at, up_ne (by decide), u2_at, up_ne (by decide)]; exact i60, by rw [u2_at, up_ne (by decide), u2_i], u2_i, by rw [u2_at, up_ne (by decide), u2_at, up_ne (by decide)]; exact i63⟩
      have fin : fX9_down_202 759 (nI f) (nI (f + s)) (N, SL, S, R, I, J) = some ((), (N, SL, S, R, u2 (u2 I 759 61 (nI f)) 759 62 (nI (f + s)), J)) := by
        unfold fX9_down_202
        rw [md_p hA, md_p hA]
      rw [fX9_down_19, pk_sub (by omega), show f + s - f = s by omega]
      cases pf with
      | true =>
        rw [if_pos (show bI (!true) = 0 from rfl), if_pos (show nI (lfO true e f) = nI s by
          show nI (e + 1 - f) = nI s
          rcases w' with z | z
          · rw [show e + 1 - f = s by omega]
          · rw [show e + 1 - f = s by have := z.2; omega]), fin]
      | false =>
        have z1 : s = 1 := w'.elim id (fun z => by cases z.1)
        rw [if_neg (show ¬ bI (!false) = 0 by decide), if_pos (show nI s ≤ (1 : Int32) by rw [z1]; decide), fin]
    match q, ht, hfu, h1, stop with
    | 0, ht, hfu, h1, stop =>
      obtain ⟨I', g1, g2, g3, g4, g5, g6, g7⟩ := stop (Or.inr rfl)
      exact ⟨I', g1, g2, g3, g4, g5, g6, by rw [g7]; exact (if_pos rfl).symm, fun i hi => absurd hi (by simp [dnT])⟩
    | q + 1, ht, hfu, h1, stop =>
      rw [dnT, dnE]
      by_cases w : isE pf e f s
      · rw [if_pos w, if_pos w]
        obtain ⟨I', g1, g2, g3, g4, g5, g6, g7⟩ := stop (Or.inl w)
        exact ⟨I', g1, g2, g3, g4, g5, g6, by rw [g7]; exact (if_pos rfl).symm, fun i hi => absurd hi (by simp)⟩
      have hs2 : 2 ≤ s := by
        by_cases z : s = 1
        · exact absurd (Or.inl z) w
        · omega
      obtain ⟨⟨a1, a2, a3⟩, i, hi, ei⟩ := hf_ok s (by omega) hs2
      have e2 : 2 ^ (q + 1) = 2 ^ q + 2 ^ q := by rw [Nat.pow_succ]; omega
      have hq : hf s ≤ 2 ^ q := by
        rw [ei]
        by_cases z : i ≤ q
        · exact Nat.pow_le_pow_right (by decide) z
        · have hp : 2 ^ (q + 1) ≤ 2 ^ i := Nat.pow_le_pow_right (by decide) (by omega)
          omega
      have go : ∀ (b : Bool) (af as f' s' : Nat) (wh' : Int32) (I1 : Nat → Nat → Int32), I1 = (if b = true then u2 (u2 (u2 (u2 (u2 I 802 t (bI b)) 803 t (nI af)) 804 t (nI (af + as))) 759 63 0) 759 60 (nI (t + 1)) else u2 (u2 (u2 (u2 I 802 t (bI b)) 803 t (nI af)) 804 t (nI (af + as))) 759 60 (nI (t + 1))) → wh' = (if b = true then 0 else wh) → s' ≤ 2 ^ q → 1 ≤ s' → f' ≤ e → e < f' + s' → f' + s' < 201 → (b = true → f < f') → (b = false → f' = f) → (∀ x, f' ≤ x → (if x = f' then wh' else 0) = (if x = f then wh else (0 : Int32))) →
          ∃ I' : Nat → Nat → Int32, fX9_down_19 y 759 (bI (!pf)) (nI f') (nI (f' + s')) (nI (lfO pf e f')) (N, SL, S, R, I1, J) = some ((), (N, SL, S, R, I', J)) ∧ GM I I' ∧ (∀ i, i < t → I' 802 i = I 802 i ∧ I' 803 i = I 803 i ∧ I' 804 i = I 804 i) ∧ I' 759 60 = nI (t + ((b, af, as) :: dnT pf e q f' s').length) ∧ I' 759 61 = nI (dnE pf e q f' s').1 ∧ I' 759 62 = nI ((dnE pf e q f' s').1 + (dnE pf e q f' s').2) ∧ I' 759 63 = (if (dnE pf e q f' s').1 = f then wh else 0) ∧ TRowM I' t ((b, af, as) :: dnT pf e q f' s') := by
        intro b af as f' s' wh' I1 hI1 hwh k1 k2 k3 k4 k5 k6 k7 k8
        have g0 : GM I I1 := by
          refine ⟨fun c q1 q2 => ?_, fun j hj => ?_⟩
          · rw [hI1]
            cases b with
            | true => rw [if_pos rfl, u2_ne q1, u2_ne q1, u2_ne (by omega), u2_ne (by omega), u2_ne (by omega)]
            | false => rw [if_neg (fun z => by cases z), u2_ne q1, u2_ne (by omega), u2_ne (by omega), u2_ne (by omega)]
          · rw [hI1]
            cases b with
            | true => rw [if_pos rfl, u2_at, up_ne (by omega), u2_at, up_ne (by omega), u2_ne (by decide), u2_ne (by decide), u2_ne (by decide)]
            | false => rw [if_neg (fun z => by cases z), u2_at, up_ne (by omega), u2_ne (by decide), u2_ne (by decide), u2_ne (by decide)]
        have r60 : I1 759 60 = nI (t + 1) := by
          rw [hI1]
          cases b with
          | true => rw [if_pos rfl, u2_i]
          | false => rw [if_neg (fun z => by cases z), u2_i]
        have r63 : I1 759 63 = wh' := by
          rw [hI1, hwh]
          cases b with
          | true => rw [if_pos rfl, if_pos rfl, u2_at, up_ne (by decide), u2_i]
          | false => rw [if_neg (fun z => by cases z), if_neg (fun z => by cases z), u2_at, up_ne (by decide), u2_ne (by decide), u2_ne (by decide), u2_ne (by decide)]; exact i63
        have c8 : ∀ j, I1 802 j = up (I 802) t (bI b) j := fun j => by
          rw [hI1]
          cases b with
          | true => rw [if_pos rfl, u2_ne (by decide), u2_ne (by decide), u2_ne (by decide), u2_ne (by decide), u2_at]
          | false => rw [if_neg (fun z => by cases z), u2_ne (by decide), u2_ne (by decide), u2_ne (by decide), u2_at]
        have c9 : ∀ j, I1 803 j = up (I 803) t (nI af) j := fun j => by
          rw [hI1]
          cases b with
          | true => rw [if_pos rfl, u2_ne (by decide), u2_ne (by decide), u2_ne (by decide), u2_at, u2_ne (by decide)]
          | false => rw [if_neg (fun z => by cases z), u2_ne (by decide), u2_ne (by decide), u2_at, u2_ne (by decide)]
        have c0 : ∀ j, I1 804 j = up (I 804) t (nI (af + as)) j := fun j => by
          rw [hI1]
          cases b with
          | true => rw [if_pos rfl, u2_ne (by decide), u2_ne (by decide), u2_at, u2_ne (by decide), u2_ne (by decide)]
          | false => rw [if_neg (fun z => by cases z), u2_ne (by decide), u2_at, u2_ne (by decide), u2_ne (by decide)]
        obtain ⟨I', g1, g2, g3, g4, g5, g6, g7, g8⟩ := down_loop hT J pf e he q (t + 1) f' s' y I1 wh' (by omega) (by omega) k1 k2 k3 k4 k5 r60 r63
        have hge : f' ≤ (dnE pf e q f' s').1 := by
          have : ∀ (q f s : Nat), f ≤ (dnE pf e q f s).1 := by
            intro q
            induction q with
            | zero => intro f s; exact Nat.le_refl _
            | succ q ih =>
              intro f s
              rw [dnE]
              by_cases z1 : isE pf e f s
              · rw [if_pos z1]; exact Nat.le_refl _
              · rw [if_neg z1]
                by_cases z2 : e < f + hf s
                · rw [if_pos z2]; exact ih f _
                · rw [if_neg z2]; exact Nat.le_trans (Nat.le_add_right _ _) (ih _ _)
          exact this q f' s'
        refine ⟨I', g1, g0.trans g2, fun j hj => ?_, by rw [g4, List.length_cons, show t + 1 + (dnT pf e q f' s').length = t + ((dnT pf e q f' s').length + 1) by omega], g5, g6, by rw [g7]; exact k8 _ hge, fun j hj => ?_⟩
        · obtain ⟨o1, o2, o3⟩ := g3 j (by omega)
          rw [o1, o2, o3, c8, c9, c0, up_ne (by omega), up_ne (by omega), up_ne (by omega)]
          exact ⟨rfl, rfl, rfl⟩
        · cases j with
          | zero =>
            obtain ⟨o1, o2, o3⟩ := g3 t (by omega)
            rw [Nat.add_zero, o1, o2, o3, c8, c9, c0, up_eq, up_eq, up_eq]
            exact ⟨rfl, rfl, rfl⟩
          | succ j =>
            rw [List.length_cons] at hj
            have := g8 j (by omega)
            rw [show t + (j + 1) = t + 1 + j by omega, List.getD_cons_succ]
            exact this
      -- the condition of the loop fails, and the half is taken
      have st : fX9_down_19 (y + 1) 759 (bI (!pf)) (nI f) (nI (f + s)) (nI (lfO pf e f)) (N, SL, S, R, I, J) = fX9_down_86 (fX9_down_19 y) 759 (bI (!pf)) (nI f) (nI (f + s)) (nI (lfO pf e f)) (nI (hf s)) (if e < f + hf s then 1 else 0) (N, SL, S, R, I, J) := by
        rw [fX9_down_19]
        unfold fX9_down_45
        rw [pk_sub (by omega), show f + s - f = s by omega, half_mk _ s (by omega), bd_some]
        cases pf with
        | true =>
          have hne : ¬ nI (lfO true e f) = nI s := fun q => by
            have := (nI_eq (show e + 1 - f < 2 ^ 31 by omega) (by omega)).mp q
            exact w (Or.inr ⟨rfl, by omega⟩)
          rw [if_pos (show bI (!true) = 0 from rfl), if_neg hne, if_pos (show bI (!true) = 0 from rfl)]
          show (if nI (hf s) < nI (e + 1 - f) then _ else _) = _
          by_cases z : e < f + hf s
          · rw [if_neg (nI_nlt (by omega) (by omega)), if_pos z]
          · rw [if_pos (nI_lt (by omega) (by omega)), if_neg z]
        | false =>
          rw [if_neg (show ¬ bI (!false) = 0 by decide), if_neg (show ¬ nI s ≤ (1 : Int32) from nI_lt_of (t := 1) (by omega) (by omega)), if_neg (show ¬ bI (!false) = 0 by decide)]
          show (if nI (hf s) ≤ nI (e - f) then _ else _) = _
          by_cases z : e < f + hf s
          · rw [if_neg (nI_lt_of (by omega) (by omega)), if_pos z]
          · rw [if_pos ((nI_leI (by omega) (by omega)).mpr (by omega)), if_neg z]
      rw [st, if_neg w, if_neg w]
      unfold fX9_down_86 fX9_down_106 fX9_down_130 fX9_down_154 fX9_down_189
      by_cases z : e < f + hf s
      · rw [if_pos z, if_pos z, if_pos z, md_f57 hA, md_g hA, i60, if_neg (show ¬ (1 : Int32) = 0 by decide), md_w43 hA (by omega), nar_b0, md_f58 hA, md_g hA, u2_ne (by omega), i60, if_neg (show ¬ (1 : Int32) = 0 by decide), nI_add, md_w44 hA (by omega), md_f59 hA, md_g hA, u2_ne (by omega), u2_ne (by omega), i60, if_neg (show ¬ (1 : Int32) = 0 by decide), md_w45 hA (by omega), if_neg (show ¬ (1 : Int32) = 0 by decide), md_g hA, u2_ne (by omega), u2_ne (by omega), u2_ne (by omega), i60, nI_1, md_p hA]
        have e0 : lfO pf e f = lfO pf e f := rfl
        refine go false (f + hf s) (s - hf s) f (hf s) wh _ ?_ (if_neg (fun q => by cases q)).symm hq (by omega) h3 z (by omega) (fun q => by cases q) (fun _ => rfl) (fun x _ => rfl)
        rw [if_neg (fun q => by cases q), show f + hf s + (s - hf s) = f + s by omega]
        rfl
      · rw [if_neg z, if_neg z, if_neg z, md_f57 hA, md_g hA, i60, if_pos rfl, md_w43 hA (by omega), nar_b1, md_f58 hA, md_g hA, u2_ne (by omega), i60, if_pos rfl, md_w44 hA (by omega), md_f59 hA, md_g hA, u2_ne (by omega), u2_ne (by omega), i60, if_pos rfl, nI_add, md_w45 hA (by omega), if_pos rfl, md_pZ hA (Or.inl rfl), md_g hA, u2_at, up_ne (by decide), u2_ne (by omega), u2_ne (by omega), u2_ne (by omega), i60, nI_1, md_p hA]
        have el : nI (lfO pf e f) - nI (hf s) = nI (lfO pf e (f + hf s)) := by
          cases pf with
          | true =>
            show nI (e + 1 - f) - nI (hf s) = nI (e + 1 - (f + hf s))
            rw [pk_sub (by omega), show e + 1 - f - hf s = e + 1 - (f + hf s) by omega]
          | false =>
            show nI (e - f) - nI (hf s) = nI (e - (f + hf s))
            rw [pk_sub (by omega), show e - f - hf s = e - (f + hf s) by omega]
        rw [el, show f + s = f + hf s + (s - hf s) by omega]
        refine go true f (hf s) (f + hf s) (s - hf s) 0 _ ?_ (if_pos rfl).symm (by omega) (by omega) (by omega) (by omega) (by omega) (fun _ => by omega) (fun q => by cases q) (fun x hx => by
          rw [if_neg (show ¬ x = f by omega)]
          by_cases y : x = f + hf s
          · rw [if_pos y]
          · rw [if_neg y])
        rw [if_pos rfl]
        rfl
/-- down(m, n, path) -/
theorem down_M (hT : TopAt N S R) (I : Nat → Nat → Int32) (J : Nat → Nat → Int64) (pf : Bool) (e n : Nat) (he : e < n) (hn : n ≤ 200) :
    ∃ I' : Nat → Nat → Int32, fX9_down 759 (nI (lfO pf e 0)) (nI n) (bI (!pf)) (N, SL, S, R, I, J) = some ((), (N, SL, S, R, I', J)) ∧ GM I I' ∧ I' 759 60 = nI (dnT pf e 8 0 n).length ∧ I' 759 61 = nI (dnE pf e 8 0 n).1 ∧ I' 759 62 = nI ((dnE pf e 8 0 n).1 + (dnE pf e 8 0 n).2) ∧ I' 759 63 = (if (dnE pf e 8 0 n).1 = 0 then 1 else 0) ∧ TRowM I' 0 (dnT pf e 8 0 n) := by
  have hA := hT.md
  obtain ⟨I', g1, g2, g3, g4, g5, g6, g7, g8⟩ := down_loop (SL := SL) hT J pf e (by omega) 8 0 0 n FU (u2 (u2 I 759 63 1) 759 60 (nI 0)) 1 rfl (by decide) (by have : 2 ^ 8 = 256 := rfl; omega) (by omega) (by omega) (by omega) (by omega) u2_i (by rw [u2_at, up_ne (by decide), u2_i])
  rw [Nat.zero_add] at g4
  rw [Nat.zero_add] at g1
  refine ⟨I', ?_, GM.trans ⟨fun c q1 _ => by rw [u2_ne q1, u2_ne q1], fun j hj => by rw [u2_at, up_ne (by omega), u2_at, up_ne (by omega)]⟩ g2, g4, g5, g6, g7, g8⟩
  unfold fX9_down
  rw [md_pZ hA (Or.inr rfl), md_p hA]
  exact g1
end TrailB
