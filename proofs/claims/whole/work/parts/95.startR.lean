-- P2: the state at the law's start
def s00 : Stt := (emptyL, 0, noL, (fun _ => 0), (fun _ => none), (fun _ => none), none)
theorem lkI_ne {c : Nat} : ∀ {r : List (Nat × Nat × Int32)}, (∀ q ∈ r, q.1 ≠ c) → ∀ f, lkI r c f = none
  | [], h, f => rfl
  | q :: r, h, f => by
    have := h q (List.mem_cons_self ..)
    rw [lkI_c, if_neg (fun z => this z.1.symm)]
    exact lkI_ne (fun z hz => h z (List.mem_cons_of_mem _ hz)) f
section StartR
variable {L : Nat} {I0 : Nat → Nat → Int32} {s : Ab}
theorem i_z (h2 : Lay2 s) {c : Nat} (h : c ∈ zCs) (f : Nat) : mI (Rp L I0 s) c f = 0 := by
  show (lkI s.2.2.2.2.1 c f).getD (if inZ s.2.2.2.2.2 c = true then 0 else I0 c f) = 0
  rw [lkI_ne (h2.1 c h), if_pos (h2.2.1 c h)]
  rfl
theorem i_n (h2 : Lay2 s) {c : Nat} (h : c ∈ [0, 1, 2]) (f : Nat) : mI (Rp L I0 s) c f = I0 c f := by
  show (lkI s.2.2.2.2.1 c f).getD (if inZ s.2.2.2.2.2 c = true then 0 else I0 c f) = _
  rw [lkI_ne (h2.2.2.1 c h), if_neg (by rw [h2.2.2.2.1 c h]; decide)]
  rfl
theorem i_v {c f : Nat} {v : Int32} (h : lkI s.2.2.2.2.1 c f = some v) : mI (Rp L I0 s) c f = v := by
  show (lkI s.2.2.2.2.1 c f).getD _ = v
  rw [h]
  rfl
theorem rep_z (h : Lay2 s) {b : Nat} (h1 : b ∈ zCs) (h2 : b + 6 ∈ zCs) : CRep b (mI (Rp L I0 s)) (fun _ _ => 0) emptyL :=
  ⟨⟨i_z h h1 4, i_z h h1 12, i_z h h1 16, i_z h h1 17, i_z h h1 15⟩, fun a ha => absurd ha (Nat.not_lt_zero _), fun i _ => i_z h h2 i, fun i hi => absurd hi (Nat.not_lt_zero _), fun k hk => absurd hk (Nat.not_lt_zero _)⟩
end StartR
theorem s00_ok : RP s00 := ⟨empty_inv, fun x => absurd x.1 (by decide), fun k => (by decide : 0 < 256), fun k hk => absurd hk (Nat.not_lt_zero _), fun k n c t h => (by cases h), trivial⟩
theorem begin_C {s : Ab} (hs : Lay2 s) (L : Nat) (xs : Nat → Int32) : RC (mI (Rp L (mI (M00 L xs)) s)) (fun _ _ => 0) s00 := by
  refine ⟨⟨rep_z hs (by decide) (by decide), ⟨i_z hs (c := 21) (by decide) 2, by decide, fun k hk => absurd hk (Nat.not_lt_zero _)⟩, fun i hi => i_v (hs.2.2.2.2.1 i (by omega)), i_z hs (c := 25) (by decide) 2, fun k hk => absurd hk (Nat.not_lt_zero _), ⟨⟨fun i _ => i_z hs (c := 25 + 2) (by decide) i, fun i hi => absurd hi (Nat.not_lt_zero _)⟩, ⟨fun j _ => ?_, fun j _ => ?_⟩, fun h pos _ _ _ q => absurd (i_z hs (c := 25 + 666) (by decide) _) q⟩, 0, Nat.le_refl _, i_z hs (c := 25) (by decide) 5, fun i hi j _ => ?_⟩, fun k hk => ⟨fun _ => i_v (hs.2.2.2.2.2.1 k hk), fun n c t h => (by cases h)⟩, ⟨i_z hs (c := 717) (by decide) 1, i_z hs (c := 717) (by decide) 2⟩, emptyL, rep_z hs (by decide) (by decide), rfl⟩
  · rw [i_n hs (by decide)]; rfl
  · rw [i_n hs (by decide)]; rfl
  · have e : i = 0 := Nat.le_zero.mp hi
    subst e
    exact i_z hs (c := 25 + 8 + 0) (by decide) j
theorem begin_M {s : Ab} (hs : Lay2 s) (L : Nat) (xs : Nat → Int32) : RM (mI (Rp L (mI (M00 L xs)) s)) (fun _ _ => 0) s00 := by
  refine ⟨⟨⟨⟨i_z hs (c := 759 + 1) (by decide) 0, i_z hs (c := 759 + 2) (by decide) 0, i_z hs (c := 759 + 3) (by decide) 0, i_z hs (c := 759 + 4) (by decide) 0⟩, fun a ha => absurd ha (Nat.not_lt_zero _), fun i hi => absurd hi (Nat.not_lt_zero _)⟩, ⟨i_z hs (c := 759) (by decide) 20, fun i hi => absurd hi (Nat.not_lt_zero _), fun k hk => absurd hk (Nat.not_lt_zero _)⟩, fun k hk => absurd hk (Nat.not_lt_zero _), ⟨i_z hs (c := 759) (by decide) 37, by decide, fun k hk => absurd hk (Nat.not_lt_zero _)⟩, 0, (fun _ => 0), (fun _ => 0), i_z hs (c := 759) (by decide) 25, fun k hk => absurd hk (Nat.not_lt_zero _), fun k hk => absurd hk (Nat.not_lt_zero _), fun i q => absurd rfl q⟩, fun k hk => ⟨fun _ => i_z hs (c := 798) (by decide) k, fun n c t h => (by cases h)⟩, i_z hs (c := 759) (by decide) 52, fun j hj => i_v (hs.2.2.2.2.2.2.1 j hj), i_z hs (c := 759) (by decide) 42⟩
theorem begin_2 {s : Ab} (hs : Lay2 s) (L : Nat) (xs : Nat → Int32) : mI (Rp L (mI (M00 L xs)) s) 2 = xs := by
  funext j
  rw [i_n hs (by decide)]
  rfl
theorem begin_S {s : Ab} (hs : Lay2 s) (L : Nat) (I0 : Nat → Nat → Int32) : mSh (Rp L I0 s) 2 = .inl (.int, L) := by
  show (lk1 s.2.2.1 2).getD _ = _
  rw [hs.2.2.2.2.2.2.2]
  rfl
