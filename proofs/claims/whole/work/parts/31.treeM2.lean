/-- only the digest's and the waiting cells have changed -/
def MF2 (m : Nat) (I I' : Nat → Nat → Int32) : Prop := (∀ c, c ≠ m → (c < m + 32 ∨ m + 37 < c) → I' c = I c) ∧ ∀ j, j ≠ 42 → I' m j = I m j
theorem MF2.refl {m : Nat} {I : Nat → Nat → Int32} : MF2 m I I := ⟨fun _ _ _ => rfl, fun _ _ => rfl⟩
theorem MF2.trans {m : Nat} {I I' I'' : Nat → Nat → Int32} (h : MF2 m I I') (h' : MF2 m I' I'') : MF2 m I I'' := ⟨fun c a b => (h'.1 c a b).trans (h.1 c a b), fun j hj => (h'.2 j hj).trans (h.2 j hj)⟩
theorem MF.to2 {m : Nat} {I I' : Nat → Nat → Int32} (h : MF m I I') : MF2 m I I' := ⟨fun c a b => h.1 c a (by omega) (by omega) (by omega) (by omega), h.2⟩
theorem MF2.rnd {m : Nat} {I I' : Nat → Nat → Int32} (h : MF2 m I I') : I' (m + 31) = I (m + 31) := h.1 _ (by omega) (by omega)
theorem MF2.data {m : Nat} {I I' : Nat → Nat → Int32} (h : MF2 m I I') : I' (m + 19) = I (m + 19) := h.1 _ (by omega) (by omega)
theorem MF2.beg {m : Nat} {I I' : Nat → Nat → Int32} (h : MF2 m I I') : I' (m + 21) = I (m + 21) := h.1 _ (by omega) (by omega)
theorem MF2.siz {m : Nat} {I I' : Nat → Nat → Int32} (h : MF2 m I I') : I' (m + 22) = I (m + 22) := h.1 _ (by omega) (by omega)
theorem Stk.congr {m : Nat} {I I' : Nat → Nat → Int32} {lf : Nat → Nat → Int32} {f : Nat} : ∀ (es : List Nat), (∀ p, p < 32 * es.length → I' (m + 36) p = I (m + 36) p) → (∀ i, i < es.length → I' (m + 37) i = I (m + 37) i) → Stk I m lf f es → Stk I' m lf f es
  | [], _, _, _ => trivial
  | e :: r, h1, h2, h => by
    have hl : (e :: r).length = r.length + 1 := rfl
    refine ⟨⟨by rw [h2 r.length (by omega)]; exact h.1.1, fun j hj => by rw [h1 _ (by omega)]; exact h.1.2 j hj⟩, Stk.congr r (fun p hp => h1 p (by omega)) (fun i hi => h2 i (by omega)) h.2⟩
/-- what comes of the waiting trees at the end -/
def foldT (lf : Nat → Nat → Int32) (f : Nat) : (Nat → Int32) → List Nat → Nat → Int32
  | acc, [] => acc
  | acc, e :: r => foldT lf f (ndH (ctH lf e (f + sm2 r)) acc) r
section TreeM2
variable {N SL : Nat} {S : Nat → Shp} {R : Nat → Nat → Option Nat} {m : Nat}
/-- the hash is laid beside the waiting ones -/
theorem push_spec (hA : MdAt N S R m) (J : Nat → Nat → Int64) (lf : Nat → Nat → Int32) (f : Nat) (K : Nat → Int32 → Int32 → Int32 → Mem → Option (Unit × Mem)) (to i : Int32) (es : List Nat) (j : Nat) (I : Nat → Nat → Int32) (hl : es.length < 16) (hs : Stk I m lf f es) (hh : ∀ q, q < 32 → I (m + 35) q = hb (ctH lf j (f + sm2 es)) q) (h42 : I m 42 = nI 0) :
    ∃ I' : Nat → Nat → Int32, fX9_tree_54 K m to (nI es.length) i (nI (2 ^ j)) (N, SL, S, R, I, J) = K m to (nI (es.length + 1)) (i + (1 : Int32)) (N, SL, S, R, I', J) ∧ MF2 m I I' ∧ I' m 42 = nI 0 ∧ Stk I' m lf f (j :: es) := by
  obtain ⟨rz, sz, lz, nz⟩ := md_waitSize hA
  have ho := hA.1
  refine ⟨u2 (u1 I (m + 36) (fun p => if 32 * es.length ≤ p ∧ p < 32 * es.length + 32 then I (m + 35) (p - 32 * es.length) else I (m + 36) p)) (m + 37) es.length (nI (2 ^ j)), ?_, ⟨fun c a b => by rw [u2_ne (by omega), u1_ne (by omega)], fun q hq => by rw [u2_ne (by omega), u1_ne (by omega)]⟩, by rw [u2_ne (by omega), u1_ne (by omega)]; exact h42, ⟨⟨?_, fun q hq => ?_⟩, ?_⟩⟩
  · unfold fX9_tree_54
    rw [cV_mk ho, keepWait_spec hA I J es.length hl, bd_some, gR_mk ho rz, wI_mk lz nz sz (by omega) (by decide), vp_narI, nI_1]
  · rw [u2_row, u1_eq]
    exact if_pos rfl
  · rw [u2_ne (by omega), u1_eq, if_pos ⟨by omega, by omega⟩, show 32 * es.length + q - 32 * es.length = q by omega]
    exact hh q hq
  · refine Stk.congr es (fun p hp => ?_) (fun i hi => ?_) hs
    · rw [u2_ne (by omega), u1_eq, if_neg (by omega)]
    · rw [u2_row, u1_eq]
      show (if i = es.length then _ else u1 I (m + 36) _ (m + 37) i) = _
      rw [if_neg (by omega), u1_ne (by omega)]
theorem pow_inj_le {a b : Nat} (ha : a ≤ 8) (hb : b ≤ 8) : nI (2 ^ a) = nI (2 ^ b) ↔ a = b := by
  have h : ∀ a, a < 9 → ∀ b, b < 9 → (nI (2 ^ a) = nI (2 ^ b) ↔ a = b) := by decide +kernel
  exact h a (by omega) b (by omega)
theorem Inc.mono : ∀ (es : List Nat) {i j : Nat}, i ≤ j → Inc j es → Inc i es
  | [], _, _, _, _ => trivial
  | _ :: _, _, _, h, q => ⟨Nat.le_trans h q.1, q.2⟩
/-- a new tree joins the waiting ones of its size -/
theorem merge_spec (hA : MdAt N S R m) (J : Nat → Nat → Int64) (lf : Nat → Nat → Int32) (f : Nat) (K : Nat → Int32 → Int32 → Int32 → Mem → Option (Unit × Mem)) (to i : Int32) : ∀ (es : List Nat) (j : Nat) (I : Nat → Nat → Int32) (fuel : Nat), es.length < fuel → Inc 0 es → Inc j es → sm2 es + 2 ^ j ≤ 256 → (∀ q, q < 64 → I (m + 31) q = K0h q) → I m 42 = nI 0 → Stk I m lf f es → (∀ q, q < 32 → I (m + 35) q = hb (ctH lf j (f + sm2 es)) q) →
    ∃ (I' : Nat → Nat → Int32) (es' : List Nat), fX9_tree_20 K fuel m to (nI es.length) i (nI (2 ^ j)) (N, SL, S, R, I, J) = K m to (nI es'.length) (i + (1 : Int32)) (N, SL, S, R, I', J) ∧ MF2 m I I' ∧ I' m 42 = nI 0 ∧ Inc 0 es' ∧ Stk I' m lf f es' ∧ sm2 es' = sm2 es + 2 ^ j := by
  obtain ⟨rz, sz, lz, nz⟩ := md_waitSize hA
  have ho := hA.1
  intro es
  induction es with
  | nil =>
    intro j I fuel hf h0 hj hs hK h42 hst hh
    obtain ⟨y, rfl⟩ : ∃ y, fuel = y + 1 := ⟨fuel - 1, by omega⟩
    obtain ⟨I', g1, g2, g3, g4⟩ := push_spec (SL := SL) hA J lf f K to i [] j I (by decide) hst hh h42
    refine ⟨I', [j], ?_, g2, g3, ⟨Nat.zero_le _, trivial⟩, g4, rfl⟩
    rw [fX9_tree_20, if_pos (by decide)]
    exact g1
  | cons e r ih =>
    intro j I fuel hf h0 hj hs hK h42 hst hh
    obtain ⟨y, rfl⟩ : ∃ y, fuel = y + 1 := ⟨fuel - 1, by omega⟩
    have hs' : sm2 r + 2 ^ e + 2 ^ j ≤ 256 := hs
    have pj : 0 < 2 ^ j := Nat.two_pow_pos j
    have pe : 0 < 2 ^ e := Nat.two_pow_pos e
    have he8 : e ≤ 8 := pow_small (by omega)
    have hj8 : j ≤ 8 := pow_small (by omega)
    have hlen : (e :: r).length ≤ 9 := sm2_len h0 (by show sm2 r + 2 ^ e ≤ 256; omega)
    have hl1 : (e :: r).length = r.length + 1 := rfl
    rw [fX9_tree_20, if_neg (by rw [hl1]; exact nI_nle (by omega) (by omega)), hl1, nI_pred, pk_m1]
    rw [gR_mk ho rz, rI_mk lz sz (by omega) (by decide), hst.1.1]
    by_cases q : e = j
    · subst q
      rw [if_pos rfl]
      obtain ⟨I1, k1, k2, k3, k4⟩ := joins_D (SL := SL) hA I J hK h42 r.length (by omega) (ctH lf e (f + sm2 r)) (ctH lf e (f + sm2 (e :: r))) hst.1.2 hh
      rw [cV_mk ho, k1, bd_some, show (2 : Int32) * nI (2 ^ e) = nI (2 ^ (e + 1)) by rw [show (2 : Int32) = nI 2 from rfl, pk_mul, Nat.pow_succ, Nat.mul_comm]]
      have h36 : I1 (m + 36) = I (m + 36) := k2.1 _ (by omega) (by omega) (by omega) (by omega) (by omega)
      have h37 : I1 (m + 37) = I (m + 37) := k2.1 _ (by omega) (by omega) (by omega) (by omega) (by omega)
      obtain ⟨I', es', g1, g2, g3, g4, g5, g6⟩ := ih (e + 1) I1 y (by rw [hl1] at hf; omega) (Inc.mono r (Nat.zero_le _) h0.2) hj.2 (by rw [Nat.pow_succ]; omega) (fun q hq => by rw [k2.rnd]; exact hK q hq) k3 (Stk.congr r (fun p _ => by rw [h36]) (fun p _ => by rw [h37]) hst.2) (fun q hq => by
        rw [k4 q hq]
        show hb (ndH (ctH lf e (f + sm2 r)) (ctH lf e (f + (sm2 r + 2 ^ e)))) q = hb (ndH (ctH lf e (f + sm2 r)) (ctH lf e (f + sm2 r + 2 ^ e))) q
        rw [Nat.add_assoc])
      refine ⟨I', es', g1, k2.to2.trans g2, g3, g4, g5, ?_⟩
      rw [g6, Nat.pow_succ]
      show _ = sm2 r + 2 ^ e + 2 ^ e
      omega
    · rw [if_neg (fun h => q ((pow_inj_le he8 hj8).mp h))]
      obtain ⟨I', g1, g2, g3, g4⟩ := push_spec (SL := SL) hA J lf f K to i (e :: r) j I (by omega) hst hh h42
      refine ⟨I', j :: e :: r, g1, g2, g3, ⟨Nat.zero_le _, ?_⟩, g4, rfl⟩
      have := hj.1
      exact ⟨by omega, hj.2⟩
/-- the fold at the end -/
theorem fold_spec (hA : MdAt N S R m) (J : Nat → Nat → Int64) (lf : Nat → Nat → Int32) (f : Nat) : ∀ (es : List Nat) (acc : Nat → Int32) (I : Nat → Nat → Int32) (fuel : Nat), es.length < fuel → es.length < 16 → (∀ q, q < 64 → I (m + 31) q = K0h q) → I m 42 = nI 0 → Stk I m lf f es → (∀ q, q < 32 → I (m + 35) q = hb acc q) →
    ∃ I' : Nat → Nat → Int32, fX9_tree_123 fuel m (nI es.length) (N, SL, S, R, I, J) = some ((), (N, SL, S, R, I', J)) ∧ MF2 m I I' ∧ I' m 42 = nI 0 ∧ ∀ q, q < 32 → I' (m + 35) q = hb (foldT lf f acc es) q := by
  have ho := hA.1
  intro es
  induction es with
  | nil =>
    intro acc I fuel hf hl hK h42 hst hh
    obtain ⟨y, rfl⟩ : ∃ y, fuel = y + 1 := ⟨fuel - 1, by omega⟩
    exact ⟨I, by rw [fX9_tree_123, if_pos (by decide)], MF2.refl, h42, hh⟩
  | cons e r ih =>
    intro acc I fuel hf hl hK h42 hst hh
    obtain ⟨y, rfl⟩ : ∃ y, fuel = y + 1 := ⟨fuel - 1, by omega⟩
    have hl1 : (e :: r).length = r.length + 1 := rfl
    rw [hl1] at hf hl
    obtain ⟨I1, k1, k2, k3, k4⟩ := joins_D (SL := SL) hA I J hK h42 r.length (by omega) (ctH lf e (f + sm2 r)) acc hst.1.2 hh
    have h36 : I1 (m + 36) = I (m + 36) := k2.1 _ (by omega) (by omega) (by omega) (by omega) (by omega)
    have h37 : I1 (m + 37) = I (m + 37) := k2.1 _ (by omega) (by omega) (by omega) (by omega) (by omega)
    obtain ⟨I', g1, g2, g3, g4⟩ := ih (ndH (ctH lf e (f + sm2 r)) acc) I1 y (by omega) (by omega) (fun q hq => by rw [k2.rnd]; exact hK q hq) k3 (Stk.congr r (fun p _ => by rw [h36]) (fun p _ => by rw [h37]) hst.2) k4
    refine ⟨I', ?_, k2.to2.trans g2, g3, g4⟩
    rw [fX9_tree_123, if_neg (by rw [hl1]; exact nI_nle (by omega) (by omega)), hl1, pk_m1, cV_mk ho, k1, bd_some]
    exact g1
end TreeM2
