/-- the tree of n leaves (1 .. 2^j) from f on, as RFC 6962 cuts it -/
def tpH (lf : Nat → Nat → Int32) : Nat → Nat → Nat → Nat → Int32
  | 0, f, _ => lf f
  | j + 1, f, n => if n ≤ 2 ^ j then tpH lf j f n else ndH (ctH lf j f) (tpH lf j (f + 2 ^ j) (n - 2 ^ j))
/-- THE TREE of n leaves from f on -/
def treeH (lf : Nat → Nat → Int32) (f n : Nat) : Nat → Int32 := if n = 0 then D [] else tpH lf 8 f n
theorem tp_up {lf : Nat → Nat → Int32} {s f k : Nat} (h : k ≤ 2 ^ s) : ∀ d, tpH lf (s + d) f k = tpH lf s f k
  | 0 => rfl
  | d + 1 => by
    show (if k ≤ 2 ^ (s + d) then tpH lf (s + d) f k else _) = _
    rw [if_pos (Nat.le_trans h (Nat.pow_le_pow_right (by decide) (Nat.le_add_right _ _)))]
    exact tp_up h d
theorem tp_full {lf : Nat → Nat → Int32} : ∀ (e f : Nat), tpH lf e f (2 ^ e) = ctH lf e f
  | 0, _ => rfl
  | e + 1, f => by
    have h : 0 < 2 ^ e := Nat.two_pow_pos e
    show (if 2 ^ (e + 1) ≤ 2 ^ e then _ else ndH (ctH lf e f) (tpH lf e (f + 2 ^ e) (2 ^ (e + 1) - 2 ^ e))) = ndH (ctH lf e f) (ctH lf e (f + 2 ^ e))
    rw [if_neg (by rw [Nat.pow_succ]; omega), show 2 ^ (e + 1) - 2 ^ e = 2 ^ e by rw [Nat.pow_succ]; omega, tp_full e (f + 2 ^ e)]
theorem fold_tp {lf : Nat → Nat → Int32} {f B : Nat} : ∀ (r : List Nat) (s k : Nat), Inc s r → 0 < k → k ≤ 2 ^ s → s ≤ B → (∀ e ∈ r, e < B) → foldT lf f (tpH lf s (f + sm2 r) k) r = tpH lf B f (sm2 r + k)
  | [], s, k, _, _, hk, hB, _ => by
    show tpH lf s (f + 0) k = tpH lf B f (0 + k)
    rw [Nat.add_zero, Nat.zero_add, ← tp_up hk (B - s), show s + (B - s) = B by omega]
  | e :: r, s, k, hi, h0, hk, hB, he => by
    have h1 := hi.1
    have h2 := he e List.mem_cons_self
    have hke : k ≤ 2 ^ e := Nat.le_trans hk (Nat.pow_le_pow_right (by decide) h1)
    have ea : tpH lf s (f + (sm2 r + 2 ^ e)) k = tpH lf e (f + (sm2 r + 2 ^ e)) k := by
      rw [← tp_up hk (e - s), show s + (e - s) = e by omega]
    have eb : ndH (ctH lf e (f + sm2 r)) (tpH lf e (f + (sm2 r + 2 ^ e)) k) = tpH lf (e + 1) (f + sm2 r) (2 ^ e + k) := by
      show _ = (if 2 ^ e + k ≤ 2 ^ e then _ else ndH (ctH lf e (f + sm2 r)) (tpH lf e (f + sm2 r + 2 ^ e) (2 ^ e + k - 2 ^ e)))
      rw [if_neg (by omega), show 2 ^ e + k - 2 ^ e = k by omega, Nat.add_assoc]
    show foldT lf f (ndH (ctH lf e (f + sm2 r)) (tpH lf s (f + (sm2 r + 2 ^ e)) k)) r = tpH lf B f (sm2 r + 2 ^ e + k)
    rw [ea, eb, fold_tp r (e + 1) (2 ^ e + k) hi.2 (by omega) (by rw [Nat.pow_succ]; omega) (by omega) (fun x hx => he x (List.mem_cons_of_mem _ hx)), Nat.add_assoc]
theorem fold_tree {lf : Nat → Nat → Int32} {f e : Nat} {r : List Nat} (h : Inc 0 (e :: r)) (hs : sm2 (e :: r) ≤ 256) : foldT lf f (ctH lf e (f + sm2 r)) r = treeH lf f (sm2 (e :: r)) := by
  have pe : 0 < 2 ^ e := Nat.two_pow_pos e
  have hm : ∀ x ∈ e :: r, x ≤ 8 := fun x hx => pow_small (Nat.le_trans (sm2_mem _ x hx) hs)
  have he := hm e List.mem_cons_self
  have hn : sm2 (e :: r) = sm2 r + 2 ^ e := rfl
  rw [← tp_full e (f + sm2 r)]
  have hi : Inc e r := Inc.mono r (Nat.le_succ e) h.2
  rw [fold_tp (B := 9) r e (2 ^ e) hi pe (Nat.le_refl _) (by omega) (fun x hx => by have := hm x (List.mem_cons_of_mem _ hx); omega)]
  unfold treeH
  rw [if_neg (by omega), hn]
  exact tp_up (s := 8) (by omega) 1
section TreeM3
variable {N SL : Nat} {S : Nat → Shp} {R : Nat → Nat → Option Nat} {m : Nat}
theorem take_loop (hA : MdAt N S R m) (J : Nat → Nat → Int64) (w : Nat) (hw : w < 16) : ∀ (q k : Nat) (I : Nat → Nat → Int32) (fuel : Nat), k + q = 32 → q < fuel → (∀ j, j < k → I (m + 35) j = I (m + 36) (32 * w + j)) →
    ∃ row : Nat → Int32, fX9_tree_91 fuel m (nI w) (nI k) (N, SL, S, R, I, J) = fX9_tree_123 FU m (nI w) (N, SL, S, R, u1 I (m + 35) row, J) ∧ ∀ j, j < 32 → row j = I (m + 36) (32 * w + j) := by
  obtain ⟨rh, sh, lh, nh⟩ := md_hash hA
  obtain ⟨rw_, sw, lw, nw⟩ := md_waits hA
  have ho := hA.1
  intro q
  induction q with
  | zero =>
    intro k I fuel hk hf hI
    obtain ⟨y, rfl⟩ : ∃ y, fuel = y + 1 := ⟨fuel - 1, by omega⟩
    have hk : k = 32 := by omega
    subst hk
    exact ⟨I (m + 35), by rw [fX9_tree_91, if_pos (by decide), u1_self], hI⟩
  | succ q ih =>
    intro k I fuel hk hf hI
    obtain ⟨y, rfl⟩ : ∃ y, fuel = y + 1 := ⟨fuel - 1, by omega⟩
    have ei : (32 : Int32) * nI w + nI k = nI (32 * w + k) := by rw [show (32 : Int32) = nI 32 from rfl, pk_mul, nI_add]
    have ea : u2 I (m + 35) k (I (m + 36) (32 * w + k)) (m + 36) = I (m + 36) := u2_ne (by omega)
    obtain ⟨row, g1, g2⟩ := ih (k + 1) (u2 I (m + 35) k (I (m + 36) (32 * w + k))) y (by omega) (by omega) (fun j hj => by
      rw [ea, u2_row, u1_eq]
      show (if j = k then _ else I (m + 35) j) = _
      by_cases z : j = k
      · rw [if_pos z, z]
      · rw [if_neg z, hI j (by omega)])
    rw [ea] at g2
    refine ⟨row, ?_, g2⟩
    rw [fX9_tree_91, if_neg (show ¬ (32 : Int32) ≤ nI k from nI_lt_of (k := 32) (by decide) (by omega)), ei, gR_mk ho rh, gR_mk ho rw_, rI_mk lw sw (by omega) (by decide), wI_mk lh nh sh (by omega) (by decide), vp_narI, nI_1, g1, u2_row, u1_u1]
/-- an entry's bytes in the reference, the leaf over them -/
def byM (D0 : Nat → Int32) (bg sz : Nat → Nat) (i : Nat) : List Int32 := (List.range (sz i)).map (fun k => D0 (bg i + k))
def lfM (D0 : Nat → Int32) (bg sz : Nat → Nat) (i : Nat) : Nat → Int32 := D (0 :: byM D0 bg sz i)
theorem tree_loop (hA : MdAt N S R m) (J : Nat → Nat → Int64) (f t : Nat) (ht : t ≤ 200) (bg sz : Nat → Nat) (hb1 : ∀ i, i < t → bg i + sz i ≤ 17000 ∧ sz i < 119) (D0 : Nat → Int32) : ∀ (q i : Nat) (es : List Nat) (I : Nat → Nat → Int32) (fuel : Nat), i + q = t → q < fuel → i = f + sm2 es → Inc 0 es → Stk I m (lfM D0 bg sz) f es → (∀ j, j < 64 → I (m + 31) j = K0h j) → I m 42 = nI 0 → I (m + 19) = D0 → (∀ i, i < t → I (m + 21) i = nI (bg i) ∧ I (m + 22) i = nI (sz i)) →
    ∃ I' : Nat → Nat → Int32, fX9_tree_5 fuel m (nI t) (nI es.length) (nI i) (N, SL, S, R, I, J) = some ((), (N, SL, S, R, I', J)) ∧ MF2 m I I' ∧ I' m 42 = nI 0 ∧ ∀ j, j < 32 → I' (m + 35) j = hb (treeH (lfM D0 bg sz) f (t - f)) j := by
  have ho := hA.1
  intro q
  induction q with
  | zero =>
    intro i es I fuel hi hf hes hinc hst hK h42 hd hbz
    obtain ⟨y, rfl⟩ : ∃ y, fuel = y + 1 := ⟨fuel - 1, by omega⟩
    have hit : i = t := by omega
    subst hit
    rw [fX9_tree_5, if_pos ((nI_leI (by omega) (by omega)).mpr (Nat.le_refl _))]
    match es, hes, hinc, hst with
    | [], hes, _, _ =>
      have hz : i - f = 0 := by rw [hes]; show f + 0 - f = 0; omega
      obtain ⟨I', g1, g2, g3, g4⟩ := sum_D (SL := SL) hA I J hK [] (by decide) (I (m + 32)) (fun i hi => absurd hi (by simp))
      have e0 : (N, SL, S, R, I, J) = ((N, SL, S, R, smI I m (I (m + 32)) 0, J) : Mem) := by rw [sm_self h42]
      refine ⟨I', ?_, g2.to2, g3, fun j hj => by rw [g4 j hj, hz]; rfl⟩
      have g1 : fX9_sum m (N, SL, S, R, smI I m (I (m + 32)) 0, J) = some ((), (N, SL, S, R, I', J)) := g1
      rw [if_pos (show nI ([] : List Nat).length = 0 from rfl), e0, cV_mk ho, g1, bd_some]
    | e :: r, hes, hinc, hst =>
      have hsm : sm2 (e :: r) ≤ 256 := by omega
      have hl9 := sm2_len hinc hsm
      have hl1 : (e :: r).length = r.length + 1 := rfl
      obtain ⟨row, g1, g2⟩ := take_loop (SL := SL) hA J r.length (by omega) 32 0 I FU rfl (by decide) (fun j hj => absurd hj (by omega))
      obtain ⟨I', k1, k2, k3, k4⟩ := fold_spec (SL := SL) hA J (lfM D0 bg sz) f r (ctH (lfM D0 bg sz) e (f + sm2 r)) (u1 I (m + 35) row) FU (by unfold FU; omega) (by omega) (fun q hq => by rw [u1_ne (by omega)]; exact hK q hq) (by rw [u1_ne (by omega)]; exact h42) (Stk.congr r (fun p _ => by rw [u1_ne (by omega)]) (fun p _ => by rw [u1_ne (by omega)]) hst.2) (fun q hq => by rw [u1_eq, g2 q hq]; exact hst.1.2 q hq)
      have hF : MF2 m I (u1 I (m + 35) row) := ⟨fun c _ b => u1_ne (by omega), fun j _ => by rw [u1_ne (by omega)]⟩
      refine ⟨I', ?_, hF.trans k2, k3, fun j hj => ?_⟩
      · rw [if_neg (by rw [hl1]; exact nI_ne0 (by omega) (by omega)), hl1, pk_m1, show (0 : Int32) = nI 0 from rfl, g1]
        exact k1
      · rw [k4 j hj, fold_tree hinc hsm, show i - f = sm2 (e :: r) by omega]
  | succ q ih =>
    intro i es I fuel hi hf hes hinc hst hK h42 hd hbz
    obtain ⟨y, rfl⟩ : ∃ y, fuel = y + 1 := ⟨fuel - 1, by omega⟩
    obtain ⟨I1, g1, g2, g3, g4⟩ := leaf_D (SL := SL) hA I J hK h42 i (bg i) (sz i) (by omega) (hbz i (by omega)).1 (hbz i (by omega)).2 (hb1 i (by omega)).1 (hb1 i (by omega)).2
    have h36 : I1 (m + 36) = I (m + 36) := g2.1 _ (by omega) (by omega) (by omega) (by omega) (by omega)
    have h37 : I1 (m + 37) = I (m + 37) := g2.1 _ (by omega) (by omega) (by omega) (by omega) (by omega)
    have hl9 := sm2_len hinc (by omega)
    obtain ⟨I2, es', k1, k2, k3, k4, k5, k6⟩ := merge_spec (SL := SL) hA J (lfM D0 bg sz) f (fX9_tree_5 y) (nI t) (nI i) es 0 I1 FU (by unfold FU; omega) hinc hinc (by show sm2 es + 1 ≤ 256; omega) (fun j hj => by rw [g2.rnd]; exact hK j hj) g3 (Stk.congr es (fun p _ => by rw [h36]) (fun p _ => by rw [h37]) hst) (fun j hj => by
      rw [g4 j hj]
      unfold bysM
      rw [hd, ← hes]
      rfl)
    have hF := g2.to2.trans k2
    obtain ⟨I3, j1, j2, j3, j4⟩ := ih (i + 1) es' I2 y (by omega) (by omega) (by rw [k6]; show i + 1 = f + (sm2 es + 1); omega) k4 k5 (fun j hj => by rw [hF.rnd]; exact hK j hj) k3 (by rw [hF.data]; exact hd) (fun i hi => by rw [hF.beg, hF.siz]; exact hbz i hi)
    refine ⟨I3, ?_, hF.trans j2, j3, j4⟩
    rw [fX9_tree_5, if_neg (nI_lt_of (k := t) (by omega) (by omega)), cV_mk ho, g1, bd_some]
    refine Eq.trans (b := fX9_tree_20 (fX9_tree_5 y) FU m (nI t) (nI es.length) (nI i) (nI (2 ^ 0)) (N, SL, S, R, I1, J)) rfl ?_
    rw [k1, nI_1]
    exact j1
/-- tree(from, to) -/
theorem tree_D (hA : MdAt N S R m) (I : Nat → Nat → Int32) (J : Nat → Nat → Int64) (f t : Nat) (hft : f ≤ t) (ht : t ≤ 200) (bg sz : Nat → Nat) (hb1 : ∀ i, i < t → bg i + sz i ≤ 17000 ∧ sz i < 119) (hK : ∀ j, j < 64 → I (m + 31) j = K0h j) (h42 : I m 42 = nI 0) (hbz : ∀ i, i < t → I (m + 21) i = nI (bg i) ∧ I (m + 22) i = nI (sz i)) :
    ∃ I' : Nat → Nat → Int32, fX9_tree m (nI f) (nI t) (N, SL, S, R, I, J) = some ((), (N, SL, S, R, I', J)) ∧ MF2 m I I' ∧ I' m 42 = nI 0 ∧ ∀ j, j < 32 → I' (m + 35) j = hb (treeH (lfM (I (m + 19)) bg sz) f (t - f)) j :=
  tree_loop hA J f t ht bg sz hb1 (I (m + 19)) (t - f) f [] I FU (by omega) (by unfold FU; omega) rfl trivial trivial hK h42 rfl hbz
end TreeM3
