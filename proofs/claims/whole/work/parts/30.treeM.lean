-- P4, reference: chain(n) whole, keepWait, the waiting hashes of tree
/-- the tree of 2^j leaves from f on -/
def ctH (lf : Nat → Nat → Int32) : Nat → Nat → Nat → Int32
  | 0, f => lf f
  | j + 1, f => ndH (ctH lf j f) (ctH lf j (f + 2 ^ j))
def sm2 : List Nat → Nat
  | [] => 0
  | e :: r => sm2 r + 2 ^ e
/-- the waiting trees, the latest first: 2^e leaves each -/
def Stk (I : Nat → Nat → Int32) (m : Nat) (lf : Nat → Nat → Int32) (f : Nat) : List Nat → Prop
  | [] => True
  | e :: r => (I (m + 37) r.length = nI (2 ^ e) ∧ ∀ j, j < 32 → I (m + 36) (32 * r.length + j) = hb (ctH lf e (f + sm2 r)) j) ∧ Stk I m lf f r
def Inc : Nat → List Nat → Prop
  | _, [] => True
  | j, e :: r => j ≤ e ∧ Inc (e + 1) r
theorem Inc.len : ∀ (es : List Nat) (j B : Nat), Inc j es → (∀ e ∈ es, e ≤ B) → j ≤ B + 1 → j + es.length ≤ B + 1
  | [], _, _, _, _, h => h
  | e :: r, j, B, h, hB, _ => by
    have h1 := Inc.len r (e + 1) B h.2 (fun x hx => hB x (List.mem_cons_of_mem _ hx)) (by have := hB e List.mem_cons_self; omega)
    have := h.1
    simp only [List.length_cons]
    omega
theorem sm2_mem : ∀ (es : List Nat) (e : Nat), e ∈ es → 2 ^ e ≤ sm2 es
  | [], _, h => absurd h List.not_mem_nil
  | x :: r, e, h => by
    rcases List.mem_cons.mp h with rfl | h
    · exact Nat.le_add_left _ _
    · exact Nat.le_trans (sm2_mem r e h) (Nat.le_add_right _ _)
theorem pow_small {e : Nat} (h : 2 ^ e ≤ 256) : e ≤ 8 := by
  rcases Nat.lt_or_ge 8 e with q | q
  · have := Nat.pow_le_pow_right (show 0 < 2 by decide) (show 9 ≤ e from q)
    omega
  · exact q
theorem sm2_len {es : List Nat} (h : Inc 0 es) (hs : sm2 es ≤ 256) : es.length ≤ 9 := by
  have := Inc.len es 0 8 h (fun e he => pow_small (Nat.le_trans (sm2_mem es e he) hs)) (by omega)
  omega
section TreeM
variable {N SL : Nat} {S : Nat → Shp} {R : Nat → Nat → Option Nat} {m : Nat}
theorem zeroH_loop (hA : MdAt N S R m) (J : Nat → Nat → Int64) (L : Int32) : ∀ (q k : Nat) (I : Nat → Nat → Int32) (fuel : Nat), k + q = 32 → q < fuel → (∀ j, j < k → I (m + 35) j = 0) →
    ∃ row : Nat → Int32, fX9_chain_2 fuel m L (nI k) (N, SL, S, R, I, J) = fX9_chain_23 FU m L (nI 0) (N, SL, S, R, u1 I (m + 35) row, J) ∧ ∀ j, j < 32 → row j = 0 := by
  obtain ⟨rh, sh, lh, nh⟩ := md_hash hA
  have ho := hA.1
  intro q
  induction q with
  | zero =>
    intro k I fuel hk hf hI
    obtain ⟨y, rfl⟩ : ∃ y, fuel = y + 1 := ⟨fuel - 1, by omega⟩
    have hk : k = 32 := by omega
    subst hk
    exact ⟨I (m + 35), by rw [fX9_chain_2, if_pos (by decide), u1_self]; rfl, hI⟩
  | succ q ih =>
    intro k I fuel hk hf hI
    obtain ⟨y, rfl⟩ : ∃ y, fuel = y + 1 := ⟨fuel - 1, by omega⟩
    obtain ⟨row, g1, g2⟩ := ih (k + 1) (u2 I (m + 35) k 0) y (by omega) (by omega) (fun j hj => by
      rw [u2_row, u1_eq]
      show (if j = k then _ else I (m + 35) j) = _
      by_cases y : j = k
      · rw [if_pos y]
      · rw [if_neg y, hI j (by omega)])
    refine ⟨row, ?_, g2⟩
    rw [fX9_chain_2, if_neg (show ¬ (32 : Int32) ≤ nI k from nI_lt_of (k := 32) (by decide) (by omega)), gR_mk ho rh, wI_mk lh nh sh (by omega) (by decide), vp_narI, nI_1, g1, u2_row, u1_u1]
/-- chain(n) -/
theorem chain_D (hA : MdAt N S R m) (I : Nat → Nat → Int32) (J : Nat → Nat → Int64) (n : Nat) (hn : n ≤ 200) (bg sz : Nat → Nat) (hb1 : ∀ i, i < n → bg i + sz i ≤ 17000 ∧ sz i < 87) (hK : ∀ j, j < 64 → I (m + 31) j = K0h j) (h42 : I m 42 = nI 0) (hbs_ : ∀ i, i < n → I (m + 21) i = nI (bg i) ∧ I (m + 22) i = nI (sz i)) :
    ∃ I' : Nat → Nat → Int32, fX9_chain m (nI n) (N, SL, S, R, I, J) = some ((), (N, SL, S, R, I', J)) ∧ MF m I I' ∧ I' m 42 = nI 0 ∧ ∀ j, j < 32 → I' (m + 35) j = hb (chH (fun i => (List.range (sz i)).map (fun k => I (m + 19) (bg i + k))) n) j := by
  obtain ⟨row, g1, g2⟩ := zeroH_loop (SL := SL) hA J (nI n) 32 0 I FU rfl (by decide) (fun j hj => absurd hj (by omega))
  have hF : MF m I (u1 I (m + 35) row) := ⟨fun c _ _ _ _ e => u1_ne e, fun j _ => by rw [u1_ne (by omega)]⟩
  obtain ⟨I', k1, k2, k3, k4⟩ := chain_loop (SL := SL) hA J n hn bg sz hb1 (I (m + 19)) n 0 (u1 I (m + 35) row) FU (by omega) (by unfold FU; omega) (fun j hj => by rw [hF.rnd]; exact hK j hj) (by rw [u1_ne (by omega)]; exact h42) hF.data (fun i hi => by rw [hF.beg, hF.siz]; exact hbs_ i hi) (fun j hj => by
    rw [u1_eq, g2 j hj]
    exact hb_zero.symm)
  refine ⟨I', ?_, hF.trans k2, k3, k4⟩
  unfold fX9_chain
  rw [show (0 : Int32) = nI 0 from rfl, g1]
  exact k1
theorem keep_loop (hA : MdAt N S R m) (J : Nat → Nat → Int64) (w : Nat) (hw : w < 16) (o : Nat → Int32) : ∀ (q k : Nat) (I : Nat → Nat → Int32) (fuel : Nat), k + q = 32 → q < fuel → (∀ p, I (m + 36) p = if 32 * w ≤ p ∧ p < 32 * w + k then I (m + 35) (p - 32 * w) else o p) →
    fX9_keepWait_2 fuel m (nI w) (nI k) (N, SL, S, R, I, J) = some ((), (N, SL, S, R, u1 I (m + 36) (fun p => if 32 * w ≤ p ∧ p < 32 * w + 32 then I (m + 35) (p - 32 * w) else o p), J)) := by
  obtain ⟨rh, sh, lh, nh⟩ := md_hash hA
  obtain ⟨rw_, sw, lw, nw⟩ := md_waits hA
  have ho := hA.1
  intro q
  induction q with
  | zero =>
    intro k I fuel hk hf hI
    obtain ⟨y, rfl⟩ : ∃ y, fuel = y + 1 := ⟨fuel - 1, by omega⟩
    have hk : k = 32 := by omega
    subst hk
    have e : (fun p => if 32 * w ≤ p ∧ p < 32 * w + 32 then I (m + 35) (p - 32 * w) else o p) = I (m + 36) := (funext hI).symm
    rw [fX9_keepWait_2, if_pos (by decide), e, u1_self]
  | succ q ih =>
    intro k I fuel hk hf hI
    obtain ⟨y, rfl⟩ : ∃ y, fuel = y + 1 := ⟨fuel - 1, by omega⟩
    have ei : (32 : Int32) * nI w + nI k = nI (32 * w + k) := by rw [show (32 : Int32) = nI 32 from rfl, pk_mul, nI_add]
    have ea : u2 I (m + 36) (32 * w + k) (I (m + 35) k) (m + 35) = I (m + 35) := u2_ne (by omega)
    rw [fX9_keepWait_2, if_neg (show ¬ (32 : Int32) ≤ nI k from nI_lt_of (k := 32) (by decide) (by omega)), ei, gR_mk ho rw_, gR_mk ho rh, rI_mk lh sh (by omega) (by decide), wI_mk lw nw sw (by omega) (by decide), vp_narI, nI_1]
    rw [ih (k + 1) (u2 I (m + 36) (32 * w + k) (I (m + 35) k)) y (by omega) (by omega) (fun p => by
      rw [ea, u2_row, u1_eq]
      show (if p = 32 * w + k then _ else I (m + 36) p) = _
      by_cases z : p = 32 * w + k
      · rw [if_pos z, if_pos ⟨by omega, by omega⟩, z, show 32 * w + k - 32 * w = k by omega]
      · rw [if_neg z, hI p]
        by_cases z2 : 32 * w ≤ p ∧ p < 32 * w + k
        · rw [if_pos z2, if_pos ⟨z2.1, by omega⟩]
        · rw [if_neg z2, if_neg (fun h => z2 ⟨h.1, by omega⟩)])]
    rw [ea, u2_row, u1_u1]
theorem keepWait_spec (hA : MdAt N S R m) (I : Nat → Nat → Int32) (J : Nat → Nat → Int64) (w : Nat) (hw : w < 16) : fX9_keepWait m (nI w) (N, SL, S, R, I, J) = some ((), (N, SL, S, R, u1 I (m + 36) (fun p => if 32 * w ≤ p ∧ p < 32 * w + 32 then I (m + 35) (p - 32 * w) else I (m + 36) p), J)) :=
  keep_loop hA J w hw (I (m + 36)) 32 0 I FU rfl (by decide) (fun p => by rw [if_neg (by omega)])
end TreeM
