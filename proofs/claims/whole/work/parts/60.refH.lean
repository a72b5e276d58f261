-- P3, reference: writes, trial, calls
/-- only the bytes of ledger 0 have changed -/
def WF (m : Nat) (I I' : Nat → Nat → Int32) : Prop := (∀ c, c ≠ m → (c < m + 19 ∨ m + 22 < c) → I' c = I c) ∧ ∀ j, j ≠ 20 → I' m j = I m j
/-- only ledger 0, the call and the bytes have changed (ledger 1 may have) -/
def OF (m : Nat) (I I' : Nat → Nat → Int32) (J J' : Nat → Nat → Int64) : Prop := (∀ c, (c < m ∨ m + 28 < c ∨ c = m + 23 ∨ c = m + 24) → I' c = I c) ∧ (∀ j, j ≠ 20 → (j < 26 ∨ 35 < j) → I' m j = I m j) ∧ ∀ c, (c < m ∨ m + 28 < c) → J' c = J c
theorem WF.trans {m : Nat} {I I' I'' : Nat → Nat → Int32} (h : WF m I I') (h' : WF m I' I'') : WF m I I'' := ⟨fun c a b => (h'.1 c a b).trans (h.1 c a b), fun j hj => (h'.2 j hj).trans (h.2 j hj)⟩
theorem OF.refl {m : Nat} {I : Nat → Nat → Int32} {J : Nat → Nat → Int64} : OF m I I J J := ⟨fun _ _ => rfl, fun _ _ _ => rfl, fun _ _ => rfl⟩
theorem OF.trans {m : Nat} {I I' I'' : Nat → Nat → Int32} {J J' J'' : Nat → Nat → Int64} (h : OF m I I' J J') (h' : OF m I' I'' J' J'') : OF m I I'' J J'' := ⟨fun c a => (h'.1 c a).trans (h.1 c a), fun j a b => (h'.2.1 j a b).trans (h.2.1 j a b), fun c a => (h'.2.2 c a).trans (h.2.2 c a)⟩
theorem KF.of {m : Nat} {I I' : Nat → Nat → Int32} {J J' : Nat → Nat → Int64} (h : KF m I I' J J') : OF m I I' J J' := ⟨fun c a => h.1 c (by omega) (by omega), fun j _ b => h.2.1 j b, fun c a => h.2.2.1 c (by omega) (by omega) (by omega)⟩
theorem WF.of {m : Nat} {I I' : Nat → Nat → Int32} {J : Nat → Nat → Int64} (h : WF m I I') : OF m I I' J J := ⟨fun c a => h.1 c (by omega) (by omega), fun j a _ => h.2 j a, fun _ _ => rfl⟩
theorem FZ.of {m z : Nat} {I I' : Nat → Nat → Int32} {J J' : Nat → Nat → Int64} (h : FZ m z I I' J J') : OF m I I' J J' := by
  have no : ∀ c j, (c < m + 1 ∨ m + 18 < c) → ¬ Own m z c j := fun c j q => by unfold Own Hf; omega
  exact ⟨fun c a => funext fun j => h.1 c j (no c j (by omega)), fun j _ _ => h.1 m j (no m j (by omega)), fun c a => funext fun j => h.2 c j (no c j (by omega))⟩
theorem WF.call {m : Nat} {I I' : Nat → Nat → Int32} {J : Nat → Nat → Int64} {kd : Nat} {key : Int64} {n : Nat} {lg : Nat → Nat × Int64} {e a : Int32} {v : Int64} (h : WF m I I') (hc : CallOk I J m kd key n lg e a v) : CallOk I' J m kd key n lg e a v := by
  obtain ⟨h1, h2, h3, h4, h5, h6⟩ := hc
  exact ⟨by rw [h.2 _ (by decide)]; exact h1, h2, ⟨by rw [h.2 _ (by decide)]; exact h3.1, h3.2.1, fun k hk => by rw [h.1 _ (by omega) (by omega)]; exact h3.2.2 k hk⟩, by rw [h.2 _ (by decide)]; exact h4, by rw [h.2 _ (by decide)]; exact h5, h6⟩
theorem WF.rep {m z : Nat} {I I' : Nat → Nat → Int32} {J : Nat → Nat → Int64} {L : Lg} (h : WF m I I') (hr : MRep m z I J L) : MRep m z I' J L := by
  unfold MRep MEnt
  rw [h.1 (m + 1) (by omega) (by omega), h.1 (m + 2) (by omega) (by omega), h.1 (m + 3) (by omega) (by omega), h.1 (m + 4) (by omega) (by omega), h.1 (m + 10) (by omega) (by omega), h.1 (m + 12) (by omega) (by omega), h.1 (m + 13) (by omega) (by omega), h.1 (m + 15) (by omega) (by omega), h.1 (m + 17) (by omega) (by omega), h.1 (m + 18) (by omega) (by omega)]
  exact hr
/-- the bytes as they are now: nw, the first T of them -/
def DaOk (m : Nat) (I : Nat → Nat → Int32) (nw : Nat → Nat) (T : Nat) : Prop := ∀ k, k < T → I (m + 19) k = nI (nw k)
/-- the bytes behind T come from the ledger -/
def nwU (nw : Nat → Nat) (T : Nat) (L : Lg) : Nat → Nat := fun k => if k < T then nw k else L.yb k
theorem MBy.same {m : Nat} {I : Nat → Nat → Int32} {L L' : Lg} (h : MBy m I L) (e1 : L'.ne = L.ne) (e2 : L'.yb = L.yb) (e3 : L'.st = L.st) : MBy m I L' := by
  unfold MBy
  rw [e1, e2, e3]
  exact h
theorem MBy.congr {m : Nat} {I I' : Nat → Nat → Int32} {L : Lg} (h : MBy m I L) (f : ∀ c, m + 20 ≤ c → c ≤ m + 22 → I' c = I c) (g : I' m 20 = I m 20) : MBy m I' L := by
  unfold MBy
  rw [f (m + 20) (by omega) (by omega), f (m + 21) (by omega) (by omega), f (m + 22) (by omega) (by omega), g]
  exact h
section RefH
variable {N SL : Nat} {S : Nat → Shp} {R : Nat → Nat → Option Nat} {m z : Nat}
set_option maxHeartbeats 4000000 in
theorem writes_loop (hA : MdAt N S R m) (J : Nat → Nat → Int64) (l : List Nat) (T : Nat) (hT : T + l.length ≤ 17000) (hl : l.length ≤ 100) : ∀ (q k fuel : Nat) (I : Nat → Nat → Int32), k + q = l.length → q < fuel → RowOk I m l → I m 20 = nI (T + k) →
    ∃ I' : Nat → Nat → Int32, fX9_writes_29 fuel m (nI k) (N, SL, S, R, I, J) = some ((), (N, SL, S, R, I', J)) ∧ (∀ c, c ≠ m → c ≠ m + 19 → c ≠ m + 20 → I' c = I c) ∧ (∀ j, j ≠ 20 → I' m j = I m j) ∧ I' m 20 = nI (T + l.length) ∧ ∀ p, (I' (m + 19) p = if T + k ≤ p ∧ p < T + l.length then nI (l.getD (p - T) 0) else I (m + 19) p) ∧ (I' (m + 20) p = if T + k ≤ p ∧ p < T + l.length then nI (l.getD (p - T) 0) else I (m + 20) p)
  | 0, k, fuel, I, hk, hf, hr, h20 => by
    obtain ⟨y, rfl⟩ : ∃ y, fuel = y + 1 := ⟨fuel - 1, by omega⟩
    refine ⟨I, ?_, fun _ _ _ _ => rfl, fun _ _ => rfl, by rw [h20, show k = l.length by omega], fun p => ⟨by rw [if_neg (fun q => by omega)], by rw [if_neg (fun q => by omega)]⟩⟩
    rw [fX9_writes_29, md_g hA, hr.1, if_pos ((nI_leI (by omega) (by omega)).mpr (by omega))]
  | q + 1, k, fuel, I, hk, hf, hr, h20 => by
    obtain ⟨y, rfl⟩ : ∃ y, fuel = y + 1 := ⟨fuel - 1, by omega⟩
    obtain ⟨I1, hI1⟩ : ∃ I1, I1 = u2 (u2 (u2 I (m + 19) (T + k) (nI (l.getD k 0))) (m + 20) (T + k) (nI (l.getD k 0))) m 20 (nI (T + k + 1)) := ⟨_, rfl⟩
    have r1 : RowOk I1 m l := by
      refine ⟨?_, fun j hj => ?_⟩
      · rw [hI1, u2_at, up_ne (by decide), u2_ne (by omega), u2_ne (by omega)]; exact hr.1
      · rw [hI1, u2_ne (by omega), u2_ne (by omega), u2_ne (by omega)]; exact hr.2 j hj
    obtain ⟨I', g1, g2, g3, g4, g5⟩ := writes_loop hA J l T hT hl q (k + 1) y I1 (by omega) (by omega) r1 (by rw [hI1, u2_i, Nat.add_assoc])
    refine ⟨I', ?_, fun c a1 a2 a3 => by rw [g2 c a1 a2 a3, hI1, u2_ne a1, u2_ne a3, u2_ne a2], fun j hj => by rw [g3 j hj, hI1, u2_at, up_ne hj, u2_ne (by omega), u2_ne (by omega)], g4, fun p => ?_⟩
    · rw [fX9_writes_29, md_g hA, hr.1, if_neg (nI_lt_of (by omega) (by omega)), md_f18 hA, md_g hA, h20, md_f34 hA, md_r27 hA (by omega), hr.2 k (by omega), md_w19 hA (by omega), md_f19 hA, md_g hA, u2_ne (by omega), h20, md_f34 hA, md_r27 hA (by omega), u2_ne (by omega), hr.2 k (by omega), md_w20 hA (by omega), md_g hA, u2_ne (by omega), u2_ne (by omega), h20, nI_1, md_p hA, nI_1, ← hI1]
      exact g1
    · have h1 : I1 (m + 19) p = up (I (m + 19)) (T + k) (nI (l.getD k 0)) p := by rw [hI1, u2_ne (by omega), u2_ne (by omega), u2_at]
      have h2 : I1 (m + 20) p = up (I (m + 20)) (T + k) (nI (l.getD k 0)) p := by rw [hI1, u2_ne (by omega), u2_at, u2_ne (by omega)]
      rw [(g5 p).1, (g5 p).2, h1, h2]
      have n2 : p = T + k → (T + k ≤ p ∧ p < T + l.length) := fun w => by omega
      have n1 : p = T + k → ¬ (T + (k + 1) ≤ p ∧ p < T + l.length) := fun w => by omega
      by_cases w : p = T + k
      · rw [if_neg (n1 w), if_neg (n1 w), if_pos (n2 w), if_pos (n2 w), w, up_eq, up_eq, show T + k - T = k by omega]
        exact ⟨rfl, rfl⟩
      · rw [up_ne w, up_ne w]
        by_cases t : T + (k + 1) ≤ p ∧ p < T + l.length
        · have t' : T + k ≤ p ∧ p < T + l.length := ⟨by omega, t.2⟩
          rw [if_pos t, if_pos t, if_pos t', if_pos t']
          exact ⟨rfl, rfl⟩
        · have t' : ¬ (T + k ≤ p ∧ p < T + l.length) := fun q => t ⟨by omega, q.2⟩
          rw [if_neg t, if_neg t, if_neg t', if_neg t']
          exact ⟨rfl, rfl⟩
/-- writes(): the row becomes the bytes of the next entry -/
theorem writes_M (hA : MdAt N S R m) (I : Nat → Nat → Int32) (J : Nat → Nat → Int64) (L : Lg) (h2 : I (m + 2) 0 = nI L.ne) (hB : MBy m I L) (hL : LInv L) (hne : L.ne < 200) (l : List Nat) (hr : RowOk I m l) (hl : l.length ≤ 82) (nw : Nat → Nat) (hd : DaOk m I nw (L.st L.ne)) :
    ∃ I' : Nat → Nat → Int32, fX9_writes m (N, SL, S, R, I, J) = some ((), (N, SL, S, R, I', J)) ∧ WF m I I' ∧ (∀ e, MBy m I' (app L e l)) ∧ ∀ e, DaOk m I' (nwU nw (L.st L.ne) (app L e l)) (L.st L.ne + l.length) := by
  have hst := LInv.st_le hL L.ne (Nat.le_refl _)
  obtain ⟨I1, hI1⟩ : ∃ I1, I1 = u2 (u2 I (m + 21) L.ne (nI (L.st L.ne))) (m + 22) L.ne (nI l.length) := ⟨_, rfl⟩
  have r1 : RowOk I1 m l := ⟨by rw [hI1, u2_ne (by omega), u2_ne (by omega)]; exact hr.1, fun k hk => by rw [hI1, u2_ne (by omega), u2_ne (by omega)]; exact hr.2 k hk⟩
  obtain ⟨I', g1, g2, g3, g4, g5⟩ := writes_loop (SL := SL) hA J l (L.st L.ne) (by omega) (by omega) l.length 0 FU I1 (by omega) (by unfold FU; omega) r1 (by rw [hI1, u2_ne (by omega), u2_ne (by omega)]; exact hB.1)
  have s19 : I1 (m + 19) = I (m + 19) := by rw [hI1, u2_ne (by omega), u2_ne (by omega)]
  have s20 : I1 (m + 20) = I (m + 20) := by rw [hI1, u2_ne (by omega), u2_ne (by omega)]
  refine ⟨I', ?_, ⟨fun c a b => by rw [g2 c a (by omega) (by omega), hI1, u2_ne (by omega), u2_ne (by omega)], fun j hj => by rw [g3 j hj, hI1, u2_ne (by omega), u2_ne (by omega)]⟩, fun e => ⟨?_, fun i hi => ?_, fun k hk => ?_⟩, fun e k hk => ?_⟩
  · unfold fX9_writes
    rw [md_f1 hA, show (0 : Int32) = nI 0 from rfl, md_r2 hA (by omega), h2, md_f21 hA, md_g hA, hB.1, md_w21 hA (by omega), md_f22 hA, md_g hA, u2_ne (by omega), hr.1, md_w22 hA (by omega), ← hI1]
    exact g1
  · rw [g4]
    show _ = nI (up L.st (L.ne + 1) (L.st L.ne + l.length) (L.ne + 1))
    rw [up_eq]
  · have hi' : i < L.ne + 1 := hi
    rw [g2 _ (by omega) (by omega) (by omega), g2 _ (by omega) (by omega) (by omega), hI1, u2_ne (show m + 21 ≠ m + 22 by omega), u2_at, u2_at, u2_ne (show m + 22 ≠ m + 21 by omega)]
    show up _ _ _ i = nI (up L.st (L.ne + 1) (L.st L.ne + l.length) i) ∧ up _ _ _ i = nI (up L.st (L.ne + 1) (L.st L.ne + l.length) (i + 1) - up L.st (L.ne + 1) (L.st L.ne + l.length) i)
    by_cases w : i = L.ne
    · rw [w, up_eq, up_eq, up_eq, up_ne (by omega), show L.st L.ne + l.length - L.st L.ne = l.length by omega]
      exact ⟨rfl, rfl⟩
    · rw [up_ne w, up_ne w, up_ne (by omega), up_ne (by omega)]
      exact hB.2.1 i (by omega)
  · have hk' : k < up L.st (L.ne + 1) (L.st L.ne + l.length) (L.ne + 1) := hk
    rw [up_eq] at hk'
    rw [(g5 k).2, s20]
    show _ = nI (if L.st L.ne ≤ k ∧ k < L.st L.ne + l.length then l.getD (k - L.st L.ne) 0 else L.yb k)
    by_cases w : L.st L.ne ≤ k
    · rw [if_pos ⟨by omega, hk'⟩, if_pos ⟨w, hk'⟩]
    · rw [if_neg (fun q => by omega), if_neg (fun q => w q.1)]
      exact hB.2.2 k (by omega)
  · rw [(g5 k).1, s19]
    unfold nwU
    show _ = nI (if k < L.st L.ne then nw k else if L.st L.ne ≤ k ∧ k < L.st L.ne + l.length then l.getD (k - L.st L.ne) 0 else L.yb k)
    by_cases w : k < L.st L.ne
    · rw [if_neg (fun q => by omega), if_pos w]
      exact hd k w
    · rw [if_pos ⟨by omega, hk⟩, if_neg w, if_pos ⟨by omega, hk⟩]
theorem tb_ref (P : Nat) (hP : P < 2 ^ 96) : [0, 0, 0, 0] ++ lB (Int64.ofNat (P / 2 ^ 32)) 8 ++ lB (Int64.ofNat (P % 2 ^ 32)) 4 = tbL P := by
  unfold tbL
  show [0, 0, 0, 0, bN _ 7, bN _ 6, bN _ 5, bN _ 4, bN _ 3, bN _ 2, bN _ 1, bN _ 0, bN _ 3, bN _ 2, bN _ 1, bN _ 0] = _
  have a := tb_m0 P
  have a0 : tb P 0 = 0 := a 0 (by omega) hP
  have a1 : tb P 1 = 0 := a 1 (by omega) hP
  have a2 : tb P 2 = 0 := a 2 (by omega) hP
  have a3 : tb P 3 = 0 := a 3 (by omega) hP
  have b := tb_m1 P
  have b0 : bN (Int64.ofNat (P / 2 ^ 32)) 7 = tb P 4 := b 0 (by omega)
  have b1 : bN (Int64.ofNat (P / 2 ^ 32)) 6 = tb P 5 := b 1 (by omega)
  have b2 : bN (Int64.ofNat (P / 2 ^ 32)) 5 = tb P 6 := b 2 (by omega)
  have b3 : bN (Int64.ofNat (P / 2 ^ 32)) 4 = tb P 7 := b 3 (by omega)
  have b4 : bN (Int64.ofNat (P / 2 ^ 32)) 3 = tb P 8 := b 4 (by omega)
  have b5 : bN (Int64.ofNat (P / 2 ^ 32)) 2 = tb P 9 := b 5 (by omega)
  have b6 : bN (Int64.ofNat (P / 2 ^ 32)) 1 = tb P 10 := b 6 (by omega)
  have b7 : bN (Int64.ofNat (P / 2 ^ 32)) 0 = tb P 11 := b 7 (by omega)
  have c := tb_m2 P
  have c0 : bN (Int64.ofNat (P % 2 ^ 32)) 3 = tb P 12 := c 0 (by omega)
  have c1 : bN (Int64.ofNat (P % 2 ^ 32)) 2 = tb P 13 := c 1 (by omega)
  have c2 : bN (Int64.ofNat (P % 2 ^ 32)) 1 = tb P 14 := c 2 (by omega)
  have c3 : bN (Int64.ofNat (P % 2 ^ 32)) 0 = tb P 15 := c 3 (by omega)
  rw [a0, a1, a2, a3, b0, b1, b2, b3, b4, b5, b6, b7, c0, c1, c2, c3]
theorem tr130 (hA : MdAt N S R m) (J : Nat → Nat → Int64) (v : Int64) : ∀ (q : Nat) (l : List Nat) (I : Nat → Nat → Int32) (fuel : Nat), q < fuel → q ≤ 8 → l.length + q ≤ 100 → RowOk I m l →
    ∃ I' : Nat → Nat → Int32, fX9_trial_130 fuel m v (nI (8 * q) - 8) (N, SL, S, R, I, J) = some ((), (N, SL, S, R, I', J)) ∧ RF m I I' ∧ RowOk I' m (l ++ lB v q)
  | 0, l, I, fuel, hf, _, _, h => by
    obtain ⟨y, rfl⟩ : ∃ y, fuel = y + 1 := ⟨fuel - 1, by omega⟩
    exact ⟨I, by rw [fX9_trial_130, if_pos nI_08], RF.refl, by rw [lB, List.append_nil]; exact h⟩
  | q + 1, l, I, fuel, hf, hq, hl, h => by
    obtain ⟨y, rfl⟩ : ∃ y, fuel = y + 1 := ⟨fuel - 1, by omega⟩
    obtain ⟨I1, a1, a2, a3⟩ := put_M (SL := SL) hA I J l h (by omega) ((yshr v (nI (8 * q)) &&& 255).toInt32) (bN v q) (by rw [ssh_N v q (by omega), nI_255 (bN_lt v q)])
    obtain ⟨I2, c1, c2, c3⟩ := tr130 hA J v q _ I1 y (by omega) (by omega) (by rw [List.length_append]; show l.length + 1 + q ≤ 100; omega) a3
    refine ⟨I2, ?_, a2.trans c2, by rw [lB, show bN v q :: lB v q = [bN v q] ++ lB v q from rfl, ← List.append_assoc]; exact c3⟩
    rw [fX9_trial_130, nI_88, if_neg (nI_ge0 (by omega)), md_o hA, a1, bd_some, nI_m8]
    exact c1
theorem tr104 (hA : MdAt N S R m) (I : Nat → Nat → Int32) (J : Nat → Nat → Int64) (hi lo : Int64) (l : List Nat) (h : RowOk I m l) (hl : l.length = 2) :
    ∃ I' : Nat → Nat → Int32, fX9_trial_104 FU m hi lo 0 (N, SL, S, R, I, J) = some ((), (N, SL, S, R, I', J)) ∧ RF m I I' ∧ RowOk I' m (l ++ ([0, 0, 0, 0] ++ lB hi 8 ++ lB lo 4)) := by
  have lp : ∀ (q k fuel : Nat) (l : List Nat) (I : Nat → Nat → Int32), k + q = 4 → q < fuel → l.length = 2 + k → RowOk I m l → ∃ (y : Nat) (I' : Nat → Nat → Int32), fX9_trial_104 fuel m hi lo (nI k) (N, SL, S, R, I, J) = fX9_trial_104 (y + 1) m hi lo (nI 4) (N, SL, S, R, I', J) ∧ RF m I I' ∧ RowOk I' m (l ++ List.replicate q 0) := by
    intro q
    induction q with
    | zero =>
      intro k fuel l I hk hf hl h
      obtain ⟨y, rfl⟩ : ∃ y, fuel = y + 1 := ⟨fuel - 1, by omega⟩
      have : k = 4 := by omega
      subst this
      exact ⟨y, I, rfl, RF.refl, by rw [List.replicate_zero, List.append_nil]; exact h⟩
    | succ q ih =>
      intro k fuel l I hk hf hl h
      obtain ⟨y, rfl⟩ : ∃ y, fuel = y + 1 := ⟨fuel - 1, by omega⟩
      obtain ⟨I1, a1, a2, a3⟩ := put_N (SL := SL) hA I J l h (by omega) 0 (by decide)
      obtain ⟨y', I2, c1, c2, c3⟩ := ih (k + 1) y _ I1 (by omega) (by omega) (by rw [List.length_append]; show l.length + 1 = _; omega) a3
      refine ⟨y', I2, ?_, a2.trans c2, by rw [List.replicate_succ, show 0 :: List.replicate q 0 = [0] ++ List.replicate q 0 from rfl, ← List.append_assoc]; exact c3⟩
      have a1' : fX9_put m (0 : Int32) (N, SL, S, R, I, J) = some ((), (N, SL, S, R, I1, J)) := a1
      rw [fX9_trial_104, if_neg (show ¬ (4 : Int32) ≤ nI k from nI_lt_of (k := 4) (by decide) (by omega)), md_o hA, a1', bd_some, nI_1]
      exact c1
  obtain ⟨y, I1, a1, a2, a3⟩ := lp 4 0 FU l I rfl (by decide) (by omega) h
  obtain ⟨I2, c1, c2, c3⟩ := putL_M (SL := SL) hA I1 J hi _ a3 (by rw [List.length_append]; simp; omega)
  obtain ⟨I3, d1, d2, d3⟩ := tr130 (SL := SL) hA J lo 4 _ I2 FU (by decide) (by decide) (by rw [List.length_append, List.length_append, lB_len]; simp; omega) c3
  refine ⟨I3, ?_, (a2.trans c2).trans d2, by rw [List.append_assoc, List.append_assoc] at d3; rw [List.append_assoc]; exact d3⟩
  rw [show (0 : Int32) = nI 0 from rfl, a1, fX9_trial_104, if_pos (by decide), md_o hA, c1, bd_some]
  exact d1
set_option maxHeartbeats 4000000 in
theorem tr25 (hA : MdAt N S R m) (hz : z ≤ 1) (I : Nat → Nat → Int32) (J : Nat → Nat → Int64) (na : Nat) (hna : na ≤ 40) (ba : Nat → Int64) (h1 : I (m + 1) z = nI na) (h7 : ∀ a, a < na → J (m + 7) (40 * z + a) = ba a) : ∀ (q a fuel : Nat), a + q = na → q < fuel →
    fX9_trial_25 fuel m (nI z) (Int64.ofNat (pH ba a)) (Int64.ofNat (pL ba a)) (nI a) (N, SL, S, R, I, J) = fX9_trial_104 FU m (Int64.ofNat (pS ba na / 2 ^ 32)) (Int64.ofNat (pS ba na % 2 ^ 32)) 0 (N, SL, S, R, I, J)
  | 0, a, fuel, ha, hf => by
    obtain ⟨y, rfl⟩ : ∃ y, fuel = y + 1 := ⟨fuel - 1, by omega⟩
    have : a = na := by omega
    subst this
    have e := halves_end ba a hna
    rw [fX9_trial_25, md_f0 hA, md_r1 hA (by omega), h1, if_pos ((nI_leI (by omega) (by omega)).mpr (Nat.le_refl _)), e.1, e.2]
  | q + 1, a, fuel, ha, hf => by
    obtain ⟨y, rfl⟩ : ∃ y, fuel = y + 1 := ⟨fuel - 1, by omega⟩
    have ih := tr25 hA hz I J na hna ba h1 h7 q (a + 1) y (by omega) (by omega)
    rw [show pH ba (a + 1) = pH ba a + (ba a).toInt.toNat / 4294967296 from rfl, show pL ba (a + 1) = pL ba a + (ba a).toInt.toNat % 4294967296 from rfl] at ih
    rw [fX9_trial_25, md_f0 hA, md_r1 hA (by omega), h1, if_neg (nI_lt_of (by omega) (by omega)), md_f6 hA, show (40 : Int32) = nI 40 from rfl, nI_mul, nI_add, md_r7 hA (by omega), h7 a (by omega)]
    unfold fX9_trial_79
    rw [nI_1]
    by_cases w : 0 < ba a
    · rw [if_pos w, half_hi w, half_lo w, ← Int64.ofNat_add, ← Int64.ofNat_add]
      exact ih
    · rw [if_neg w]
      rw [not_pos w, Nat.zero_div, Nat.zero_mod, Nat.add_zero, Nat.add_zero] at ih
      exact ih
/-- trial(z): the call and the row of a TRIAL -/
theorem trial_M (hA : MdAt N S R m) (hz : z ≤ 1) (I : Nat → Nat → Int32) (J : Nat → Nat → Int64) (L : Lg) (hM : MRep m z I J L) (hna : L.na ≤ 40) :
    ∃ (I' : Nat → Nat → Int32) (J' : Nat → Nat → Int64), fX9_trial m (nI z) (N, SL, S, R, I, J) = some ((), (N, SL, S, R, I', J')) ∧ KF m I I' J J' ∧ (∀ lg, CallOk I' J' m 7 0 0 lg (-1) (-1) 0) ∧ RowOk I' m (7 :: L.na :: tbL (pS L.ba L.na)) := by
  obtain ⟨I1, J1, a1, a2, a3, a4⟩ := begins_M (SL := SL) hA I J 7 (by decide) 0
  rw [if_pos rfl] at a4
  have m1 := a2.rep hM
  obtain ⟨I2, c1, c2, c3⟩ := put_N (SL := SL) hA I1 J1 [7] a4 (by decide) L.na (by omega)
  have m2 := (KF.rep (J' := J1) c2.kf m1)
  have t25 := tr25 (SL := SL) hA hz I2 J1 L.na hna L.ba m2.1.1 (fun a ha => (m2.2.1 a ha).2.1) L.na 0 FU (by omega) (by unfold FU; omega)
  obtain ⟨I3, d1, d2, d3⟩ := tr104 (SL := SL) hA I2 J1 (Int64.ofNat (pS L.ba L.na / 2 ^ 32)) (Int64.ofNat (pS L.ba L.na % 2 ^ 32)) _ c3 rfl
  have hP : pS L.ba L.na < 2 ^ 96 := by
    have := pS_lt L.ba L.na
    omega
  rw [tb_ref _ hP] at d3
  refine ⟨I3, J1, ?_, (a2.trans c2.kf).trans d2.kf, fun lg => d2.call (c2.call (a3 lg)), d3⟩
  have a1' : fX9_begins m (7 : Int32) 0 (N, SL, S, R, I, J) = some ((), (N, SL, S, R, I1, J1)) := a1
  unfold fX9_trial
  rw [md_o hA, a1', bd_some, md_f0 hA, md_r1 hA (by omega), m1.1.1, md_o hA, c1, bd_some]
  exact t25.trans d1
end RefH
