-- P3, reference: how it has a ledger; its row of bytes
/-- two halves are the number H -/
def HeM (hi lo : Int64) (H : Nat) : Prop := 0 ≤ hi.toInt ∧ hi.toInt < 4294967296 ∧ 0 ≤ lo.toInt ∧ lo.toInt < 4294967296 ∧ hi.toInt * 4294967296 + lo.toInt = H
/-- entry i of ledger z -/
def MEnt (m z : Nat) (I : Nat → Nat → Int32) (J : Nat → Nat → Int64) (e : En) (i : Nat) : Prop :=
  (I (m + 10) (200 * z + i) = nI e.kd ∧ J (m + 11) (200 * z + i) = e.ky ∧ I (m + 12) (200 * z + i) = nI e.nl) ∧
  (∀ k, k < e.nl → I (m + 13) (8 * (200 * z + i) + k) = nI (e.lg k).1 ∧ J (m + 14) (8 * (200 * z + i) + k) = (e.lg k).2) ∧
  (e.kd = 3 → I (m + 15) (200 * z + i) = nI e.ha ∧ J (m + 16) (200 * z + i) = Int64.ofNat e.hm) ∧
  I (m + 17) (200 * z + i) = (if thB e = true then 1 else 0) ∧ I (m + 18) (200 * z + i) = e.en
/-- account a of ledger z -/
def MAcc (m z : Nat) (J : Nat → Nat → Int64) (f ba : Int64) (h : Nat) (a : Nat) : Prop := J (m + 6) (40 * z + a) = f ∧ J (m + 7) (40 * z + a) = ba ∧ HeM (J (m + 8) (40 * z + a)) (J (m + 9) (40 * z + a)) h
/-- the reference has the ledger L as its ledger z -/
def MRep (m z : Nat) (I : Nat → Nat → Int32) (J : Nat → Nat → Int64) (L : Lg) : Prop :=
  (I (m + 1) z = nI L.na ∧ I (m + 2) z = nI L.ne ∧ I (m + 3) z = nI L.ev ∧ I (m + 4) z = nI L.si) ∧
  (∀ a, a < L.na → MAcc m z J (L.fl a) (L.ba a) (L.he a) a) ∧ ∀ i, i < L.ne → MEnt m z I J (L.es i) i
/-- the places of ledger z -/
def Hf (m z c j : Nat) : Prop := (m + 1 ≤ c ∧ c ≤ m + 4 ∧ j = z) ∨ (m + 6 ≤ c ∧ c ≤ m + 9 ∧ 40 * z ≤ j ∧ j < 40 * z + 40) ∨ ((m + 10 ≤ c ∧ c ≤ m + 12 ∨ m + 15 ≤ c ∧ c ≤ m + 18) ∧ 200 * z ≤ j ∧ j < 200 * z + 200) ∨ (m + 13 ≤ c ∧ c ≤ m + 14 ∧ 1600 * z ≤ j ∧ j < 1600 * z + 1600)
theorem MRep.congr {m z : Nat} {I I' : Nat → Nat → Int32} {J J' : Nat → Nat → Int64} {L : Lg} (h1 : L.na ≤ 40) (h2 : L.ne ≤ 200) (h3 : ∀ i, i < L.ne → (L.es i).nl ≤ 8) (hI : ∀ c j, Hf m z c j → I' c j = I c j) (hJ : ∀ c j, Hf m z c j → J' c j = J c j) (h : MRep m z I J L) : MRep m z I' J' L := by
  unfold Hf at hI hJ
  refine ⟨?_, fun a ha => ?_, fun i hi => ?_⟩
  · rw [hI _ _ (by omega), hI _ _ (by omega), hI _ _ (by omega), hI _ _ (by omega)]
    exact h.1
  · unfold MAcc
    rw [hJ _ _ (by omega), hJ _ _ (by omega), hJ _ _ (by omega), hJ _ _ (by omega)]
    exact h.2.1 a ha
  · have o := h.2.2 i hi
    have := h3 i hi
    unfold MEnt at o ⊢
    rw [hI _ _ (by omega), hJ _ _ (by omega), hI _ _ (by omega), hI (m + 15) _ (by omega), hJ (m + 16) _ (by omega), hI (m + 17) _ (by omega), hI (m + 18) _ (by omega)]
    exact ⟨o.1, fun k hk => by rw [hI _ _ (by omega), hJ _ _ (by omega)]; exact o.2.1 k hk, o.2.2⟩
/-- the row of bytes is l -/
def RowOk (I : Nat → Nat → Int32) (m : Nat) (l : List Nat) : Prop := I m 35 = nI l.length ∧ ∀ k, k < l.length → I (m + 27) k = nI (l.getD k 0)
/-- only the row has changed -/
def RF (m : Nat) (I I' : Nat → Nat → Int32) : Prop := (∀ c, c ≠ m → c ≠ m + 27 → I' c = I c) ∧ ∀ j, j ≠ 35 → I' m j = I m j
theorem RF.refl {m : Nat} {I : Nat → Nat → Int32} : RF m I I := ⟨fun _ _ _ => rfl, fun _ _ => rfl⟩
theorem RF.trans {m : Nat} {I I' I'' : Nat → Nat → Int32} (h : RF m I I') (h' : RF m I' I'') : RF m I I'' := ⟨fun c a b => (h'.1 c a b).trans (h.1 c a b), fun j hj => (h'.2 j hj).trans (h.2 j hj)⟩
section RefA
variable {N SL : Nat} {S : Nat → Shp} {R : Nat → Nat → Option Nat} {m : Nat}
theorem put_M (hA : MdAt N S R m) (I : Nat → Nat → Int32) (J : Nat → Nat → Int64) (l : List Nat) (h : RowOk I m l) (hl : l.length < 100) (x : Int32) (a : Nat) (hx : x &&& 255 = nI a) :
    ∃ I' : Nat → Nat → Int32, fX9_put m x (N, SL, S, R, I, J) = some ((), (N, SL, S, R, I', J)) ∧ RF m I I' ∧ RowOk I' m (l ++ [a]) := by
  refine ⟨u2 (u2 I (m + 27) l.length (nI a)) m 35 (nI (l.length + 1)), ?_, ⟨fun c a1 a2 => by rw [u2_ne a1, u2_ne a2], fun j hj => by rw [u2_at, up_ne hj, u2_ne (by omega)]⟩, by rw [u2_at, up_eq, List.length_append]; rfl, fun k hk => ?_⟩
  · unfold fX9_put
    rw [md_f34 hA, md_g hA, h.1, hx, md_w27 hA hl, md_g hA, md_p hA, u2_ne (by omega), h.1, nI_1]
  · rw [List.length_append] at hk
    have hk' : k < l.length + 1 := hk
    rw [u2_ne (by omega), u2_at]
    by_cases z : k = l.length
    · rw [z, up_eq, gD_r (Nat.le_refl _), Nat.sub_self]; rfl
    · rw [up_ne z, gD_l (by omega), h.2 k (by omega)]
theorem put_N (hA : MdAt N S R m) (I : Nat → Nat → Int32) (J : Nat → Nat → Int64) (l : List Nat) (h : RowOk I m l) (hl : l.length < 100) (a : Nat) (ha : a < 256) :
    ∃ I' : Nat → Nat → Int32, fX9_put m (nI a) (N, SL, S, R, I, J) = some ((), (N, SL, S, R, I', J)) ∧ RF m I I' ∧ RowOk I' m (l ++ [a]) := put_M hA I J l h hl (nI a) a (nI_255 ha)
theorem nI_88 (q : Nat) : nI (8 * (q + 1)) - (8 : Int32) = nI (8 * q) := by rw [show (8 : Int32) = nI 8 from rfl, pk_sub (by omega), show 8 * (q + 1) - 8 = 8 * q by omega]
theorem nI_m8 (q : Nat) : nI q + (-8 : Int32) = nI q - (8 : Int32) := by rw [Int32.sub_eq_add_neg]
theorem nI_08 : nI (8 * 0) - (8 : Int32) < 0 := by decide
theorem putL_loop (hA : MdAt N S R m) (J : Nat → Nat → Int64) (v : Int64) : ∀ (q : Nat) (l : List Nat) (I : Nat → Nat → Int32) (fuel : Nat), q < fuel → q ≤ 8 → l.length + q ≤ 100 → RowOk I m l →
    ∃ I' : Nat → Nat → Int32, fX9_putLong_3 fuel m v (nI (8 * q) - 8) (N, SL, S, R, I, J) = some ((), (N, SL, S, R, I', J)) ∧ RF m I I' ∧ RowOk I' m (l ++ lB v q)
  | 0, l, I, fuel, hf, _, _, h => by
    obtain ⟨y, rfl⟩ : ∃ y, fuel = y + 1 := ⟨fuel - 1, by omega⟩
    exact ⟨I, by rw [fX9_putLong_3, if_pos nI_08], RF.refl, by rw [lB, List.append_nil]; exact h⟩
  | q + 1, l, I, fuel, hf, hq, hl, h => by
    obtain ⟨y, rfl⟩ : ∃ y, fuel = y + 1 := ⟨fuel - 1, by omega⟩
    obtain ⟨I1, a1, a2, a3⟩ := put_M (SL := SL) hA I J l h (by omega) ((yshr v (nI (8 * q)) &&& 255).toInt32) (bN v q) (by rw [ssh_N v q (by omega), nI_255 (bN_lt v q)])
    obtain ⟨I2, c1, c2, c3⟩ := putL_loop hA J v q _ I1 y (by omega) (by omega) (by rw [List.length_append]; show l.length + 1 + q ≤ 100; omega) a3
    refine ⟨I2, ?_, a2.trans c2, by rw [lB, show bN v q :: lB v q = [bN v q] ++ lB v q from rfl, ← List.append_assoc]; exact c3⟩
    rw [fX9_putLong_3, nI_88, if_neg (nI_ge0 (by omega)), md_o hA, a1, bd_some, nI_m8]
    exact c1
theorem putL_M (hA : MdAt N S R m) (I : Nat → Nat → Int32) (J : Nat → Nat → Int64) (v : Int64) (l : List Nat) (h : RowOk I m l) (hl : l.length + 8 ≤ 100) :
    ∃ I' : Nat → Nat → Int32, fX9_putLong m v (N, SL, S, R, I, J) = some ((), (N, SL, S, R, I', J)) ∧ RF m I I' ∧ RowOk I' m (l ++ lB v 8) := by
  unfold fX9_putLong
  exact putL_loop hA J v 8 l I FU (by decide) (by decide) hl h
theorem xshr8 : ∀ a, a < 256 → xshr (nI a) 8 = nI 0 := by decide +kernel
theorem putS_M (hA : MdAt N S R m) (I : Nat → Nat → Int32) (J : Nat → Nat → Int64) (a : Nat) (ha : a < 256) (l : List Nat) (h : RowOk I m l) (hl : l.length + 2 ≤ 100) :
    ∃ I' : Nat → Nat → Int32, fX9_putShort m (nI a) (N, SL, S, R, I, J) = some ((), (N, SL, S, R, I', J)) ∧ RF m I I' ∧ RowOk I' m (l ++ [0, a]) := by
  obtain ⟨I1, a1, a2, a3⟩ := put_N (SL := SL) hA I J l h (by omega) 0 (by decide)
  obtain ⟨I2, c1, c2, c3⟩ := put_N (SL := SL) hA I1 J _ a3 (by rw [List.length_append]; show l.length + 1 < 100; omega) a ha
  refine ⟨I2, ?_, a2.trans c2, by rw [List.append_assoc] at c3; exact c3⟩
  unfold fX9_putShort
  rw [xshr8 a ha, md_o hA, a1, bd_some, md_o hA, c1, bd_some]
/-- the call that is being weighed: kind, key, legs, entry, account, amount -/
def CallOk (I : Nat → Nat → Int32) (J : Nat → Nat → Int64) (m kd : Nat) (key : Int64) (n : Nat) (lg : Nat → Nat × Int64) (e a : Int32) (v : Int64) : Prop :=
  I m 26 = nI kd ∧ J m 30 = key ∧ (I m 27 = nI n ∧ n ≤ 8 ∧ ∀ k, k < n → I (m + 25) k = nI (lg k).1 ∧ J (m + 26) k = (lg k).2) ∧ I m 28 = e ∧ I m 29 = a ∧ J m 31 = v
/-- only the call and its row have changed -/
def KF (m : Nat) (I I' : Nat → Nat → Int32) (J J' : Nat → Nat → Int64) : Prop := (∀ c, c ≠ m → (c < m + 25 ∨ m + 27 < c) → I' c = I c) ∧ (∀ j, (j < 26 ∨ 35 < j) → I' m j = I m j) ∧ (∀ c, c ≠ m → c ≠ m + 26 → c ≠ m + 28 → J' c = J c) ∧ ∀ j, (j < 30 ∨ 31 < j) → J' m j = J m j
theorem KF.refl {m : Nat} {I : Nat → Nat → Int32} {J : Nat → Nat → Int64} : KF m I I J J := ⟨fun _ _ _ => rfl, fun _ _ => rfl, fun _ _ _ _ => rfl, fun _ _ => rfl⟩
theorem KF.trans {m : Nat} {I I' I'' : Nat → Nat → Int32} {J J' J'' : Nat → Nat → Int64} (h : KF m I I' J J') (h' : KF m I' I'' J' J'') : KF m I I'' J J'' := ⟨fun c a b => (h'.1 c a b).trans (h.1 c a b), fun j hj => (h'.2.1 j hj).trans (h.2.1 j hj), fun c a b d => (h'.2.2.1 c a b d).trans (h.2.2.1 c a b d), fun j hj => (h'.2.2.2 j hj).trans (h.2.2.2 j hj)⟩
theorem RF.kf {m : Nat} {I I' : Nat → Nat → Int32} {J : Nat → Nat → Int64} (h : RF m I I') : KF m I I' J J := ⟨fun c a b => h.1 c a (by omega), fun j hj => h.2 j (by omega), fun _ _ _ _ => rfl, fun _ _ => rfl⟩
theorem RF.call {m : Nat} {I I' : Nat → Nat → Int32} {J : Nat → Nat → Int64} {kd : Nat} {key : Int64} {n : Nat} {lg : Nat → Nat × Int64} {e a : Int32} {v : Int64} (h : RF m I I') (hc : CallOk I J m kd key n lg e a v) : CallOk I' J m kd key n lg e a v := by
  obtain ⟨h1, h2, h3, h4, h5, h6⟩ := hc
  refine ⟨by rw [h.2 _ (by decide)]; exact h1, h2, ⟨by rw [h.2 _ (by decide)]; exact h3.1, h3.2.1, fun k hk => by rw [h.1 _ (by omega) (by omega)]; exact h3.2.2 k hk⟩, by rw [h.2 _ (by decide)]; exact h4, by rw [h.2 _ (by decide)]; exact h5, h6⟩
theorem KF.rep {m z : Nat} {I I' : Nat → Nat → Int32} {J J' : Nat → Nat → Int64} {L : Lg} (h : KF m I I' J J') (hr : MRep m z I J L) : MRep m z I' J' L := by
  unfold MRep MAcc MEnt
  rw [h.1 (m + 1) (by omega) (by omega), h.1 (m + 2) (by omega) (by omega), h.1 (m + 3) (by omega) (by omega), h.1 (m + 4) (by omega) (by omega), h.1 (m + 10) (by omega) (by omega), h.1 (m + 12) (by omega) (by omega), h.1 (m + 13) (by omega) (by omega), h.1 (m + 15) (by omega) (by omega), h.1 (m + 17) (by omega) (by omega), h.1 (m + 18) (by omega) (by omega), h.2.2.1 (m + 6) (by omega) (by omega) (by omega), h.2.2.1 (m + 7) (by omega) (by omega) (by omega), h.2.2.1 (m + 8) (by omega) (by omega) (by omega), h.2.2.1 (m + 9) (by omega) (by omega) (by omega), h.2.2.1 (m + 11) (by omega) (by omega) (by omega), h.2.2.1 (m + 14) (by omega) (by omega) (by omega), h.2.2.1 (m + 16) (by omega) (by omega) (by omega)]
  exact hr
set_option maxHeartbeats 4000000 in
theorem begins_M (hA : MdAt N S R m) (I : Nat → Nat → Int32) (J : Nat → Nat → Int64) (kd : Nat) (hk : kd < 256) (key : Int64) :
    ∃ (I' : Nat → Nat → Int32) (J' : Nat → Nat → Int64), fX9_begins m (nI kd) key (N, SL, S, R, I, J) = some ((), (N, SL, S, R, I', J')) ∧ KF m I I' J J' ∧ (∀ lg, CallOk I' J' m kd key 0 lg (-1) (-1) 0) ∧ RowOk I' m (if key = 0 then [kd] else [kd] ++ lB key 8) := by
  obtain ⟨I0, hI0⟩ : ∃ I0, I0 = u2 (u2 (u2 (u2 (u2 I m 26 (nI kd)) m 27 0) m 28 (-1)) m 29 (-1)) m 35 0 := ⟨_, rfl⟩
  obtain ⟨J0, hJ0⟩ : ∃ J0, J0 = u2 (u2 J m 30 key) m 31 0 := ⟨_, rfl⟩
  have k0 : KF m I I0 J J0 := by
    refine ⟨fun c a _ => by rw [hI0, u2_ne a, u2_ne a, u2_ne a, u2_ne a, u2_ne a], fun j hj => by rw [hI0, u2_at, up_ne (by omega), u2_at, up_ne (by omega), u2_at, up_ne (by omega), u2_at, up_ne (by omega), u2_at, up_ne (by omega)], fun c a _ _ => by rw [hJ0, u2_ne a, u2_ne a], fun j hj => by rw [hJ0, u2_at, up_ne (by omega), u2_at, up_ne (by omega)]⟩
  have c0 : ∀ lg, CallOk I0 J0 m kd key 0 lg (-1) (-1) 0 := by
    intro lg
    refine ⟨?_, ?_, ⟨?_, by decide, fun k hk => absurd hk (by omega)⟩, ?_, ?_, ?_⟩
    · rw [hI0, u2_at, up_ne (by decide), u2_at, up_ne (by decide), u2_at, up_ne (by decide), u2_at, up_ne (by decide), u2_at, up_eq]
    · rw [hJ0, u2_at, up_ne (by decide), u2_at, up_eq]
    · rw [hI0, u2_at, up_ne (by decide), u2_at, up_ne (by decide), u2_at, up_ne (by decide), u2_at, up_eq]; rfl
    · rw [hI0, u2_at, up_ne (by decide), u2_at, up_ne (by decide), u2_at, up_eq]
    · rw [hI0, u2_at, up_ne (by decide), u2_at, up_eq]
    · rw [hJ0, u2_at, up_eq]
  have r0 : RowOk I0 m [] := ⟨by rw [hI0, u2_at, up_eq]; rfl, fun k hk => absurd hk (by simp)⟩
  obtain ⟨I1, a1, a2, a3⟩ := put_N (SL := SL) hA I0 J0 [] r0 (by decide) kd hk
  have st : fX9_begins m (nI kd) key (N, SL, S, R, I, J) = (if key = 0 then fX9_begins_51 (N, SL, S, R, I1, J0) else cV (N, SL, S, R, I1, J0) 9 m (fX9_putLong m key (N, SL, S, R, I1, J0)) fun _ M => fX9_begins_51 M) := by
    unfold fX9_begins
    rw [md_p hA, md_pJ hA, md_p hA, md_p hA, md_p hA, md_pJ hA, md_p hA, md_o hA, ← hI0, ← hJ0, a1, bd_some]
  rw [st]
  by_cases z : key = 0
  · rw [if_pos z, if_pos z]
    exact ⟨I1, J0, rfl, k0.trans a2.kf, fun lg => a2.call (c0 lg), a3⟩
  · rw [if_neg z, if_neg z]
    obtain ⟨I2, c1, c2, c3⟩ := putL_M (SL := SL) hA I1 J0 key _ a3 (by show 1 + 8 ≤ 100; decide)
    exact ⟨I2, J0, by rw [md_o hA, c1, bd_some]; rfl, (k0.trans a2.kf).trans c2.kf, fun lg => c2.call (a2.call (c0 lg)), c3⟩
end RefA
