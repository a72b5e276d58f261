-- P3, class: an entry of legs; a TRIAL; a hold's end
def Lg.wsi (L : Lg) (s : Nat) : Lg := ((L.na, L.ne, L.ev, s, L.hc), L.2)
def Lg.wev (L : Lg) (n : Nat) : Lg := ((L.na, L.ne, n, 0, L.hc), L.2)
def Lg.wba (L : Lg) (bb : Nat → Int64) : Lg := (L.1, L.fl, bb, L.2.2.2)
def Lg.wes (L : Lg) (es : Nat → En) : Lg := (L.1, L.fl, L.ba, L.he, es, L.yb, L.st)
/-- the hold i ends by entry x -/
def Lg.ends (L : Lg) (i : Nat) (x : Int32) : Lg := ((L.na, L.ne, L.ev, L.si, L.hc - 1), L.fl, L.ba, up L.he (L.es i).ha (L.he (L.es i).ha - (L.es i).hm), up L.es i ((L.es i).kd, (L.es i).ky, (L.es i).nl, (L.es i).lg, x, (L.es i).ha, (L.es i).hm), L.yb, L.st)
/-- the bytes of the sum in a TRIAL -/
def tbL (P : Nat) : List Nat := [tb P 0, tb P 1, tb P 2, tb P 3, tb P 4, tb P 5, tb P 6, tb P 7, tb P 8, tb P 9, tb P 10, tb P 11, tb P 12, tb P 13, tb P 14, tb P 15]
/-- a TRIAL behind the last entry -/
def trl (L : Lg) : Lg := (app L (7, 0, 0, (fun _ => (0, 0)), -1, 0, 0) (7 :: L.na :: tbL (pS L.ba L.na))).wsi 0
/-- an entry of legs, without the TRIAL that it may bring -/
def mvE (L : Lg) (bb : Nat → Int64) (e : En) (l : List Nat) : Lg := (app (L.wba bb) e l).wsi (L.si + 1)
/-- with it -/
def mvT (L : Lg) : Lg := if 0 < L.ev ∧ L.ev ≤ L.si ∧ L.ne < 200 then trl L else L
theorem tb_class (P : Nat) : lB (Int64.ofNat (P / 2 ^ 64)) 8 ++ lB (Int64.ofNat P) 8 = tbL P := by
  unfold tbL
  have a := tb_c1 P
  have c := tb_c2 P
  show [bN _ 7, bN _ 6, bN _ 5, bN _ 4, bN _ 3, bN _ 2, bN _ 1, bN _ 0, bN _ 7, bN _ 6, bN _ 5, bN _ 4, bN _ 3, bN _ 2, bN _ 1, bN _ 0] = _
  have a0 : bN (Int64.ofNat (P / 2 ^ 64)) 7 = tb P 0 := a 0 (by omega)
  have a1 : bN (Int64.ofNat (P / 2 ^ 64)) 6 = tb P 1 := a 1 (by omega)
  have a2 : bN (Int64.ofNat (P / 2 ^ 64)) 5 = tb P 2 := a 2 (by omega)
  have a3 : bN (Int64.ofNat (P / 2 ^ 64)) 4 = tb P 3 := a 3 (by omega)
  have a4 : bN (Int64.ofNat (P / 2 ^ 64)) 3 = tb P 4 := a 4 (by omega)
  have a5 : bN (Int64.ofNat (P / 2 ^ 64)) 2 = tb P 5 := a 5 (by omega)
  have a6 : bN (Int64.ofNat (P / 2 ^ 64)) 1 = tb P 6 := a 6 (by omega)
  have a7 : bN (Int64.ofNat (P / 2 ^ 64)) 0 = tb P 7 := a 7 (by omega)
  have c0 : bN (Int64.ofNat P) 7 = tb P 8 := c 0 (by omega)
  have c1 : bN (Int64.ofNat P) 6 = tb P 9 := c 1 (by omega)
  have c2 : bN (Int64.ofNat P) 5 = tb P 10 := c 2 (by omega)
  have c3 : bN (Int64.ofNat P) 4 = tb P 11 := c 3 (by omega)
  have c4 : bN (Int64.ofNat P) 3 = tb P 12 := c 4 (by omega)
  have c5 : bN (Int64.ofNat P) 2 = tb P 13 := c 5 (by omega)
  have c6 : bN (Int64.ofNat P) 1 = tb P 14 := c 6 (by omega)
  have c7 : bN (Int64.ofNat P) 0 = tb P 15 := c 7 (by omega)
  rw [a0, a1, a2, a3, a4, a5, a6, a7, c0, c1, c2, c3, c4, c5, c6, c7]
section Move
variable {N SL : Nat} {S : Nat → Shp} {R : Nat → Nat → Option Nat} {b g : Nat} {I : Nat → Nat → Int32} {J : Nat → Nat → Int64} {L : Lg}
theorem CRep.si (h : CRep b I J L) (s : Nat) : CRep b (u2 I b 17 (nI s)) J (L.wsi s) := by
  obtain ⟨⟨h4, h12, h16, h17, h15⟩, hB, hS, hE, hY⟩ := h
  refine ⟨⟨?_, ?_, ?_, ?_, ?_⟩, hB, ?_, ?_, ?_⟩
  · rw [u2_at, up_ne (by decide)]; exact h4
  · rw [u2_at, up_ne (by decide)]; exact h12
  · rw [u2_at, up_ne (by decide)]; exact h16
  · rw [u2_at, up_eq]; rfl
  · rw [u2_at, up_ne (by decide)]; exact h15
  · rw [u2_ne (by omega)]; exact hS
  · rw [u2_ne (by omega), u2_ne (by omega), u2_ne (by omega)]; exact hE
  · rw [u2_ne (by omega)]; exact hY
theorem CRep.every (h : CRep b I J L) (n : Nat) : CRep b (u2 (u2 I b 16 (nI n)) b 17 (nI 0)) J (L.wev n) := by
  obtain ⟨⟨h4, h12, h16, h17, h15⟩, hB, hS, hE, hY⟩ := h
  refine ⟨⟨?_, ?_, ?_, ?_, ?_⟩, hB, ?_, ?_, ?_⟩
  · rw [u2_at, up_ne (by decide), u2_at, up_ne (by decide)]; exact h4
  · rw [u2_at, up_ne (by decide), u2_at, up_ne (by decide)]; exact h12
  · rw [u2_at, up_ne (by decide), u2_at, up_eq]; rfl
  · rw [u2_at, up_eq]; rfl
  · rw [u2_at, up_ne (by decide), u2_at, up_ne (by decide)]; exact h15
  · rw [u2_ne (by omega), u2_ne (by omega)]; exact hS
  · rw [u2_ne (by omega), u2_ne (by omega), u2_ne (show b + 9 ≠ b by omega), u2_ne (by omega), u2_ne (by omega), u2_ne (by omega)]; exact hE
  · rw [u2_ne (by omega), u2_ne (by omega)]; exact hY
theorem CRep.bal (h : CRep b I J L) (bb : Nat → Int64) (x : Nat → Int64) (hx : ∀ a, a < L.na → x a = bb a) : CRep b I (u1 J (b + 2) x) (L.wba bb) := by
  obtain ⟨hN, hB, hS, hE, hY⟩ := h
  refine ⟨hN, fun a ha => ?_, hS, fun i hi => ?_, hY⟩
  · rw [u1_ne (by omega), u1_eq, u1_ne (by omega)]
    exact ⟨(hB a ha).1, hx a ha, (hB a ha).2.2⟩
  · rw [u1_ne (by omega), u1_ne (by omega)]
    exact hE i hi
/-- the legs of entry i, set behind its making -/
theorem CRep.legs (h : CRep b I J L) (h8 : ∀ i, i < L.ne → (L.es i).nl ≤ 8) {i n : Nat} (hi : i < L.ne) {lg : Nat → Nat × Int64} {I' : Nat → Nat → Int32} {J' : Nat → Nat → Int64} (f1 : ∀ c, c ≠ b + 9 → c ≠ b + 10 → I' c = I c) (f2 : ∀ c, c ≠ b + 11 → J' c = J c) (f3 : I' (b + 9) = up (I (b + 9)) i (nI n)) (f4 : ∀ p, p < 8 * i ∨ 8 * i + 8 ≤ p → I' (b + 10) p = I (b + 10) p ∧ J' (b + 11) p = J (b + 11) p) (f5 : ∀ k, k < n → I' (b + 10) (8 * i + k) = nI (lg k).1 ∧ J' (b + 11) (8 * i + k) = (lg k).2) :
    CRep b I' J' (L.wes (up L.es i ((L.es i).kd, (L.es i).ky, n, lg, (L.es i).en, (L.es i).ha, (L.es i).hm))) := by
  obtain ⟨hN, hB, hS, hE, hY⟩ := h
  refine ⟨?_, ?_, ?_, ?_, ?_⟩
  · rw [f1 b (by omega) (by omega)]; exact hN
  · intro a ha
    rw [f2 _ (by omega), f2 _ (by omega), f2 _ (by omega)]; exact hB a ha
  · rw [f1 _ (by omega) (by omega)]; exact hS
  · intro j hj
    have hj' : j < L.ne := hj
    have hEj := hE j hj'
    rw [f2 _ (by omega), f1 (b + 8) (by omega) (by omega), f3]
    show J (b + 7) j = (up L.es i _ j).ky ∧ I (b + 8) j = (up L.es i _ j).en ∧ up _ _ _ j = nI (up L.es i _ j).nl ∧ ∀ k, k < (up L.es i _ j).nl → I' (b + 10) (8 * j + k) = nI ((up L.es i _ j).lg k).1 ∧ J' (b + 11) (8 * j + k) = ((up L.es i _ j).lg k).2
    by_cases z : j = i
    · subst z
      simp only [up_eq]
      exact ⟨hEj.1, hEj.2.1, rfl, fun k hk => f5 k hk⟩
    · rw [up_ne z, up_ne z]
      refine ⟨hEj.1, hEj.2.1, hEj.2.2.1, fun k hk => ?_⟩
      have := h8 j hj'
      have q := f4 (8 * j + k) (by omega)
      rw [q.1, q.2]
      exact hEj.2.2.2 k hk
  · rw [f1 _ (by omega) (by omega)]; exact hY
theorem legs_loop (hA : LedAt N S R b) (hG : LgAt N S R g) (hgb : g + 16 < b ∨ b + 13 < g) (i : Nat) (hi : i < 200) (n : Nat) (lg : Nat → Nat × Int64) : ∀ (q k fuel : Nat) (I : Nat → Nat → Int32) (J : Nat → Nat → Int64), k + q = n → q < fuel → LegsOk I J g n lg → (∀ j, j < k → I (b + 10) (8 * i + j) = nI (lg j).1 ∧ J (b + 11) (8 * i + j) = (lg j).2) →
    ∃ (y : Nat) (I' : Nat → Nat → Int32) (J' : Nat → Nat → Int64), fX3_move_38 fuel b g (nI i) (nI k) (N, SL, S, R, I, J) = fX3_move_38 (y + 1) b g (nI i) (nI n) (N, SL, S, R, I', J') ∧ (∀ c, c ≠ b + 10 → I' c = I c) ∧ (∀ c, c ≠ b + 11 → J' c = J c) ∧ (∀ p, p < 8 * i ∨ 8 * i + 8 ≤ p → I' (b + 10) p = I (b + 10) p ∧ J' (b + 11) p = J (b + 11) p) ∧ ∀ k, k < n → I' (b + 10) (8 * i + k) = nI (lg k).1 ∧ J' (b + 11) (8 * i + k) = (lg k).2
  | 0, k, fuel, I, J, hk, hf, hl, h => by
    obtain ⟨y, rfl⟩ : ∃ y, fuel = y + 1 := ⟨fuel - 1, by omega⟩
    have : k = n := by omega
    subst this
    exact ⟨y, I, J, rfl, fun _ _ => rfl, fun _ _ => rfl, fun _ _ => ⟨rfl, rfl⟩, h⟩
  | q + 1, k, fuel, I, J, hk, hf, hl, h => by
    obtain ⟨y, rfl⟩ : ∃ y, fuel = y + 1 := ⟨fuel - 1, by omega⟩
    have h8 := hl.2.1
    have hlk := hl.2.2 k (by omega)
    obtain ⟨y', I', J', g1, g2, g3, g4, g5⟩ := legs_loop hA hG hgb i hi n lg q (k + 1) y (u2 I (b + 10) (8 * i + k) (nI (lg k).1)) (u2 J (b + 11) (8 * i + k) (lg k).2) (by omega) (by omega)
      ⟨by rw [u2_ne (by omega)]; exact hl.1, h8, fun j hj => by rw [u2_ne (by omega), u2_ne (by omega)]; exact hl.2.2 j hj⟩ (fun j hj => by
        rw [u2_at, u2_at]
        by_cases z : j = k
        · rw [z, up_eq, up_eq]; exact ⟨rfl, rfl⟩
        · rw [up_ne (by omega), up_ne (by omega)]; exact h j (by omega))
    refine ⟨y', I', J', ?_, fun c hc => by rw [g2 c hc, u2_ne hc], fun c hc => by rw [g3 c hc, u2_ne hc], fun p hp => ?_, g5⟩
    · rw [fX3_move_38, lg_g hG, hl.1, if_neg (nI_lt_of (by omega) (by omega)), le_f10 hA, lg_f0 hG, lg_r1 hG (by omega), hlk.1, show (8 : Int32) = nI 8 from rfl, pk_mul, nI_add, Nat.mul_comm i 8, le_w10 hA (by omega), le_f11 hA, lg_f1 hG, lg_r2 hG (by omega), hlk.2, le_w11 hA (by omega), nI_1]
      exact g1
    · have := g4 p hp
      rw [u2_at, u2_at, up_ne (by omega), up_ne (by omega)] at this
      exact this
set_option maxHeartbeats 4000000 in
theorem trial_loop (hA : LedAt N S R b) (I : Nat → Nat → Int32) (J : Nat → Nat → Int64) (L : Lg) (hC : CRep b I J L) (hna : L.na ≤ 40) (hne : L.ne < 200) (hst : L.st L.ne ≤ 82 * L.ne) : ∀ (q a fuel : Nat), a + q = L.na → q < fuel →
    ∃ (I' : Nat → Nat → Int32) (J' : Nat → Nat → Int64), fX3_addTrial_7 fuel b (Int64.ofNat (pS L.ba a / 2 ^ 64)) (Int64.ofNat (pS L.ba a)) (nI a) (N, SL, S, R, I, J) = some ((), (N, SL, S, R, I', J')) ∧ CRep b I' J' (trl L) ∧ (∀ c, (c < b ∨ b + 13 < c) → I' c = I c) ∧ ∀ c, c ≠ b + 7 → J' c = J c
  | 0, a, fuel, ha, hf => by
    obtain ⟨y, rfl⟩ : ∃ y, fuel = y + 1 := ⟨fuel - 1, by omega⟩
    have : a = L.na := by omega
    subst this
    have hm := Nat.mod_lt (pS L.ba L.na / 2 ^ 64) (show 0 < 2 ^ 64 by decide)
    obtain ⟨I1, a1, a2, a3⟩ := beginD (SL := SL) hA.dr J (7 : Int32) I
    rw [show lB (Int32.toInt64 7) 1 = [7] from lB1 7 (by decide)] at a3
    have f4 : I1 b 4 = nI L.na := by rw [a2 b (by omega) (by omega)]; exact hC.1.1
    obtain ⟨I2, c1, c2, c3⟩ := addD (SL := SL) hA.dr J (nI L.na).toInt64 1 (by omega) _ I1 (by decide) a3
    rw [lB1 L.na (by omega)] at c3
    obtain ⟨I3, d1, d2, d3⟩ := addD (SL := SL) hA.dr J (Int64.ofNat (pS L.ba L.na / 2 ^ 64)) 8 (by omega) _ I2 (by simp) c3
    obtain ⟨I4, e1, e2, e3⟩ := addD (SL := SL) hA.dr J (Int64.ofNat (pS L.ba L.na)) 8 (by omega) _ I3 (by simp [lB_len]) d3
    have hfr : DF (b + 12) I I4 := ((a2.trans c2).trans d2).trans e2
    have hC4 : CRep b I4 J L := CRep.congr (fun c h1 h2 => hfr c (by omega) (by omega)) (fun _ _ _ _ => rfl) hC
    rw [List.append_assoc, tb_class] at e3
    obtain ⟨I5, J5, k1, k2, k3, k4⟩ := append_spec (SL := SL) hA I4 J L hC4 hne hst _ e3 (by show 18 ≤ 82; decide) 0 7 0 0 (fun _ => (0, 0))
    refine ⟨u2 I5 b 17 (nI 0), J5, ?_, CRep.si k2 0, fun c hc => by rw [u2_ne (by omega), k3 c (by omega) (by omega) (by omega) (by omega) (by omega), hfr c (by omega) (by omega)], k4⟩
    rw [fX3_addTrial_7, le_g hA, hC.1.1, if_pos ((nI_leI (by omega) (by omega)).mpr (by omega)), le_f13 hA, dr_o hA.dr, a1, bd_some, le_f13 hA, le_g hA, f4, dr_o hA.dr, show (1 : Int32) = nI 1 from rfl, c1, bd_some, le_f13 hA, dr_o hA.dr, show (8 : Int32) = nI 8 from rfl, d1, bd_some, le_f13 hA, dr_o hA.dr, e1, bd_some, le_o hA, k1, bd_some, le_p hA]
    rfl
  | q + 1, a, fuel, ha, hf => by
    obtain ⟨y, rfl⟩ : ∃ y, fuel = y + 1 := ⟨fuel - 1, by omega⟩
    obtain ⟨I', J', g1, g2⟩ := trial_loop hA I J L hC hna hne hst q (a + 1) y (by omega) (by omega)
    have hB := (hC.2.1 a (by omega)).2.1
    have eS : pS L.ba (a + 1) = pS L.ba a + (L.ba a).toInt.toNat := rfl
    rw [eS] at g1
    refine ⟨I', J', ?_, g2⟩
    rw [fX3_addTrial_7, le_g hA, hC.1.1, if_neg (nI_lt_of (by omega) (by omega)), le_f1 hA, le_r2 hA (by omega), hB]
    by_cases z : L.ba a ≤ 0
    · rw [if_pos z]
      unfold fX3_addTrial_60
      rw [nI_1]
      rw [not_pos (Int64.not_lt.mpr z), Nat.add_zero] at g1
      exact g1
    · have hp : 0 < L.ba a := Int64.not_le.mp z
      have eL : Int64.ofNat (pS L.ba a) + L.ba a = Int64.ofNat (pS L.ba a + (L.ba a).toInt.toNat) := by
        conv => lhs; rw [of_pos hp, ← Int64.ofNat_add]
      rw [if_neg z, le_f1 hA, le_r2 hA (by omega), hB, le_f1 hA, le_r2 hA (by omega), hB, isBelow_mk, bd_some]
      unfold fX3_addTrial_58 fX3_addTrial_60
      rw [nI_1]
      by_cases w : (Int64.ofNat (pS L.ba a) + L.ba a).toUInt64.toNat < (L.ba a).toUInt64.toNat
      · rw [if_pos w, if_neg (by decide)]
        rw [(carry hp).mp w] at g1
        rw [eL]
        rw [Int64.ofNat_add] at g1
        exact g1
      · rw [if_neg w, if_pos rfl]
        rw [nocarry (fun x => w ((carry hp).mpr x))] at g1
        rw [eL, Int64.add_zero]
        exact g1
theorem trial_spec (hA : LedAt N S R b) (I : Nat → Nat → Int32) (J : Nat → Nat → Int64) (L : Lg) (hC : CRep b I J L) (hna : L.na ≤ 40) (hne : L.ne < 200) (hst : L.st L.ne ≤ 82 * L.ne) :
    ∃ (I' : Nat → Nat → Int32) (J' : Nat → Nat → Int64), fX3_addTrial b (N, SL, S, R, I, J) = some ((), (N, SL, S, R, I', J')) ∧ CRep b I' J' (trl L) ∧ (∀ c, (c < b ∨ b + 13 < c) → I' c = I c) ∧ ∀ c, c ≠ b + 7 → J' c = J c := by
  have h := trial_loop (SL := SL) hA I J L hC hna hne hst L.na 0 FU (by omega) (by unfold FU; omega)
  have e0 : Int64.ofNat (pS L.ba 0 / 2 ^ 64) = 0 := by rw [show pS L.ba 0 = 0 from rfl, Nat.zero_div]; rfl
  have e1 : Int64.ofNat (pS L.ba 0) = 0 := rfl
  rw [e0, e1] at h
  exact h
/-- move(key, legs): the entry, and the TRIAL that it may bring -/
theorem move_spec (hA : LedAt N S R b) (hG : LgAt N S R g) (hgb : g + 16 < b ∨ b + 13 < g) (I : Nat → Nat → Int32) (J : Nat → Nat → Int64) (L : Lg) (hC : CRep b I J L) (hna : L.na ≤ 40) (hne : L.ne < 200) (hst : L.st L.ne ≤ 82 * L.ne) (hev : L.ev ≤ 50) (hsi : L.si ≤ L.ne) (h8 : ∀ i, i < L.ne → (L.es i).nl ≤ 8) (n : Nat) (lg : Nat → Nat × Int64) (hl : LegsOk I J g n lg) (bb : Nat → Int64) (hbb : ∀ a, a < L.na → J (b + 4) a = bb a) (l : List Nat) (hd : DrOk I (b + 12) l) (hll : l.length ≤ 82) (key : Int64) (kd ha hm : Nat) :
    ∃ (I' : Nat → Nat → Int32) (J' : Nat → Nat → Int64), fX3_move b key g (N, SL, S, R, I, J) = some (nI L.ne, (N, SL, S, R, I', J')) ∧ CRep b I' J' (mvT (mvE L bb (kd, key, n, lg, -1, ha, hm) l)) ∧ (∀ c, (c < b ∨ b + 13 < c) → I' c = I c) ∧ ∀ c, (c < b ∨ b + 11 < c) → J' c = J c := by
  have hb0 := hA.1.1.2.1
  have hbN := hA.1.2.1
  have hn8 := hl.2.1
  obtain ⟨J0, hJ0⟩ : ∃ J0, J0 = u1 J (b + 2) (va_cpy (J (b + 4)) (J (b + 2)) 0 0 L.na) := ⟨_, rfl⟩
  have hC0 : CRep b I J0 (L.wba bb) := by
    rw [hJ0]
    refine CRep.bal hC bb _ (fun a ha => ?_)
    unfold va_cpy
    rw [if_pos ⟨by omega, by omega⟩, Nat.sub_zero, Nat.zero_add]
    exact hbb a ha
  obtain ⟨I1, J1, k1, k2, k3, k4⟩ := append_spec (SL := SL) hA I J0 (L.wba bb) hC0 hne hst l hd hll key kd ha hm lg
  have hl1 : LegsOk I1 J1 g n lg := ⟨by rw [k3 g (by omega) (by omega) (by omega) (by omega) (by omega)]; exact hl.1, hn8, fun k hk => by
    rw [k3 (g + 1) (by omega) (by omega) (by omega) (by omega) (by omega), k4 (g + 2) (by omega), hJ0, u1_ne (by omega)]
    exact hl.2.2 k hk⟩
  obtain ⟨y, I2, J2, m1, m2, m3, m4, m5⟩ := legs_loop (SL := SL) hA hG hgb L.ne hne n lg n 0 FU (u2 I1 (b + 9) L.ne (nI n)) J1 (by omega) (by unfold FU; omega) ⟨by rw [u2_ne (by omega)]; exact hl1.1, hn8, fun k hk => by rw [u2_ne (by omega)]; exact hl1.2.2 k hk⟩ (fun j hj => absurd hj (by omega))
  have hC2 := CRep.legs k2 (fun i hi => by
    show (up L.es L.ne _ i).nl ≤ 8
    have hi' : i < L.ne + 1 := hi
    by_cases z : i = L.ne
    · rw [z, up_eq]; exact Nat.zero_le _
    · rw [up_ne z]; exact h8 i (by omega)) (i := L.ne) (n := n) (Nat.lt_succ_self _) (lg := lg) (I' := I2) (J' := J2) (fun c a1 a2 => by rw [m2 c a2, u2_ne a1]) (fun c a1 => m3 c a1) (by rw [m2 _ (by omega), u2_at]) (fun p hp => ⟨by rw [(m4 p hp).1, u2_ne (by omega)], (m4 p hp).2⟩) m5
  have eL : (app (L.wba bb) (kd, key, 0, lg, -1, ha, hm) l).wes (up (app (L.wba bb) (kd, key, 0, lg, -1, ha, hm) l).es L.ne (((app (L.wba bb) (kd, key, 0, lg, -1, ha, hm) l).es L.ne).kd, ((app (L.wba bb) (kd, key, 0, lg, -1, ha, hm) l).es L.ne).ky, n, lg, ((app (L.wba bb) (kd, key, 0, lg, -1, ha, hm) l).es L.ne).en, ((app (L.wba bb) (kd, key, 0, lg, -1, ha, hm) l).es L.ne).ha, ((app (L.wba bb) (kd, key, 0, lg, -1, ha, hm) l).es L.ne).hm)) = app (L.wba bb) (kd, key, n, lg, -1, ha, hm) l := by
    have e0 : (app (L.wba bb) (kd, key, 0, lg, -1, ha, hm) l).es L.ne = (kd, key, 0, lg, -1, ha, hm) := up_eq
    rw [e0]
    have e1 : up (app (L.wba bb) (kd, key, 0, lg, -1, ha, hm) l).es L.ne (kd, key, n, lg, -1, ha, hm) = up L.es L.ne (kd, key, n, lg, -1, ha, hm) := by
      funext j
      by_cases z : j = L.ne
      · rw [z, up_eq, up_eq]
      · rw [up_ne z, up_ne z]; exact up_ne z
    show Lg.wes _ (up (app (L.wba bb) (kd, key, 0, lg, -1, ha, hm) l).es L.ne (kd, key, n, lg, -1, ha, hm)) = _
    rw [e1]
    rfl
  rw [eL] at hC2
  have hC3 : CRep b (u2 I2 b 17 (nI (L.si + 1))) J2 (mvE L bb (kd, key, n, lg, -1, ha, hm) l) := CRep.si hC2 (L.si + 1)
  have f2g : I2 g 2 = nI n := by rw [m2 _ (by omega), u2_ne (by omega)]; exact hl1.1
  have f17 : I2 b 17 = nI L.si := hC2.1.2.2.2.1
  have frI : ∀ c, (c < b ∨ b + 13 < c) → u2 I2 b 17 (nI (L.si + 1)) c = I c := fun c hc => by rw [u2_ne (by omega), m2 c (by omega), u2_ne (by omega), k3 c (by omega) (by omega) (by omega) (by omega) (by omega)]
  have frJ : ∀ c, (c < b ∨ b + 11 < c) → J2 c = J c := fun c hc => by rw [m3 c (by omega), k4 c (by omega), hJ0, u1_ne (by omega)]
  have start : fX3_move b key g (N, SL, S, R, I, J) = (if nI L.ev ≤ 0 then fX3_move_135 (nI L.ne) (N, SL, S, R, u2 I2 b 17 (nI (L.si + 1)), J2) else if nI (L.si + 1) < nI L.ev then fX3_move_135 (nI L.ne) (N, SL, S, R, u2 I2 b 17 (nI (L.si + 1)), J2) else if (200 : Int32) ≤ nI (L.ne + 1) then fX3_move_135 (nI L.ne) (N, SL, S, R, u2 I2 b 17 (nI (L.si + 1)), J2) else bd (fX3_addTrial b (N, SL, S, R, u2 I2 b 17 (nI (L.si + 1)), J2)) fun _ M => fX3_move_135 (nI L.ne) M) := by
    unfold fX3_move
    rw [le_f3 hA, le_f1 hA, le_g hA, hC.1.1, show (0 : Int32) = nI 0 from rfl, cpJ_mk (n := L.na) (by omega) (by omega) (by omega) (by omega) hA.2.2.2.2.2.1 hA.2.2.2.1 (by omega) (by omega) (by decide) (by decide), ← hJ0, le_o hA, k1, bd_some]
    show gR _ 3 9 b _ = _
    rw [le_f9 hA, lg_g hG, hl1.1]
    show wI _ .int _ (nI L.ne) _ _ = _
    rw [le_w9 hA (by omega)]
    show fX3_move_38 FU b g (nI L.ne) (nI 0) _ = _
    rw [m1, fX3_move_38, lg_g hG, f2g, if_pos ((nI_leI (by omega) (by omega)).mpr (by omega)), le_g hA, f17, nI_1, le_p hA, le_g hA, le_g hA, le_g hA, le_g hA, le_o hA]
    rw [hC3.1.2.2.1, hC3.1.2.2.2.1, hC3.1.2.1]
    rfl
  rw [start]
  unfold mvT
  have eev : (mvE L bb (kd, key, n, lg, -1, ha, hm) l).ev = L.ev := rfl
  have esi : (mvE L bb (kd, key, n, lg, -1, ha, hm) l).si = L.si + 1 := rfl
  have ene : (mvE L bb (kd, key, n, lg, -1, ha, hm) l).ne = L.ne + 1 := rfl
  rw [eev, esi, ene]
  by_cases z1 : L.ev = 0
  · rw [if_pos (show nI L.ev ≤ 0 by rw [z1]; decide), if_neg (fun x => by omega)]
    exact ⟨_, _, rfl, hC3, frI, frJ⟩
  · rw [if_neg (show ¬ nI L.ev ≤ 0 from nI_lt_of (t := 0) (by omega) (by omega))]
    by_cases z2 : L.si + 1 < L.ev
    · rw [if_pos (nI_lt z2 (by omega)), if_neg (fun x => by omega)]
      exact ⟨_, _, rfl, hC3, frI, frJ⟩
    · rw [if_neg (nI_nlt (by omega) (by omega))]
      by_cases z3 : L.ne + 1 < 200
      · rw [if_neg (show ¬ (200 : Int32) ≤ nI (L.ne + 1) from nI_lt_of (k := 200) (by decide) z3), if_pos ⟨by omega, by omega, z3⟩]
        obtain ⟨I4, J4, t1, t2, t3, t4⟩ := trial_spec (SL := SL) hA _ _ _ hC3 hna z3 (by
          show up L.st (L.ne + 1) (L.st L.ne + l.length) (L.ne + 1) ≤ 82 * (L.ne + 1)
          rw [up_eq]; omega)
        refine ⟨I4, J4, by rw [t1, bd_some]; rfl, t2, fun c hc => by rw [t3 c hc, frI c hc], fun c hc => by rw [t4 c (by omega), frJ c hc]⟩
      · rw [if_pos (show (200 : Int32) ≤ nI (L.ne + 1) from (nI_leI (a := 200) (by decide) (by omega)).mpr (by omega)), if_neg (fun x => z3 x.2.2)]
        exact ⟨_, _, rfl, hC3, frI, frJ⟩
end Move
