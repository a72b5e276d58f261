-- P3: the calls that make entries, without a machine
def noL : Nat → Nat × Int64 := fun _ => (0, 0)
/-- all are bytes -/
def ByL (l : List Nat) : Prop := ∀ x ∈ l, x < 256
theorem ByL.get {l : List Nat} (h : ByL l) (k : Nat) : l.getD k 0 < 256 := by
  by_cases q : k < l.length
  · rw [List.getD_eq_getElem?_getD, List.getElem?_eq_getElem q]
    exact h _ (List.getElem_mem q)
  · rw [List.getD_eq_getElem?_getD, List.getElem?_eq_none (by omega)]
    decide
theorem ByL.app {l l' : List Nat} (h : ByL l) (h' : ByL l') : ByL (l ++ l') := fun x hx => (List.mem_append.mp hx).elim (h x) (h' x)
theorem lB_by (v : Int64) : ∀ w, ByL (lB v w)
  | 0 => fun x hx => absurd hx (by simp [lB])
  | w + 1 => fun x hx => by
    rw [lB, List.mem_cons] at hx
    rcases hx with rfl | hx
    · exact bN_lt v w
    · exact lB_by v w x hx
theorem ByL.one {a : Nat} (h : a < 256) : ByL [a] := fun x hx => by
  rw [List.mem_singleton] at hx
  rw [hx]; exact h
theorem ByL.two {a c : Nat} (h : a < 256) (h' : c < 256) : ByL [a, c] := fun x hx => by
  rw [List.mem_cons, List.mem_singleton] at hx
  rcases hx with rfl | rfl
  · exact h
  · exact h'
/-- the bytes of q legs from k on -/
def lgB (lg : Nat → Nat × Int64) : Nat → Nat → List Nat
  | 0, _ => []
  | q + 1, k => ([(lg k).1] ++ lB (lg k).2 8) ++ lgB lg q (k + 1)
theorem lgB_len (lg : Nat → Nat × Int64) : ∀ q k, (lgB lg q k).length = 9 * q
  | 0, _ => rfl
  | q + 1, k => by
    rw [lgB, List.length_append, List.length_append, lgB_len lg q (k + 1), lB_len]
    show 1 + 8 + 9 * q = _
    omega
theorem lgB_by (lg : Nat → Nat × Int64) : ∀ q k, (∀ j, k ≤ j → j < k + q → (lg j).1 < 256) → ByL (lgB lg q k)
  | 0, _, _ => fun x hx => absurd hx (by simp [lgB])
  | q + 1, k, h => by
    rw [lgB]
    exact ((ByL.one (h k (by omega) (by omega))).app (lB_by _ _)).app (lgB_by lg q (k + 1) (fun j a c => h j (by omega) (by omega)))
/-- the bytes of the calls -/
def lOpen (f : Int64) : List Nat := [1] ++ lB f 8
def lPost (key : Int64) (n : Nat) (lg : Nat → Nat × Int64) : List Nat := [2] ++ lB key 8 ++ [n] ++ lgB lg n 0
def lHold (key : Int64) (a : Nat) (v : Int64) : List Nat := [3] ++ lB key 8 ++ [a] ++ lB v 8
def lRel (e : Nat) : List Nat := [4] ++ [0, e]
def lCap (key : Int64) (e a : Nat) (v : Int64) : List Nat := [5] ++ lB key 8 ++ [0, e] ++ [a] ++ lB v 8
def lRev (key : Int64) (e : Nat) : List Nat := [6] ++ lB key 8 ++ [0, e]
/-- an account more -/
def openL (L : Lg) (f : Int64) : Lg := app ((L.na + 1, L.ne, L.ev, L.si, L.hc), up L.fl L.na f, up L.ba L.na 0, up L.he L.na 0, L.es, L.yb, L.st) (1, 0, 0, noL, -1, 0, 0) (lOpen f)
def aOpen (L : Lg) (f : Int64) : Int32 × Lg := if 0 < f then (-6, L) else if 200 ≤ L.ne then (-8, L) else if 40 ≤ L.na then (-1, L) else (nI L.na, openL L f)
/-- held of a more -/
def holdL (L : Lg) (key : Int64) (a v : Nat) : Lg := app ((L.na, L.ne, L.ev, L.si, L.hc + 1), L.fl, L.ba, up L.he a (L.he a + v), L.es, L.yb, L.st) (3, key, 0, noL, -1, a, v) (lHold key a (Int64.ofNat v))
def aHold (L : Lg) (key : Int64) (a v : Nat) : Int32 × Lg := if ansB L key (lHold key a (Int64.ofNat v)) ≠ -1 then (ansB L key (lHold key a (Int64.ofNat v)), L) else if L.na ≤ a then (-2, L) else if (L.ba a).toInt < (L.fl a).toInt + ((L.he a + v : Nat) : Int) then (-6, L) else if 200 ≤ L.ne then (-8, L) else (nI L.ne, holdL L key a v)
def aRel (L : Lg) (e : Nat) : Int32 × Lg := if ¬ (e < L.ne ∧ thB (L.es e) = true) then (-2, L) else if 200 ≤ L.ne then (-8, L) else (nI L.ne, app (L.ends e (nI L.ne)) (4, 0, 0, noL, -1, 0, 0) (lRel e))
/-- the balances behind, where none goes over -/
def bhO (L : Lg) (n : Nat) (lg : Nat → Nat × Int64) : Nat → Int64 := (bhR lg n 0 L.ba).getD L.ba
def aPost (L : Lg) (key : Int64) (n : Nat) (lg : Nat → Nat × Int64) : Int32 × Lg := if ansB L key (lPost key n lg) ≠ -1 then (ansB L key (lPost key n lg), L) else if ¬ (∀ j, j < n → (lg j).1 < L.na) then (-2, L) else if ¬ evenL n lg then (-3, L) else if wgh L L.he n lg ≠ 0 then (wgh L L.he n lg, L) else (nI L.ne, mvT (mvE L (bhO L n lg) (2, key, n, lg, -1, 0, 0) (lPost key n lg)))
/-- the legs of a CAPTURE -/
def cLg (ha a : Nat) (v : Int64) : Nat → Nat × Int64 := fun k => if k = 0 then (ha, 0 - v) else (a, v)
def aCap (L : Lg) (key : Int64) (e a v : Nat) : Int32 × Lg := if ansB L key (lCap key e a (Int64.ofNat v)) ≠ -1 then (ansB L key (lCap key e a (Int64.ofNat v)), L) else if ¬ (e < L.ne ∧ thB (L.es e) = true ∧ a < L.na ∧ v ≤ (L.es e).hm) then (-2, L) else
  if wgh L (up L.he (L.es e).ha (L.he (L.es e).ha - (L.es e).hm)) 2 (cLg (L.es e).ha a (Int64.ofNat v)) ≠ 0 then (wgh L (up L.he (L.es e).ha (L.he (L.es e).ha - (L.es e).hm)) 2 (cLg (L.es e).ha a (Int64.ofNat v)), L) else (nI L.ne, mvT (mvE (L.ends e (nI L.ne)) (bhO L 2 (cLg (L.es e).ha a (Int64.ofNat v))) (5, key, 2, cLg (L.es e).ha a (Int64.ofNat v), -1, 0, 0) (lCap key e a (Int64.ofNat v))))
/-- the legs of a REVERSAL -/
def rLg (lg : Nat → Nat × Int64) : Nat → Nat × Int64 := fun k => ((lg k).1, 0 - (lg k).2)
/-- entry e is reversed by entry x -/
def Lg.revd (L : Lg) (i : Nat) (x : Int32) : Lg := L.wes (up L.es i ((L.es i).kd, (L.es i).ky, (L.es i).nl, (L.es i).lg, x, (L.es i).ha, (L.es i).hm))
def aRev (L : Lg) (key : Int64) (e : Nat) : Int32 × Lg := if ansB L key (lRev key e) ≠ -1 then (ansB L key (lRev key e), L) else if ¬ (e < L.ne ∧ (L.es e).nl ≠ 0) then (-2, L) else if (L.es e).en ≠ -1 then (-7, L) else
  if wgh L L.he (L.es e).nl (rLg (L.es e).lg) ≠ 0 then (wgh L L.he (L.es e).nl (rLg (L.es e).lg), L) else (nI L.ne, mvT (mvE (L.revd e (nI L.ne)) (bhO L (L.es e).nl (rLg (L.es e).lg)) (6, key, (L.es e).nl, rLg (L.es e).lg, -1, 0, 0) (lRev key e)))
section OpsC
variable {N SL : Nat} {S : Nat → Shp} {R : Nat → Nat → Option Nat} {b g : Nat}
/-- what a call of the class's ledger at b comes to -/
def CTo (N SL : Nat) (S : Nat → Shp) (R : Nat → Nat → Option Nat) (b : Nat) (I : Nat → Nat → Int32) (J : Nat → Nat → Int64) (r : Option (Int32 × Mem)) (p : Int32 × Lg) : Prop :=
  ∃ (I' : Nat → Nat → Int32) (J' : Nat → Nat → Int64), r = some (p.1, (N, SL, S, R, I', J')) ∧ CRep b I' J' p.2 ∧ (∀ c, (c < b ∨ b + 16 < c) → I' c = I c) ∧ ∀ c, (c < b ∨ b + 16 < c) → J' c = J c
theorem open_C (hA : LedAt N S R b) (I : Nat → Nat → Int32) (J : Nat → Nat → Int64) (L : Lg) (hC : CRep b I J L) (hL : LInv L) (f : Int64) : CTo N SL S R b I J (fX3_addAccount b f (N, SL, S, R, I, J)) (aOpen L f) := by
  have hb0 := hA.1.1.2.1
  have h1 := hL.1
  unfold fX3_addAccount aOpen
  by_cases z : 0 < f
  · rw [if_neg (Int64.not_le.mpr z), if_pos z]
    exact ⟨I, J, rfl, hC, fun _ _ => rfl, fun _ _ => rfl⟩
  rw [if_pos (Int64.not_lt.mp z), if_neg z, le_g hA, hC.1.2.1]
  by_cases z2 : 200 ≤ L.ne
  · rw [if_neg (show ¬ nI L.ne < (200 : Int32) from nI_nlt (b := 200) z2 (by omega)), if_pos z2]
    exact ⟨I, J, rfl, hC, fun _ _ => rfl, fun _ _ => rfl⟩
  rw [if_pos (show nI L.ne < (200 : Int32) from nI_lt (b := 200) (by omega) (by decide)), if_neg z2, le_g hA, hC.1.1]
  by_cases z3 : 40 ≤ L.na
  · rw [if_neg (show ¬ nI L.na < (40 : Int32) from nI_nlt (b := 40) z3 (by omega)), if_pos z3]
    exact ⟨I, J, rfl, hC, fun _ _ => rfl, fun _ _ => rfl⟩
  rw [if_pos (show nI L.na < (40 : Int32) from nI_lt (b := 40) (by omega) (by decide)), if_neg z3, le_g hA, hC.1.1, le_f0 hA, le_w1 hA (by omega), le_f1 hA, le_w2 hA (by omega), le_f2 hA, le_w3 hA (by omega), le_g hA, hC.1.1, nI_1, le_p hA]
  obtain ⟨⟨h4, h12, h16, h17, h15⟩, hB, hS, hE, hY⟩ := hC
  have hC1 : CRep b (u2 I b 4 (nI (L.na + 1))) (u2 (u2 (u2 J (b + 1) L.na f) (b + 2) L.na 0) (b + 3) L.na 0) ((L.na + 1, L.ne, L.ev, L.si, L.hc), up L.fl L.na f, up L.ba L.na 0, up L.he L.na 0, L.es, L.yb, L.st) := by
    refine ⟨⟨?_, ?_, ?_, ?_, ?_⟩, ?_, ?_, ?_, ?_⟩
    · rw [u2_at, up_eq]; rfl
    · rw [u2_at, up_ne (by decide)]; exact h12
    · rw [u2_at, up_ne (by decide)]; exact h16
    · rw [u2_at, up_ne (by decide)]; exact h17
    · rw [u2_at, up_ne (by decide)]; exact h15
    · intro a ha
      rw [u2_ne (show b + 1 ≠ b + 3 by omega), u2_ne (show b + 1 ≠ b + 2 by omega), u2_at, u2_ne (show b + 2 ≠ b + 3 by omega), u2_at, u2_at, u2_ne (show b + 2 ≠ b + 1 by omega), u2_ne (show b + 3 ≠ b + 2 by omega), u2_ne (show b + 3 ≠ b + 1 by omega)]
      show up _ _ _ a = up _ _ _ a ∧ up _ _ _ a = up _ _ _ a ∧ up _ _ _ a = Int64.ofNat (up L.he L.na 0 a)
      have ha' : a < L.na + 1 := ha
      by_cases w : a = L.na
      · rw [w, up_eq, up_eq, up_eq, up_eq, up_eq, up_eq]; exact ⟨rfl, rfl, rfl⟩
      · rw [up_ne w, up_ne w, up_ne w, up_ne w, up_ne w, up_ne w]; exact hB a (by omega)
    · rw [u2_ne (by omega)]; exact hS
    · rw [u2_ne (show b + 8 ≠ b by omega), u2_ne (show b + 9 ≠ b by omega), u2_ne (show b + 10 ≠ b by omega), u2_ne (show b + 7 ≠ b + 3 by omega), u2_ne (show b + 7 ≠ b + 2 by omega), u2_ne (show b + 7 ≠ b + 1 by omega), u2_ne (show b + 11 ≠ b + 3 by omega), u2_ne (show b + 11 ≠ b + 2 by omega), u2_ne (show b + 11 ≠ b + 1 by omega)]; exact hE
    · rw [u2_ne (by omega)]; exact hY
  obtain ⟨J1, hJ1⟩ : ∃ J1, J1 = u2 (u2 (u2 J (b + 1) L.na f) (b + 2) L.na 0) (b + 3) L.na 0 := ⟨_, rfl⟩
  rw [← hJ1] at hC1 ⊢
  obtain ⟨I2, a1, a2, a3⟩ := beginD (SL := SL) hA.dr J1 (1 : Int32) (u2 I b 4 (nI (L.na + 1)))
  rw [show lB (Int32.toInt64 1) 1 = [1] from lB1 1 (by decide)] at a3
  obtain ⟨I3, c1, c2, c3⟩ := addD8 (SL := SL) hA.dr J1 f _ I2 (by decide) a3
  have hfr : DF (b + 12) _ I3 := a2.trans c2
  have hC3 := CRep.congr (fun c h1 h2 => hfr c (by omega) (by omega)) (fun _ _ _ _ => rfl) hC1
  obtain ⟨I5, J5, k1, k2, k3, k4⟩ := append_spec (SL := SL) hA I3 J1 _ hC3 (show L.ne < 200 by omega) (LInv.st_le hL _ (Nat.le_refl _)) _ c3 (by rw [List.length_append, lB_len]; decide) 0 1 0 0 noL
  refine ⟨I5, J5, ?_, k2, fun c hc => by rw [k3 c (by omega) (by omega) (by omega) (by omega) (by omega), hfr c (by omega) (by omega), u2_ne (by omega)], fun c hc => by rw [k4 c (by omega), hJ1, u2_ne (by omega), u2_ne (by omega), u2_ne (by omega)]⟩
  rw [le_f13 hA, dr_o hA.dr, a1, bd_some, le_f13 hA, dr_o hA.dr, c1, bd_some, le_o hA, k1, bd_some]
/-- the draft of a keyed call -/
theorem byte_of {x : Int32} (h : ¬ (x < 0 ∨ 255 < x)) : ∃ a, x = nI a ∧ a < 256 := by
  obtain ⟨a, h1, h2⟩ := nI_sm (n := 255) (fun q => h (Or.inl q)) (Or.inr (Int32.not_lt.mp (fun q => h (Or.inr q)))) (by decide)
  exact ⟨a, h1, by omega⟩
theorem ent_of {x : Int32} (h : ¬ (x < 0 ∨ 200 ≤ x)) : ∃ a, x = nI a ∧ a < 200 := by
  obtain ⟨a, h1, h2⟩ := nI_sm (n := 200) (fun q => h (Or.inl q)) (Or.inl (Int32.not_le.mp (fun q => h (Or.inr q)))) (by decide)
  refine ⟨a, h1, ?_⟩
  by_cases w : a = 200
  · exact absurd (Or.inr (by rw [h1, w]; decide)) h
  · omega
set_option maxHeartbeats 4000000 in
theorem hold_C (hA : LedAt N S R b) (I : Nat → Nat → Int32) (J : Nat → Nat → Int64) (L : Lg) (hC : CRep b I J L) (hL : LInv L) (key : Int64) (x : Int32) (v : Int64) : CTo N SL S R b I J (fX3_addHold b key x v (N, SL, S, R, I, J)) (if key = 0 ∨ (x < 0 ∨ 255 < x) ∨ ¬ 0 < v then (-1, L) else aHold L key x.toNatClampNeg v.toInt.toNat) := by
  have hb0 := hA.1.1.2.1
  have h1 := hL.1
  unfold fX3_addHold fX3_addHold_20
  have same : ∀ (I' : Nat → Nat → Int32) (z : Int32), DF (b + 12) I I' → CTo N SL S R b I J (some (z, (N, SL, S, R, I', J))) (z, L) := fun I' z h => ⟨I', J, rfl, CRep.congr (fun c h1 h2 => h c (by omega) (by omega)) (fun _ _ _ _ => rfl) hC, fun c hc => h c (by omega) (by omega), fun _ _ => rfl⟩
  by_cases z1 : key = 0
  · rw [if_pos z1, if_pos (Or.inl z1)]
    exact same I _ (fun _ _ _ => rfl)
  rw [if_neg z1, isByte_mk, bd_some]
  by_cases z2 : x < 0 ∨ 255 < x
  · rw [if_pos z2, if_pos rfl, if_pos (Or.inr (Or.inl z2))]
    exact same I _ (fun _ _ _ => rfl)
  rw [if_neg z2, if_neg (by decide)]
  by_cases z3 : ¬ 0 < v
  · rw [if_neg z3, if_pos (Or.inr (Or.inr z3))]
    exact same I _ (fun _ _ _ => rfl)
  have z3 : 0 < v := Decidable.not_not.mp z3
  rw [if_pos z3, if_neg (fun q => q.elim z1 (fun q => q.elim z2 (fun q => q z3)))]
  obtain ⟨a, rfl, ha⟩ := byte_of z2
  obtain ⟨V, hV⟩ : ∃ V, V = v.toInt.toNat := ⟨_, rfl⟩
  have hvI := tI_hi v
  have hv0 : 0 < v.toInt := Int64.lt_iff_toInt_lt.mp z3
  have ev : v = Int64.ofNat V := by rw [hV]; exact of_pos z3
  have hV2 : V < 9223372036854775808 := by omega
  rw [nI_clamp (by omega), ← hV]
  rw [ev]
  unfold aHold
  obtain ⟨I1, a1, a2, a3⟩ := beginKD (SL := SL) hA.dr J (3 : Int32) key I
  rw [show lB (Int32.toInt64 3) 1 = [3] from lB1 3 (by decide)] at a3
  obtain ⟨I2, c1, c2, c3⟩ := addD1 (SL := SL) hA.dr J (nI a).toInt64 _ I1 (by simp [lB_len]) a3
  rw [lB1 a ha] at c3
  obtain ⟨I3, d1, d2, d3⟩ := addD8 (SL := SL) hA.dr J (Int64.ofNat V) _ I2 (by simp [lB_len]) c3
  have hfr : DF (b + 12) I I3 := (a2.trans c2).trans d2
  have hC3 := CRep.congr (fun c h1 h2 => hfr c (by omega) (by omega)) (fun _ _ _ _ => rfl) hC
  have d3 : DrOk I3 (b + 12) (lHold key a (Int64.ofNat V)) := d3
  have hby : ByL (lHold key a (Int64.ofNat V)) := (((ByL.one (by decide)).app (lB_by _ _)).app (ByL.one ha)).app (lB_by _ _)
  have hlen : (lHold key a (Int64.ofNat V)).length = 18 := by unfold lHold; simp [lB_len]
  rw [le_f13 hA, dr_o hA.dr, a1, bd_some, le_f13 hA, dr_o hA.dr, c1, bd_some, le_f13 hA, dr_o hA.dr, d1, bd_some, le_o hA, ansB_spec hA I3 J L hC3 hL _ d3 hby.get (by omega) key, bd_some]
  by_cases z4 : ¬ ansB L key (lHold key a (Int64.ofNat V)) = -1
  · rw [if_neg z4, if_pos z4]
    exact same I3 _ hfr
  have z4 : ansB L key (lHold key a (Int64.ofNat V)) = -1 := Decidable.not_not.mp z4
  rw [if_pos z4, if_neg (fun q => q z4), le_g hA, hC3.1.1]
  by_cases z5 : L.na ≤ a
  · rw [if_neg (nI_nlt z5 (by omega)), if_pos z5]
    exact same I3 _ hfr
  have hB := hC3.2.1 a (by omega)
  have hi := hL.2.2.2.1 a (by omega)
  rw [if_pos (nI_lt (by omega) (by omega)), if_neg z5, le_f1 hA, le_r2 hA (by omega), le_f0 hA, le_r1 hA (by omega), le_f2 hA, le_r3 hA (by omega), hB.1, hB.2.1, hB.2.2, isBelow_mk, bd_some]
  have hbh := below_hold (b := L.ba a) (f := L.fl a) (H := L.he a) hi.1 hV2
  by_cases z6 : (L.ba a).toInt < (L.fl a).toInt + ((L.he a + V : Nat) : Int)
  · rw [if_pos (hbh.mpr z6), if_neg (by decide), if_pos z6]
    exact same I3 _ hfr
  rw [if_neg (fun q => z6 (hbh.mp q)), if_pos rfl, if_neg z6, le_g hA, hC3.1.2.1]
  by_cases z7 : 200 ≤ L.ne
  · rw [if_neg (show ¬ nI L.ne < (200 : Int32) from nI_nlt (b := 200) z7 (by omega)), if_pos z7]
    exact same I3 _ hfr
  rw [if_pos (show nI L.ne < (200 : Int32) from nI_lt (b := 200) (by omega) (by decide)), if_neg z7, le_f2 hA, le_r3 hA (by omega), hB.2.2, le_w3 hA (by omega), le_g hA, hC3.1.2.2.2.2, nI_1, le_p hA, ← Int64.ofNat_add]
  obtain ⟨⟨h4, h12, h16, h17, h15⟩, hB', hS, hE, hY⟩ := hC3
  have hC4 : CRep b (u2 I3 b 15 (nI (L.hc + 1))) (u2 J (b + 3) a (Int64.ofNat (L.he a + V))) ((L.na, L.ne, L.ev, L.si, L.hc + 1), L.fl, L.ba, up L.he a (L.he a + V), L.es, L.yb, L.st) := by
    refine ⟨⟨?_, ?_, ?_, ?_, ?_⟩, ?_, ?_, ?_, ?_⟩
    · rw [u2_at, up_ne (by decide)]; exact h4
    · rw [u2_at, up_ne (by decide)]; exact h12
    · rw [u2_at, up_ne (by decide)]; exact h16
    · rw [u2_at, up_ne (by decide)]; exact h17
    · rw [u2_at, up_eq]; rfl
    · intro c hc
      rw [u2_ne (by omega), u2_ne (by omega), u2_at]
      show J (b + 1) c = L.fl c ∧ J (b + 2) c = L.ba c ∧ up _ _ _ c = Int64.ofNat (up L.he a (L.he a + V) c)
      by_cases w : c = a
      · rw [w, up_eq, up_eq]; exact ⟨(hB' a (by omega)).1, (hB' a (by omega)).2.1, rfl⟩
      · rw [up_ne w, up_ne w]; exact hB' c hc
    · rw [u2_ne (by omega)]; exact hS
    · rw [u2_ne (show b + 8 ≠ b by omega), u2_ne (show b + 9 ≠ b by omega), u2_ne (show b + 10 ≠ b by omega), u2_ne (show b + 7 ≠ b + 3 by omega), u2_ne (show b + 11 ≠ b + 3 by omega)]; exact hE
    · rw [u2_ne (by omega)]; exact hY
  have d4 : DrOk (u2 I3 b 15 (nI (L.hc + 1))) (b + 12) (lHold key a (Int64.ofNat V)) := ⟨by rw [u2_ne (by omega)]; exact d3.1, by rw [u2_ne (by omega)]; exact d3.2⟩
  obtain ⟨I5, J5, k1, k2, k3, k4⟩ := append_spec (SL := SL) hA _ _ _ hC4 (show L.ne < 200 by omega) (LInv.st_le hL _ (Nat.le_refl _)) _ d4 (by omega) key 3 a V noL
  refine ⟨I5, J5, ?_, k2, fun c hc => by rw [k3 c (by omega) (by omega) (by omega) (by omega) (by omega), u2_ne (by omega), hfr c (by omega) (by omega)], fun c hc => by rw [k4 c (by omega), u2_ne (by omega)]⟩
  rw [le_o hA, k1, bd_some]
  rfl
end OpsC
