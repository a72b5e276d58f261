-- P6: the class as a whole, and its calls that make entries
/-- all objects of class and reference by their places -/
def TopAt (N : Nat) (S : Nat → Shp) (R : Nat → Nat → Option Nat) : Prop :=
  (Ob N S 3 8 ∧ 806 < N ∧ LedAt N S R 4 ∧ LgAt N S R 21 ∧ PgAt N S R 25 ∧ MdAt N S R 759) ∧
  (R 3 0 = some 4 ∧ R 3 1 = some 21 ∧ R 3 2 = some 24 ∧ R 3 3 = some 25 ∧ R 3 4 = some 692 ∧ R 3 5 = some 717 ∧ R 3 6 = some 737 ∧ R 3 7 = some 758) ∧
  (S 24 = .inl (.int, 201) ∧ S 758 = .inl (.int, 8) ∧ S 692 = .inl (.object "ChainBooks$Head", 8)) ∧
  (∀ k, k < 8 → R 692 k = some (693 + 3 * k) ∧ Ob N S (693 + 3 * k) 2 ∧ R (693 + 3 * k) 0 = some (694 + 3 * k) ∧ R (693 + 3 * k) 1 = some (695 + 3 * k) ∧ S (694 + 3 * k) = .inl (.int, 8) ∧ S (695 + 3 * k) = .inl (.int, 8)) ∧
  ((Ob N S 717 7 ∧ ShaAt N S R 731 ∧ R 717 0 = some 718 ∧ R 717 6 = some 728 ∧ R 717 7 = some 729 ∧ R 717 8 = some 730 ∧ R 717 12 = some 731 ∧ R 717 13 = some 735 ∧ R 717 14 = some 736) ∧ (S 718 = .inl (.array .int, 9) ∧ S 728 = .inl (.boolean, 8) ∧ S 729 = .inl (.int, 8) ∧ S 730 = .inl (.int, 8) ∧ S 735 = .inl (.int, 8) ∧ S 736 = .inl (.int, 8)) ∧ ∀ i, i < 9 → R 718 i = some (719 + i) ∧ S (719 + i) = .inl (.int, 8)) ∧
  (Ob N S 737 0 ∧ R 737 0 = some 738 ∧ R 737 1 = some 755 ∧ LedAt N S R 738 ∧ LgAt N S R 755)
theorem Ext.trans {L L' L'' : Lg} (h : Ext L L') (h' : Ext L' L'') : Ext L L'' := ⟨Nat.le_trans h.1 h'.1, fun i hi => (h'.2 i (Nat.le_trans hi h.1)).trans (h.2 i hi)⟩
theorem Ext.refl {L : Lg} : Ext L L := ⟨Nat.le_refl _, fun _ _ => rfl⟩
theorem ext_app {L L0 : Lg} {e : En} {l : List Nat} (h1 : L0.ne = L.ne) (h2 : L0.st = L.st) : Ext L (app L0 e l) := by
  refine ⟨by show L.ne ≤ L0.ne + 1; omega, fun i hi => ?_⟩
  show up L0.st (L0.ne + 1) _ i = L.st i
  rw [up_ne (by omega), h2]
theorem ext_mvT {L L' : Lg} (h : Ext L L') : Ext L (mvT L') := by
  unfold mvT
  by_cases w : 0 < L'.ev ∧ L'.ev ≤ L'.si ∧ L'.ne < 200
  · rw [if_pos w]; exact h.trans (ext_app (L := L') rfl rfl)
  · rw [if_neg w]; exact h
theorem nd_mvT {L : Lg} : ¬ Due (mvT L) := by
  unfold mvT
  by_cases w : 0 < L.ev ∧ L.ev ≤ L.si ∧ L.ne < 200
  · rw [if_pos w]
    intro q
    have a : 0 < L.ev := q.1
    have b : L.ev ≤ 0 := q.2.1
    omega
  · rw [if_neg w]; exact w
/-- what every call keeps -/
def Keeps (L : Lg) (p : Int32 × Lg) : Prop := LInv p.2 ∧ Ext L p.2 ∧ ¬ Due p.2
theorem Keeps.same {L : Lg} (hL : LInv L) (hd : ¬ Due L) (x : Int32) : Keeps L (x, L) := ⟨hL, Ext.refl, hd⟩
theorem nd_next {L L' : Lg} (hd : ¬ Due L) (h1 : L'.ev = L.ev) (h2 : L'.si = L.si) (h3 : L'.ne = L.ne + 1) : ¬ Due L' := fun q => hd ⟨by have := q.1; omega, by have := q.2.1; omega, by have := q.2.2; omega⟩
theorem aOpen_keeps {L : Lg} (hL : LInv L) (hd : ¬ Due L) (f : Int64) : Keeps L (aOpen L f) := by
  refine ⟨aOpen_inv hL f, ?_⟩
  unfold aOpen
  by_cases z1 : 0 < f
  · rw [if_pos z1]; exact ⟨Ext.refl, hd⟩
  rw [if_neg z1]
  by_cases z2 : 200 ≤ L.ne
  · rw [if_pos z2]; exact ⟨Ext.refl, hd⟩
  rw [if_neg z2]
  by_cases z3 : 40 ≤ L.na
  · rw [if_pos z3]; exact ⟨Ext.refl, hd⟩
  rw [if_neg z3]
  exact ⟨ext_app rfl rfl, nd_next hd rfl rfl rfl⟩
theorem aHold_keeps {L : Lg} (hL : LInv L) (hd : ¬ Due L) (key : Int64) (a v : Nat) (hv0 : 0 < v) (hv : v < 9223372036854775808) : Keeps L (aHold L key a v) := by
  refine ⟨aHold_inv hL key a v hv0 hv, ?_⟩
  unfold aHold
  by_cases z1 : ansB L key (lHold key a (Int64.ofNat v)) ≠ -1
  · rw [if_pos z1]; exact ⟨Ext.refl, hd⟩
  rw [if_neg z1]
  by_cases z2 : L.na ≤ a
  · rw [if_pos z2]; exact ⟨Ext.refl, hd⟩
  rw [if_neg z2]
  by_cases z3 : (L.ba a).toInt < (L.fl a).toInt + ((L.he a + v : Nat) : Int)
  · rw [if_pos z3]; exact ⟨Ext.refl, hd⟩
  rw [if_neg z3]
  by_cases z4 : 200 ≤ L.ne
  · rw [if_pos z4]; exact ⟨Ext.refl, hd⟩
  rw [if_neg z4]
  exact ⟨ext_app rfl rfl, nd_next hd rfl rfl rfl⟩
theorem aRel_keeps {L : Lg} (hL : LInv L) (hd : ¬ Due L) (e : Nat) (he : e < 200) : Keeps L (aRel L e) := by
  refine ⟨aRel_inv hL e he, ?_⟩
  unfold aRel
  by_cases z1 : ¬ (e < L.ne ∧ thB (L.es e) = true)
  · rw [if_pos z1]; exact ⟨Ext.refl, hd⟩
  rw [if_neg z1]
  by_cases z2 : 200 ≤ L.ne
  · rw [if_pos z2]; exact ⟨Ext.refl, hd⟩
  rw [if_neg z2]
  exact ⟨ext_app rfl rfl, nd_next hd rfl rfl rfl⟩
theorem ext_mvE {L L0 : Lg} {bb : Nat → Int64} {e : En} {l : List Nat} (h1 : L0.ne = L.ne) (h2 : L0.st = L.st) : Ext L (mvE L0 bb e l) := ext_app (L0 := L0.wba bb) h1 h2
theorem aPost_keeps {L : Lg} (hL : LInv L) (hd : ¬ Due L) (key : Int64) (n : Nat) (lg : Nat → Nat × Int64) (hn : n ≤ 8) (hlg : ∀ k, k < n → (lg k).1 < 256 ∧ (lg k).2 ≠ 0 ∧ (lg k).2 ≠ -9223372036854775808) : Keeps L (aPost L key n lg) := by
  refine ⟨aPost_inv hL key n lg hn hlg, ?_⟩
  unfold aPost
  by_cases z1 : ansB L key (lPost key n lg) ≠ -1
  · rw [if_pos z1]; exact ⟨Ext.refl, hd⟩
  rw [if_neg z1]
  by_cases z2 : ¬ (∀ j, j < n → (lg j).1 < L.na)
  · rw [if_pos z2]; exact ⟨Ext.refl, hd⟩
  rw [if_neg z2]
  by_cases z3 : ¬ evenL n lg
  · rw [if_pos z3]; exact ⟨Ext.refl, hd⟩
  rw [if_neg z3]
  by_cases z4 : wgh L L.he n lg ≠ 0
  · rw [if_pos z4]; exact ⟨Ext.refl, hd⟩
  rw [if_neg z4]
  exact ⟨ext_mvT (ext_mvE rfl rfl), nd_mvT⟩
theorem aCap_keeps {L : Lg} (hL : LInv L) (hd : ¬ Due L) (key : Int64) (e a v : Nat) (he : e < 200) (ha : a < 256) (hv0 : 0 < v) (hv : v < 9223372036854775808) : Keeps L (aCap L key e a v) := by
  refine ⟨aCap_inv hL key e a v he ha hv0 hv, ?_⟩
  unfold aCap
  by_cases z1 : ansB L key (lCap key e a (Int64.ofNat v)) ≠ -1
  · rw [if_pos z1]; exact ⟨Ext.refl, hd⟩
  rw [if_neg z1]
  by_cases z2 : ¬ (e < L.ne ∧ thB (L.es e) = true ∧ a < L.na ∧ v ≤ (L.es e).hm)
  · rw [if_pos z2]; exact ⟨Ext.refl, hd⟩
  rw [if_neg z2]
  by_cases z4 : wgh L (up L.he (L.es e).ha (L.he (L.es e).ha - (L.es e).hm)) 2 (cLg (L.es e).ha a (Int64.ofNat v)) ≠ 0
  · rw [if_pos z4]; exact ⟨Ext.refl, hd⟩
  rw [if_neg z4]
  exact ⟨ext_mvT (ext_mvE rfl rfl), nd_mvT⟩
theorem aRev_keeps {L : Lg} (hL : LInv L) (hd : ¬ Due L) (key : Int64) (e : Nat) (he : e < 200) : Keeps L (aRev L key e) := by
  refine ⟨aRev_inv hL key e he, ?_⟩
  unfold aRev
  by_cases z1 : ansB L key (lRev key e) ≠ -1
  · rw [if_pos z1]; exact ⟨Ext.refl, hd⟩
  rw [if_neg z1]
  by_cases z2 : ¬ (e < L.ne ∧ (L.es e).nl ≠ 0)
  · rw [if_pos z2]; exact ⟨Ext.refl, hd⟩
  rw [if_neg z2]
  by_cases z3 : (L.es e).en ≠ -1
  · rw [if_pos z3]; exact ⟨Ext.refl, hd⟩
  rw [if_neg z3]
  by_cases z4 : wgh L L.he (L.es e).nl (rLg (L.es e).lg) ≠ 0
  · rw [if_pos z4]; exact ⟨Ext.refl, hd⟩
  rw [if_neg z4]
  exact ⟨ext_mvT (ext_mvE rfl rfl), nd_mvT⟩
/-- the answers of the calls, with what they refuse at once -/
def cHold (L : Lg) (key : Int64) (x : Int32) (v : Int64) : Int32 × Lg := if key = 0 ∨ (x < 0 ∨ 255 < x) ∨ ¬ 0 < v then (-1, L) else aHold L key x.toNatClampNeg v.toInt.toNat
def cRel (L : Lg) (x : Int32) : Int32 × Lg := if x < 0 ∨ 200 ≤ x then (-1, L) else aRel L x.toNatClampNeg
def cCap (L : Lg) (key : Int64) (x y : Int32) (v : Int64) : Int32 × Lg := if key = 0 ∨ (x < 0 ∨ 200 ≤ x) ∨ (y < 0 ∨ 255 < y) ∨ ¬ 0 < v then (-1, L) else aCap L key x.toNatClampNeg y.toNatClampNeg v.toInt.toNat
def cRev (L : Lg) (key : Int64) (x : Int32) : Int32 × Lg := if key = 0 ∨ (x < 0 ∨ 200 ≤ x) then (-1, L) else aRev L key x.toNatClampNeg
def cPost (L : Lg) (key : Int64) (n : Nat) (lg : Nat → Nat × Int64) : Int32 × Lg := if n = 0 ∨ key = 0 then (-1, L) else aPost L key n lg
theorem pos_nat {v : Int64} (h : 0 < v) : 0 < v.toInt.toNat ∧ v.toInt.toNat < 9223372036854775808 := by
  have h0 : 0 < v.toInt := Int64.lt_iff_toInt_lt.mp h
  have := tI_hi v
  omega
theorem cHold_keeps {L : Lg} (hL : LInv L) (hd : ¬ Due L) (key : Int64) (x : Int32) (v : Int64) : Keeps L (cHold L key x v) := by
  unfold cHold
  by_cases w : key = 0 ∨ (x < 0 ∨ 255 < x) ∨ ¬ 0 < v
  · rw [if_pos w]; exact Keeps.same hL hd _
  · rw [if_neg w]
    have hv : 0 < v := Decidable.not_not.mp (fun q => w (Or.inr (Or.inr q)))
    exact aHold_keeps hL hd _ _ _ (pos_nat hv).1 (pos_nat hv).2
theorem cRel_keeps {L : Lg} (hL : LInv L) (hd : ¬ Due L) (x : Int32) : Keeps L (cRel L x) := by
  unfold cRel
  by_cases w : x < 0 ∨ 200 ≤ x
  · rw [if_pos w]; exact Keeps.same hL hd _
  · rw [if_neg w]
    obtain ⟨e, rfl, he⟩ := ent_of w
    rw [nI_clamp (by omega)]
    exact aRel_keeps hL hd _ he
theorem cCap_keeps {L : Lg} (hL : LInv L) (hd : ¬ Due L) (key : Int64) (x y : Int32) (v : Int64) : Keeps L (cCap L key x y v) := by
  unfold cCap
  by_cases w : key = 0 ∨ (x < 0 ∨ 200 ≤ x) ∨ (y < 0 ∨ 255 < y) ∨ ¬ 0 < v
  · rw [if_pos w]; exact Keeps.same hL hd _
  · rw [if_neg w]
    have hv : 0 < v := Decidable.not_not.mp (fun q => w (Or.inr (Or.inr (Or.inr q))))
    obtain ⟨e, rfl, he⟩ := ent_of (fun q => w (Or.inr (Or.inl q)))
    obtain ⟨a, rfl, ha⟩ := byte_of (fun q => w (Or.inr (Or.inr (Or.inl q))))
    rw [nI_clamp (by omega), nI_clamp (by omega)]
    exact aCap_keeps hL hd _ _ _ _ he ha (pos_nat hv).1 (pos_nat hv).2
theorem cRev_keeps {L : Lg} (hL : LInv L) (hd : ¬ Due L) (key : Int64) (x : Int32) : Keeps L (cRev L key x) := by
  unfold cRev
  by_cases w : key = 0 ∨ (x < 0 ∨ 200 ≤ x)
  · rw [if_pos w]; exact Keeps.same hL hd _
  · rw [if_neg w]
    obtain ⟨e, rfl, he⟩ := ent_of (fun q => w (Or.inr q))
    rw [nI_clamp (by omega)]
    exact aRev_keeps hL hd _ _ he
theorem cPost_keeps {L : Lg} (hL : LInv L) (hd : ¬ Due L) (key : Int64) (n : Nat) (lg : Nat → Nat × Int64) (hn : n ≤ 8) (hlg : ∀ k, k < n → (lg k).1 < 256 ∧ (lg k).2 ≠ 0 ∧ (lg k).2 ≠ -9223372036854775808) : Keeps L (cPost L key n lg) := by
  unfold cPost
  by_cases w : n = 0 ∨ key = 0
  · rw [if_pos w]; exact Keeps.same hL hd _
  · rw [if_neg w]; exact aPost_keeps hL hd _ _ _ hn hlg
def etI : Option Nat → Int32
  | none => -1
  | some n => nI n
/-- the class: ledger, told legs, told EVERYs, pages -/
def CA (I : Nat → Nat → Int32) (J : Nat → Nat → Int64) (L : Lg) (tn : Nat) (tl : Nat → Nat × Int64) (nw : Nat → Nat) (et : Nat → Option Nat) : Prop := CRep 4 I J L ∧ LegsOk I J 21 tn tl ∧ (∀ i, i ≤ 200 → I 24 i = etI (et i)) ∧ PgOk 25 I L.ne L.st nw
/-- only the cells 4 .. 691 have changed -/
def FA (I I' : Nat → Nat → Int32) (J J' : Nat → Nat → Int64) : Prop := (∀ c, (c < 4 ∨ 691 < c) → I' c = I c) ∧ ∀ c, (c < 4 ∨ 691 < c) → J' c = J c
theorem PgOk.congr {p : Nat} {I I' : Nat → Nat → Int32} {ne : Nat} {st nw : Nat → Nat} (hp : nS ≤ p) (hne : ne ≤ 200) (h : PgOk p I ne st nw) (f : ∀ c, (c < nS ∨ (p ≤ c ∧ c ≤ p + 666 ∧ (c < p + 3 ∨ p + 6 < c))) → I' c = I c) : PgOk p I' ne st nw := by
  obtain ⟨p2, pn, pN, ch, c1, c2, c3⟩ := h
  refine ⟨by rw [f p (by omega)]; exact p2, fun k hk => by rw [f (p + 1) (by omega)]; exact pn k hk, NInv.out hp f pN, ch, c1, by rw [f p (by omega)]; exact c2, ?_⟩
  intro i hi j hj
  rw [f (p + 1) (by omega), f (p + 8 + i) (by omega)]
  exact c3 i hi j hj
section Top
variable {N SL : Nat} {S : Nat → Shp} {R : Nat → Nat → Option Nat} {I : Nat → Nat → Int32} {J : Nat → Nat → Int64} {β : Type}
theorem tp_o {γ : Type} {r : Option (γ × Mem)} {k : γ → Mem → Option β} (h : TopAt N S R) : cV (N, SL, S, R, I, J) 8 3 r k = bd r k := cV_mk h.1.1
theorem tp_f0 {k : Nat → Option β} (h : TopAt N S R) : gR (N, SL, S, R, I, J) 8 0 3 k = k 4 := gR_mk h.1.1 h.2.1.1
theorem tp_f1 {k : Nat → Option β} (h : TopAt N S R) : gR (N, SL, S, R, I, J) 8 1 3 k = k 21 := gR_mk h.1.1 h.2.1.2.1
theorem tp_f2 {k : Nat → Option β} (h : TopAt N S R) : gR (N, SL, S, R, I, J) 8 2 3 k = k 24 := gR_mk h.1.1 h.2.1.2.2.1
theorem tp_f3 {k : Nat → Option β} (h : TopAt N S R) : gR (N, SL, S, R, I, J) 8 3 3 k = k 25 := gR_mk h.1.1 h.2.1.2.2.2.1
theorem tp_f4 {k : Nat → Option β} (h : TopAt N S R) : gR (N, SL, S, R, I, J) 8 4 3 k = k 692 := gR_mk h.1.1 h.2.1.2.2.2.2.1
theorem tp_f5 {k : Nat → Option β} (h : TopAt N S R) : gR (N, SL, S, R, I, J) 8 5 3 k = k 717 := gR_mk h.1.1 h.2.1.2.2.2.2.2.1
theorem tp_f6 {k : Nat → Option β} (h : TopAt N S R) : gR (N, SL, S, R, I, J) 8 6 3 k = k 737 := gR_mk h.1.1 h.2.1.2.2.2.2.2.2.1
theorem tp_f7 {k : Nat → Option β} (h : TopAt N S R) : gR (N, SL, S, R, I, J) 8 7 3 k = k 758 := gR_mk h.1.1 h.2.1.2.2.2.2.2.2.2
theorem TopAt.le (h : TopAt N S R) : LedAt N S R 4 := h.1.2.2.1
theorem TopAt.lg (h : TopAt N S R) : LgAt N S R 21 := h.1.2.2.2.1
theorem TopAt.pg (h : TopAt N S R) : PgAt N S R 25 := h.1.2.2.2.2.1
theorem TopAt.md (h : TopAt N S R) : MdAt N S R 759 := h.1.2.2.2.2.2
/-- behind a call of the ledger the pages follow -/
theorem written_C (hT : TopAt N S R) (I : Nat → Nat → Int32) (J : Nat → Nat → Int64) (L : Lg) (tn : Nat) (tl : Nat → Nat × Int64) (nw : Nat → Nat) (et : Nat → Option Nat) (hL : LInv L) (h : CA I J L tn tl nw et) (r : Option (Int32 × Mem)) (p : Int32 × Lg) (hk : Keeps L p) (hr : CTo N SL S R 4 I J r p) :
    ∃ (I' : Nat → Nat → Int32) (J' : Nat → Nat → Int64), (bd r fun v3 M2 => (cV M2 8 3 (fX8_written 3 v3 M2) fun v5 M4 => some (v5, M4))) = some (p.1, (N, SL, S, R, I', J')) ∧ CA I' J' p.2 tn tl (nwU nw (L.st L.ne) p.2) et ∧ FA I I' J J' := by
  have h1 := hL.1
  obtain ⟨I1, J1, a1, a2, a3, a4⟩ := hr
  obtain ⟨cR, cL, cE, cP⟩ := h
  have hp1 : PgOk 25 I1 L.ne L.st nw := cP.congr (by decide) h1.2.1 (fun c hc => a3 c (by have : nS = 3 := rfl; omega))
  obtain ⟨I2, b1, b2, b3⟩ := follow_C (SL := SL) hT.pg hT.le (by decide) I1 J1 L p.2 hL hk.1 hk.2.1 nw hp1 a2
  refine ⟨I2, J1, ?_, ⟨CRep.congr (fun c q1 q2 => b3 c (by omega) (by omega) (by omega)) (fun _ _ _ _ => rfl) a2, ⟨by rw [b3 21 (by omega) (by omega) (by omega), a3 21 (by omega)]; exact cL.1, cL.2.1, fun k hk => by rw [b3 22 (by omega) (by omega) (by omega), a3 22 (by omega), a4 23 (by omega)]; exact cL.2.2 k hk⟩, fun i hi => by rw [b3 24 (by omega) (by omega) (by omega), a3 24 (by omega)]; exact cE i hi, b2⟩, fun c hc => by rw [b3 c (by omega) (by omega) (by omega), a3 c (by omega)], fun c hc => a4 c (by omega)⟩
  rw [a1, bd_some, tp_o hT]
  unfold fX8_written
  rw [tp_f3 hT, tp_f0 hT, cV_mk hT.pg.1.1, b1, bd_some, bd_some]
theorem c_open (hT : TopAt N S R) (I : Nat → Nat → Int32) (J : Nat → Nat → Int64) (L : Lg) (tn : Nat) (tl : Nat → Nat × Int64) (nw : Nat → Nat) (et : Nat → Option Nat) (hL : LInv L) (hd : ¬ Due L) (h : CA I J L tn tl nw et) (f : Int64) :
    ∃ (I' : Nat → Nat → Int32) (J' : Nat → Nat → Int64), fX8_open 3 f (N, SL, S, R, I, J) = some ((aOpen L f).1, (N, SL, S, R, I', J')) ∧ CA I' J' (aOpen L f).2 tn tl (nwU nw (L.st L.ne) (aOpen L f).2) et ∧ FA I I' J J' := by
  unfold fX8_open
  rw [tp_f0 hT, le_o hT.le]
  exact written_C hT I J L tn tl nw et hL h _ _ (aOpen_keeps hL hd f) (open_C hT.le I J L h.1 hL f)
theorem c_hold (hT : TopAt N S R) (I : Nat → Nat → Int32) (J : Nat → Nat → Int64) (L : Lg) (tn : Nat) (tl : Nat → Nat × Int64) (nw : Nat → Nat) (et : Nat → Option Nat) (hL : LInv L) (hd : ¬ Due L) (h : CA I J L tn tl nw et) (key : Int64) (x : Int32) (v : Int64) :
    ∃ (I' : Nat → Nat → Int32) (J' : Nat → Nat → Int64), fX8_hold 3 key x v (N, SL, S, R, I, J) = some ((cHold L key x v).1, (N, SL, S, R, I', J')) ∧ CA I' J' (cHold L key x v).2 tn tl (nwU nw (L.st L.ne) (cHold L key x v).2) et ∧ FA I I' J J' := by
  unfold fX8_hold
  rw [tp_f0 hT, le_o hT.le]
  exact written_C hT I J L tn tl nw et hL h _ _ (cHold_keeps hL hd key x v) (hold_C hT.le I J L h.1 hL key x v)
theorem c_rel (hT : TopAt N S R) (I : Nat → Nat → Int32) (J : Nat → Nat → Int64) (L : Lg) (tn : Nat) (tl : Nat → Nat × Int64) (nw : Nat → Nat) (et : Nat → Option Nat) (hL : LInv L) (hd : ¬ Due L) (h : CA I J L tn tl nw et) (x : Int32) :
    ∃ (I' : Nat → Nat → Int32) (J' : Nat → Nat → Int64), fX8_release 3 x (N, SL, S, R, I, J) = some ((cRel L x).1, (N, SL, S, R, I', J')) ∧ CA I' J' (cRel L x).2 tn tl (nwU nw (L.st L.ne) (cRel L x).2) et ∧ FA I I' J J' := by
  unfold fX8_release
  rw [tp_f0 hT, le_o hT.le]
  exact written_C hT I J L tn tl nw et hL h _ _ (cRel_keeps hL hd x) (rel_C hT.le I J L h.1 hL x)
theorem c_cap (hT : TopAt N S R) (I : Nat → Nat → Int32) (J : Nat → Nat → Int64) (L : Lg) (tn : Nat) (tl : Nat → Nat × Int64) (nw : Nat → Nat) (et : Nat → Option Nat) (hL : LInv L) (hd : ¬ Due L) (h : CA I J L tn tl nw et) (key : Int64) (x y : Int32) (v : Int64) :
    ∃ (I' : Nat → Nat → Int32) (J' : Nat → Nat → Int64), fX8_capture 3 key x y v (N, SL, S, R, I, J) = some ((cCap L key x y v).1, (N, SL, S, R, I', J')) ∧ CA I' J' (cCap L key x y v).2 tn tl (nwU nw (L.st L.ne) (cCap L key x y v).2) et ∧ FA I I' J J' := by
  unfold fX8_capture
  rw [tp_f0 hT, le_o hT.le]
  exact written_C hT I J L tn tl nw et hL h _ _ (cCap_keeps hL hd key x y v) (cap_C hT.le I J L h.1 hL key x y v)
theorem c_rev (hT : TopAt N S R) (I : Nat → Nat → Int32) (J : Nat → Nat → Int64) (L : Lg) (tn : Nat) (tl : Nat → Nat × Int64) (nw : Nat → Nat) (et : Nat → Option Nat) (hL : LInv L) (hd : ¬ Due L) (h : CA I J L tn tl nw et) (key : Int64) (x : Int32) :
    ∃ (I' : Nat → Nat → Int32) (J' : Nat → Nat → Int64), fX8_reverse 3 key x (N, SL, S, R, I, J) = some ((cRev L key x).1, (N, SL, S, R, I', J')) ∧ CA I' J' (cRev L key x).2 tn tl (nwU nw (L.st L.ne) (cRev L key x).2) et ∧ FA I I' J J' := by
  unfold fX8_reverse
  rw [tp_f0 hT, le_o hT.le]
  exact written_C hT I J L tn tl nw et hL h _ _ (cRev_keeps hL hd key x) (rev_C hT.le I J L h.1 hL key x)
theorem c_post (hT : TopAt N S R) (I : Nat → Nat → Int32) (J : Nat → Nat → Int64) (L : Lg) (tn : Nat) (tl : Nat → Nat × Int64) (nw : Nat → Nat) (et : Nat → Option Nat) (hL : LInv L) (hd : ¬ Due L) (hlg : ∀ k, k < tn → (tl k).1 < 256 ∧ (tl k).2 ≠ 0 ∧ (tl k).2 ≠ -9223372036854775808) (h : CA I J L tn tl nw et) (key : Int64) :
    ∃ (I' : Nat → Nat → Int32) (J' : Nat → Nat → Int64), fX8_post 3 key (N, SL, S, R, I, J) = some ((cPost L key tn tl).1, (N, SL, S, R, I', J')) ∧ CA I' J' (cPost L key tn tl).2 (nPost (cPost L key tn tl) tn) tl (nwU nw (L.st L.ne) (cPost L key tn tl).2) et ∧ FA I I' J J' := by
  have h8 := h.2.1.2.1
  obtain ⟨I1, J1, a1, a2, a3, a4⟩ := post_C (SL := SL) hT.le hT.lg (by omega) I J L h.1 hL key tn tl h.2.1 (fun k hk => (hlg k hk).1)
  have a1 : fX3_addPost 4 key 21 (N, SL, S, R, I, J) = some ((cPost L key tn tl).1, (N, SL, S, R, I1, J1)) := a1
  have a2 : CRep 4 I1 J1 (cPost L key tn tl).2 := a2
  have hk := cPost_keeps hL hd key tn tl h8 hlg
  have l1 : LegsOk I1 J1 21 tn tl := ⟨by rw [a3 21 (by omega)]; exact h.2.1.1, h8, fun k hk => by rw [a3 22 (by omega), a4 23 (by omega)]; exact h.2.1.2.2 k hk⟩
  unfold fX8_post
  rw [tp_f0 hT, tp_f1 hT, le_o hT.le, a1, bd_some]
  unfold fX8_post_25
  by_cases w : (cPost L key tn tl).1 < 0
  · have e : nPost (cPost L key tn tl) tn = tn := if_pos w
    rw [if_pos w, e]
    exact written_C hT I J L tn tl nw et hL h (some ((cPost L key tn tl).1, (N, SL, S, R, I1, J1))) _ hk ⟨I1, J1, rfl, a2, a3, a4⟩
  · have e : nPost (cPost L key tn tl) tn = 0 := if_neg w
    rw [if_neg w, e, tp_f1 hT, lg_p hT.lg]
    have hCA : CA (u2 I 21 2 (nI 0)) J L 0 tl nw et := ⟨CRep.congr (fun c q1 q2 => u2_ne (by omega)) (fun _ _ _ _ => rfl) h.1, ⟨u2_i, by omega, fun k hk => absurd hk (by omega)⟩, fun i hi => by rw [u2_ne (by omega)]; exact h.2.2.1 i hi, h.2.2.2.congr (by decide) hL.1.2.1 (fun c hc => u2_ne (by have : nS = 3 := rfl; omega))⟩
    obtain ⟨I', J', g1, g2, g3⟩ := written_C (SL := SL) hT (u2 I 21 2 (nI 0)) J L 0 tl nw et hL hCA (some ((cPost L key tn tl).1, (N, SL, S, R, u2 I1 21 2 (nI 0), J1))) _ hk ⟨u2 I1 21 2 (nI 0), J1, rfl, CRep.congr (fun c q1 q2 => u2_ne (by omega)) (fun _ _ _ _ => rfl) a2, fun c hc => by
      by_cases q : c = 21
      · rw [q, u2_at, u2_at, a3 21 (by omega)]
      · rw [u2_ne q, u2_ne q, a3 c (by omega)], fun c hc => a4 c (by omega)⟩
    exact ⟨I', J', g1, g2, fun c hc => by rw [g3.1 c hc, u2_ne (by omega)], g3.2⟩
end Top
