-- P4, class: Pages.follow and Pages.flip
/-- Pages at p has ne entries, whose bytes are nw now */ -/
def PgOk (p : Nat) (I : Nat → Nat → Int32) (ne : Nat) (st : Nat → Nat) (nw : Nat → Nat) : Prop := I p 2 = nI ne ∧ (∀ k, k < st ne → I (p + 1) k = nb (nI (nw k))) ∧ NInv I p st ne ∧ ∃ ch, ch ≤ ne ∧ I p 5 = nI ch ∧ ChOk I p st ch
theorem ch_congr {f g : Nat → List Int32} : ∀ i, (∀ j, j < i → f j = g j) → chH f i = chH g i
  | 0, _ => rfl
  | i + 1, h => by rw [chH, chH, ch_congr i (fun j hj => h j (by omega)), h i (by omega)]
theorem ct_congr {f g : Nat → Nat → Int32} : ∀ h a, (∀ j, a ≤ j → j < a + 2 ^ h → f j = g j) → ctH f h a = ctH g h a
  | 0, a, q => by rw [ctH, ctH, q a (Nat.le_refl _) (by rw [Nat.pow_zero]; omega)]
  | h + 1, a, q => by
    have e : 2 ^ (h + 1) = 2 ^ h + 2 ^ h := by rw [Nat.pow_succ]; omega
    rw [ctH, ctH, ct_congr h a (fun j a1 a2 => q j a1 (by omega)), ct_congr h (a + 2 ^ h) (fun j a1 a2 => q j (by omega) (by omega))]
theorem byP_congr {now now' : Nat → Int32} {st st' : Nat → Nat} {i : Nat} (h1 : st' i = st i) (h2 : st' (i + 1) = st (i + 1)) (h : ∀ k, st i ≤ k → k < st (i + 1) → now' k = now k) : byP now' st' i = byP now st i := by
  unfold byP byC8
  rw [h1, h2]
  refine List.map_congr_left (fun k hk => ?_)
  rw [List.mem_range] at hk
  rw [h (st i + k) (by omega) (by omega)]
/-- the new ledger goes on from the old */ -/
def Ext (L L' : Lg) : Prop := L.ne ≤ L'.ne ∧ ∀ i, i ≤ L.ne → L'.st i = L.st i
section PagesD
variable {N SL : Nat} {S : Nat → Shp} {R : Nat → Nat → Option Nat} {p b : Nat}
/-- other bytes and places behind the first n entries keep what is known of them -/
theorem PgOk.ext {I I' : Nat → Nat → Int32} {ne ne' : Nat} {st st' : Nat → Nat} (hp : nS ≤ p) (hm : ∀ i, i < ne → st i ≤ st (i + 1)) (hst : ∀ i, i ≤ ne → st' i = st i) (hne : ne ≤ ne') (hN : NdOk I p st ne) (f1 : ∀ c, c ≠ p → c ≠ p + 1 → c ≠ p + 2 → I' c = I c) (f2 : ∀ k, k < st ne → I' (p + 1) k = I (p + 1) k) : NdOk I' p st' ne' ∧ ∀ ch, ch ≤ ne → ChOk I p st ch → ChOk I' p st' ch := by
  have mono : ∀ d i, i + d ≤ ne → st i ≤ st (i + d) := by
    intro d
    induction d with
    | zero => intro i _; exact Nat.le_refl _
    | succ d ih =>
      intro i hi
      exact Nat.le_trans (ih i (by omega)) (hm (i + d) (by omega))
  have by_ : ∀ i, i < ne → byP (I' (p + 1)) st' i = byP (I (p + 1)) st i := fun i hi => byP_congr (hst i (by omega)) (hst (i + 1) (by omega)) (fun k _ a2 => f2 k (by
    have := mono (ne - (i + 1)) (i + 1) (by omega)
    rw [show i + 1 + (ne - (i + 1)) = ne by omega] at this
    omega))
  refine ⟨fun h pos hh hpos hv hk => ?_, fun ch hch hC i hi j hj => ?_⟩
  · rw [f1 _ (by omega) (by omega) (by omega)] at hk
    obtain ⟨o1, o2⟩ := hN h pos hh hpos hv hk
    refine ⟨fun j hj => ?_, by omega⟩
    rw [f1 _ (by omega) (by omega) (by omega), o1 j hj]
    have e2 : (pos + 1) * 2 ^ h = pos * 2 ^ h + 2 ^ h := by rw [Nat.add_mul, Nat.one_mul]
    rw [ct_congr (f := lfC (I (p + 1)) st) (g := lfC (I' (p + 1)) st') h (pos * 2 ^ h) (fun j a1 a2 => by
      unfold lfC
      rw [by_ j (by omega)])]
  · rw [f1 _ (by omega) (by omega) (by omega), hC i hi j hj, ch_congr (f := byP (I (p + 1)) st) (g := byP (I' (p + 1)) st') i (fun j hj => (by_ j (by omega)).symm)]
set_option maxHeartbeats 4000000 in
theorem follow_C (hA : PgAt N S R p) (hB : LedAt N S R b) (hbp : b + 16 < p) (I : Nat → Nat → Int32) (J : Nat → Nat → Int64) (L L' : Lg) (hL : LInv L) (hL' : LInv L') (hE : Ext L L') (nw : Nat → Nat) (hP : PgOk p I L.ne L.st nw) (hC : CRep b I J L') :
    ∃ I' : Nat → Nat → Int32, fX5_follow p b (N, SL, S, R, I, J) = some ((), (N, SL, S, R, I', J)) ∧ PgOk p I' L'.ne L'.st (nwU nw (L.st L.ne) L') ∧ ∀ c, c ≠ p → c ≠ p + 1 → c ≠ p + 2 → I' c = I c := by
  have hA' := hA
  obtain ⟨⟨ho, hlN, hsha⟩, ⟨r0, r1, r3, r4, r6, r7⟩, ⟨s1, s2, s7, s209, s666⟩, hch, hnd⟩ := hA
  have hns := ho.2.1
  have hnS : nS = 3 := rfl
  have h1 := hL.1
  have h1' := hL'.1
  have hb0 := hB.1.1.2.1
  obtain ⟨p2, pn, pN, ch, c1, c2, c3⟩ := hP
  have hT : L'.st L.ne = L.st L.ne := hE.2 L.ne (Nat.le_refl _)
  have hTT : L.st L.ne ≤ L'.st L'.ne := by
    have := LInv.st_mono hL' L.ne (L'.ne - L.ne) (by have := hE.1; omega)
    rw [hT, show L.ne + (L'.ne - L.ne) = L'.ne by have := hE.1; omega] at this
    exact this
  have hbd := LInv.st_le hL' L'.ne (Nat.le_refl _)
  obtain ⟨I1, hI1⟩ : ∃ I1, I1 = u1 I (p + 1) (va_cpy (I (b + 5)) (I (p + 1)) (L.st L.ne) (L.st L.ne) (L'.st L'.ne - L.st L.ne)) := ⟨_, rfl⟩
  obtain ⟨I2, hI2⟩ : ∃ I2, I2 = u1 I1 (p + 2) (va_cpy (I1 (b + 6)) (I1 (p + 2)) 0 0 (L'.ne + 1)) := ⟨_, rfl⟩
  have f1 : ∀ c, c ≠ p + 1 → I1 c = I c := fun c hc => by rw [hI1, u1_ne hc]
  have f2 : ∀ c, c ≠ p + 2 → I2 c = I1 c := fun c hc => by rw [hI2, u1_ne hc]
  have row : ∀ k, I2 (p + 1) k = if L.st L.ne ≤ k ∧ k < L'.st L'.ne then I (b + 5) k else I (p + 1) k := fun k => by
    rw [f2 _ (by omega), hI1, u1_eq]
    unfold va_cpy
    by_cases w : L.st L.ne ≤ k ∧ k < L'.st L'.ne
    · rw [if_pos ⟨w.1, by omega⟩, if_pos w, show L.st L.ne + (k - L.st L.ne) = k by omega]
    · rw [if_neg (fun q => w ⟨q.1, by omega⟩), if_neg w]
  have fin : ∀ c, c ≠ p → c ≠ p + 1 → c ≠ p + 2 → u2 I2 p 2 (nI L'.ne) c = I c := fun c a1 a2 a3 => by rw [u2_ne a1, f2 c a3, f1 c a2]
  have ex := PgOk.ext (I' := u2 I2 p 2 (nI L'.ne)) (st' := L'.st) (ne' := L'.ne) hns (fun i hi => by have := (hL.2.1.2.1 i hi).1; omega) hE.2 hE.1 pN.2.2 fin (fun k hk => by rw [u2_ne (by omega), row k, if_neg (fun q => by omega)])
  refine ⟨u2 I2 p 2 (nI L'.ne), ?_, ⟨u2_i, fun k hk => ?_, ⟨⟨fun i hi => ?_, fun i hi => ?_⟩, ?_, ex.1⟩, ch, by have := hE.1; omega, by rw [u2_at, up_ne (by decide), f2 _ (by omega), f1 _ (by omega)]; exact c2, ex.2 ch c1 c3⟩, fin⟩
  · have e6 : I (b + 6) L'.ne = nI (L'.st L'.ne) := hC.2.2.1 L'.ne (Nat.le_refl _)
    unfold fX5_follow
    rw [cV_mk ho, size_mk hA' I J L.st L.ne (by omega) p2 pN.1, bd_some, le_f6 hB, le_g hB, hC.1.2.1, le_r6 hB (by omega), e6, le_f5 hB, gR_mk ho r0, pk_sub (by omega), cpI_mk (n := L'.st L'.ne - L.st L.ne) (by omega) (by omega) (by omega) (by omega) hB.2.2.2.2.2.2.1 s1 (by omega) (by omega) (by decide) (by decide) (fun i hi => by rw [hC.2.2.2.2 _ (by omega)]; exact fits_nb _), ← hI1]
    rw [le_f6 hB, gR_mk ho r1, le_g hB, f1 b (by omega), hC.1.2.1, nI_1, show (0 : Int32) = nI 0 from rfl, cpI_mk (n := L'.ne + 1) (by omega) (by omega) (by omega) (by omega) hB.2.2.2.2.2.2.2.1 s2 (by omega) (by omega) (by decide) (by decide) (fun i hi => rfl), ← hI2, le_g hB, f2 b (by omega), f1 b (by omega), hC.1.2.1, pI_mk ho]
  · rw [u2_ne (by omega), row k]
    unfold nwU
    by_cases w : k < L.st L.ne
    · rw [if_neg (fun q => by omega), if_pos w]
      exact pn k w
    · rw [if_pos ⟨by omega, hk⟩, if_neg w]
      exact hC.2.2.2.2 k hk
  · rw [u2_ne (by omega), hI2, u1_eq]
    unfold va_cpy
    rw [if_pos ⟨by omega, by omega⟩, Nat.sub_zero, Nat.zero_add, f1 _ (by omega)]
    exact hC.2.2.1 i hi
  · have a1 := hL'.2.1.2.1 i hi
    have a2 := LInv.st_in hL' hi
    omega
  · exact ⟨fun j hj => by rw [fin 1 (by omega) (by omega) (by omega)]; exact pN.2.1.1 j hj, fun j hj => by rw [fin 0 (by omega) (by omega) (by omega)]; exact pN.2.1.2 j hj⟩
end PagesD
