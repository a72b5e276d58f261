-- P3: the calls keep what a ledger keeps
theorem hs_congr {es es' : Nat → En} {a : Nat} : ∀ n, (∀ i, i < n → es i = es' i) → hsN es a n = hsN es' a n
  | 0, _ => rfl
  | n + 1, h => by rw [hsN, hsN, hs_congr n (fun i hi => h i (by omega)), h n (by omega)]
theorem hc_congr {es es' : Nat → En} : ∀ n, (∀ i, i < n → es i = es' i) → hcN es n = hcN es' n
  | 0, _ => rfl
  | n + 1, h => by rw [hcN, hcN, hc_congr n (fun i hi => h i (by omega)), h n (by omega)]
theorem hs_app {es : Nat → En} {a n : Nat} {e : En} : hsN (up es n e) a (n + 1) = hsN es a n + if thB e = true ∧ e.ha = a then e.hm else 0 := by
  rw [hsN, up_eq, hs_congr (es := up es n e) (es' := es) n (fun i hi => up_ne (by omega))]
theorem hc_app {es : Nat → En} {n : Nat} {e : En} : hcN (up es n e) (n + 1) = hcN es n + if thB e = true then 1 else 0 := by
  rw [hcN, up_eq, hc_congr (es := up es n e) (es' := es) n (fun i hi => up_ne (by omega))]
/-- a hold ends -/
theorem hs_end {es : Nat → En} {a i : Nat} {e : En} (h : thB (es i) = true) (h' : thB e = false) : ∀ n, i < n → hsN (up es i e) a n + (if (es i).ha = a then (es i).hm else 0) = hsN es a n
  | 0, hn => absurd hn (by omega)
  | n + 1, hn => by
    rw [hsN, hsN]
    by_cases z : i = n
    · subst z
      rw [up_eq, h', h, if_neg (fun q => by cases q.1), hs_congr (es := up es i e) (es' := es) i (fun j hj => up_ne (by omega)), Nat.add_zero]
      simp
    · have := hs_end (a := a) h h' n (by omega)
      rw [up_ne (by omega)]
      omega
theorem hc_end {es : Nat → En} {i : Nat} {e : En} (h : thB (es i) = true) (h' : thB e = false) : ∀ n, i < n → hcN (up es i e) n + 1 = hcN es n
  | 0, hn => absurd hn (by omega)
  | n + 1, hn => by
    rw [hcN, hcN]
    by_cases z : i = n
    · subst z
      rw [up_eq, h', h, if_neg (fun q => by cases q), hc_congr (es := up es i e) (es' := es) i (fun j hj => up_ne (by omega))]
      simp
    · have := hc_end h h' n (by omega)
      rw [up_ne (by omega)]
      omega
/-- an entry changes that is no hold and stays none -/
theorem hs_same {es : Nat → En} {a i : Nat} {e : En} (h : thB (es i) = false) (h' : thB e = false) : ∀ n, hsN (up es i e) a n = hsN es a n
  | 0 => rfl
  | n + 1 => by
    rw [hsN, hsN, hs_same h h' n]
    by_cases z : n = i
    · rw [z, up_eq, h, h'] <;> simp
    · rw [up_ne z]
theorem hc_same {es : Nat → En} {i : Nat} {e : En} (h : thB (es i) = false) (h' : thB e = false) : ∀ n, hcN (up es i e) n = hcN es n
  | 0 => rfl
  | n + 1 => by
    rw [hcN, hcN, hc_same h h' n]
    by_cases z : n = i
    · rw [z, up_eq, h, h'] <;> simp
    · rw [up_ne z]
/-- what an entry of the bytes l has to be -/
def NewOk (na : Nat) (e : En) (l : List Nat) : Prop :=
  (3 ≤ l.length ∧ l.length ≤ 82 ∧ ByL l) ∧ (l.getD 0 0 = e.kd ∧ 1 ≤ e.kd ∧ e.kd ≤ 7 ∧ e.nl ≤ 8) ∧
  (∀ k, k < e.nl → (e.lg k).1 < na ∧ (e.lg k).2 ≠ 0 ∧ (e.lg k).2 ≠ -9223372036854775808) ∧
  (e.kd = 3 → (l.getD 9 0 = e.ha ∧ ∀ k, k < 8 → l.getD (10 + k) 0 = bN (Int64.ofNat e.hm) (7 - k)) ∧ 18 ≤ l.length ∧ e.ha < na ∧ 0 < e.hm ∧ e.hm < 9223372036854775808 ∧ e.nl = 0)
/-- a ledger but for the sums of what is held -/
def LPre (L : Lg) : Prop :=
  (L.na ≤ 40 ∧ L.ne ≤ 200 ∧ L.ev ≤ 50 ∧ L.si ≤ L.ne) ∧
  (L.st 0 = 0 ∧ (∀ i, i < L.ne → L.st i + 3 ≤ L.st (i + 1) ∧ L.st (i + 1) ≤ L.st i + 82) ∧ ∀ k, L.yb k < 256) ∧
  ∀ i, i < L.ne → EOk L i
theorem LInv.pre {L : Lg} (h : LInv L) : LPre L := ⟨h.1, h.2.1, h.2.2.1⟩
theorem pre_mono {L : Lg} (h : LPre L) : ∀ i d, i + d ≤ L.ne → L.st i ≤ L.st (i + d)
  | _, 0, _ => Nat.le_refl _
  | i, d + 1, hi => by
    have h1 := pre_mono h i d (by omega)
    have h2 := (h.2.1.2.1 (i + d) (by omega)).1
    rw [show i + (d + 1) = i + d + 1 by omega]
    omega
theorem app_inv {L : Lg} {e : En} {l : List Nat} (hP : LPre L) (hne : L.ne < 200) (hN : NewOk L.na e l) (hF : ∀ a, a < L.na → (L.fl a).toInt + L.he a ≤ (L.ba a).toInt ∧ L.he a = hsN (up L.es L.ne e) a (L.ne + 1)) (hc : L.hc = hcN (up L.es L.ne e) (L.ne + 1)) : LInv (app L e l) := by
  obtain ⟨⟨b1, b2, b3, b4⟩, ⟨s1, s2, s3⟩, hE⟩ := hP
  have hst : ∀ i, i ≤ L.ne → (app L e l).st i = L.st i := fun i hi => up_ne (by omega)
  have hstn : (app L e l).st (L.ne + 1) = L.st L.ne + l.length := up_eq
  have hyb : ∀ k, k < L.st L.ne → (app L e l).yb k = L.yb k := fun k hk => if_neg (fun q => by omega)
  have hyn : ∀ k, k < l.length → (app L e l).yb (L.st L.ne + k) = l.getD k 0 := fun k hk => by
    show (if L.st L.ne ≤ L.st L.ne + k ∧ L.st L.ne + k < L.st L.ne + l.length then l.getD (L.st L.ne + k - L.st L.ne) 0 else L.yb (L.st L.ne + k)) = _
    rw [if_pos ⟨by omega, by omega⟩, show L.st L.ne + k - L.st L.ne = k by omega]
  refine ⟨⟨b1, by show L.ne + 1 ≤ 200; omega, b3, by show L.si ≤ L.ne + 1; omega⟩, ⟨by rw [hst 0 (by omega)]; exact s1, fun i hi => ?_, fun k => ?_⟩, fun i hi => ?_, hF, hc⟩
  · have hi' : i < L.ne + 1 := hi
    by_cases z : i = L.ne
    · subst z
      rw [hst _ (Nat.le_refl _), hstn]
      have := hN.1
      omega
    · rw [hst i (by omega), hst (i + 1) (by omega)]
      exact s2 i (by omega)
  · show (if L.st L.ne ≤ k ∧ k < L.st L.ne + l.length then l.getD (k - L.st L.ne) 0 else L.yb k) < 256
    by_cases z : L.st L.ne ≤ k ∧ k < L.st L.ne + l.length
    · rw [if_pos z]; exact hN.1.2.2.get _
    · rw [if_neg z]; exact s3 k
  · have hi' : i < L.ne + 1 := hi
    by_cases z : i = L.ne
    · subst z
      unfold EOk
      have ee : (app L e l).es L.ne = e := up_eq
      rw [ee, hst _ (Nat.le_refl _), hstn]
      obtain ⟨n1, n2, n3, n4⟩ := hN
      have y0 := hyn 0 (by omega)
      refine ⟨⟨by rw [Nat.add_zero] at y0; rw [y0]; exact n2.1, n2.2⟩, n3, fun hk => ?_⟩
      obtain ⟨m1, m2, m3⟩ := n4 hk
      refine ⟨⟨by rw [hyn 9 (by omega)]; exact m1.1, fun k hk => ?_⟩, by omega, m3⟩
      rw [Nat.add_assoc, hyn (10 + k) (by omega)]
      exact m1.2 k hk
    · have hlt : i < L.ne := by omega
      have hm := pre_mono ⟨⟨b1, b2, b3, b4⟩, ⟨s1, s2, s3⟩, hE⟩ (i + 1) (L.ne - (i + 1)) (by omega)
      rw [show i + 1 + (L.ne - (i + 1)) = L.ne by omega] at hm
      have hs := s2 i hlt
      have o := hE i hlt
      unfold EOk at o ⊢
      have ee : (app L e l).es i = L.es i := up_ne z
      rw [ee, hst i (by omega), hst (i + 1) (by omega), hyb _ (by omega)]
      refine ⟨o.1, o.2.1, fun hk => ?_⟩
      obtain ⟨m1, m2, m3⟩ := o.2.2 hk
      refine ⟨⟨by rw [hyb _ (by omega)]; exact m1.1, fun k hk => by rw [hyb _ (by omega)]; exact m1.2 k hk⟩, m2, m3⟩
theorem LInv.si {L : Lg} (h : LInv L) {s : Nat} (hs : s ≤ L.ne) : LInv (L.wsi s) := ⟨⟨h.1.1, h.1.2.1, h.1.2.2.1, hs⟩, h.2⟩
theorem LInv.ev {L : Lg} (h : LInv L) {n : Nat} (hn : n ≤ 50) : LInv (L.wev n) := ⟨⟨h.1.1, h.1.2.1, hn, Nat.zero_le _⟩, h.2⟩
theorem empty_inv : LInv emptyL := ⟨⟨Nat.zero_le _, Nat.zero_le _, Nat.zero_le _, Nat.zero_le _⟩, ⟨rfl, fun i hi => absurd hi (Nat.not_lt_zero _), fun k => (by decide : 0 < 256)⟩, fun i hi => absurd hi (Nat.not_lt_zero _), fun a ha => absurd ha (Nat.not_lt_zero _), rfl⟩
theorem thB_no {e : En} (h : e.kd ≠ 3 ∨ e.en ≠ -1) : thB e = false := by
  unfold thB
  rcases h with h | h
  · rw [decide_eq_false h]; rfl
  · rw [decide_eq_false h, Bool.and_false]
/-- an entry that is no hold -/
theorem app_plain {L : Lg} {e : En} {l : List Nat} (hL : LInv L) (hne : L.ne < 200) (hN : NewOk L.na e l) (h3 : e.kd ≠ 3) : LInv (app L e l) := by
  refine app_inv hL.pre hne hN (fun a ha => ?_) ?_
  · rw [hs_app, thB_no (Or.inl h3), if_neg (fun q => by cases q.1), Nat.add_zero]
    exact hL.2.2.2.1 a ha
  · rw [hc_app, thB_no (Or.inl h3), if_neg (fun q => by cases q), Nat.add_zero]
    exact hL.2.2.2.2
theorem new_plain {na kd : Nat} {key : Int64} {en : Int32} {ha hm : Nat} {l : List Nat} (h1 : 3 ≤ l.length) (h2 : l.length ≤ 82) (h3 : ByL l) (h4 : l.getD 0 0 = kd) (h5 : 1 ≤ kd) (h6 : kd ≤ 7) (h7 : kd ≠ 3) : NewOk na (kd, key, 0, noL, en, ha, hm) l := ⟨⟨h1, h2, h3⟩, ⟨h4, h5, h6, Nat.zero_le _⟩, fun k hk => absurd hk (Nat.not_lt_zero _), fun q => absurd q h7⟩
theorem open_inv {L : Lg} (hL : LInv L) (hne : L.ne < 200) (hna : L.na < 40) {f : Int64} (hf : ¬ 0 < f) : LInv (openL L f) := by
  have hf0 : f.toInt ≤ 0 := Int.not_lt.mp (fun q => hf (Int64.lt_iff_toInt_lt.mpr q))
  have hby : ByL (lOpen f) := (ByL.one (by decide)).app (lB_by _ _)
  have hlen : (lOpen f).length = 9 := by unfold lOpen; simp [lB_len]
  refine app_inv (L := ((L.na + 1, L.ne, L.ev, L.si, L.hc), up L.fl L.na f, up L.ba L.na 0, up L.he L.na 0, L.es, L.yb, L.st)) ⟨⟨by show L.na + 1 ≤ 40; omega, hL.1.2⟩, hL.2.1, fun i hi => ?_⟩ hne (new_plain (by omega) (by omega) hby rfl (by decide) (by decide) (by decide)) (fun a ha => ?_) ?_
  · have o := hL.2.2.1 i hi
    refine ⟨o.1, fun k hk => ⟨Nat.lt_succ_of_lt (o.2.1 k hk).1, (o.2.1 k hk).2⟩, fun hk => ?_⟩
    obtain ⟨m1, m2, m3, m4⟩ := o.2.2 hk
    exact ⟨m1, m2, Nat.lt_succ_of_lt m3, m4⟩
  · show (up L.fl L.na f a).toInt + (up L.he L.na 0 a : Nat) ≤ (up L.ba L.na 0 a).toInt ∧ up L.he L.na 0 a = hsN (up L.es L.ne _) a (L.ne + 1)
    rw [hs_app, thB_no (Or.inl (by decide)), if_neg (fun q => by cases q.1), Nat.add_zero]
    have ha' : a < L.na + 1 := ha
    by_cases z : a = L.na
    · rw [z, up_eq, up_eq, up_eq]
      refine ⟨by show f.toInt + ((0 : Nat) : Int) ≤ 0; omega, ?_⟩
      have : ∀ n, n ≤ L.ne → hsN L.es L.na n = 0 := by
        intro n
        induction n with
        | zero => intro _; rfl
        | succ n ih =>
          intro hn
          rw [hsN, ih (by omega)]
          by_cases w : thB (L.es n) = true ∧ (L.es n).ha = L.na
          · have := ((hL.2.2.1 n (by omega)).2.2 (thB_kd w.1).1).2.2.1
            omega
          · rw [if_neg w]
      exact (this L.ne (Nat.le_refl _)).symm
    · rw [up_ne z, up_ne z, up_ne z]
      exact hL.2.2.2.1 a (by omega)
  · show L.hc = hcN (up L.es L.ne _) (L.ne + 1)
    rw [hc_app, thB_no (Or.inl (by decide)), if_neg (fun q => by cases q), Nat.add_zero]
    exact hL.2.2.2.2
theorem hold_inv {L : Lg} (hL : LInv L) (hne : L.ne < 200) {key : Int64} {a v : Nat} (ha : a < L.na) (hv0 : 0 < v) (hv : v < 9223372036854775808) (hf : ¬ (L.ba a).toInt < (L.fl a).toInt + ((L.he a + v : Nat) : Int)) : LInv (holdL L key a v) := by
  have h1 := hL.1
  have hby : ByL (lHold key a (Int64.ofNat v)) := (((ByL.one (by decide)).app (lB_by _ _)).app (ByL.one (by omega))).app (lB_by _ _)
  have hlen : (lHold key a (Int64.ofNat v)).length = 18 := by unfold lHold; simp [lB_len]
  have hth : thB (3, key, 0, noL, -1, a, v) = true := rfl
  refine app_inv (L := ((L.na, L.ne, L.ev, L.si, L.hc + 1), L.fl, L.ba, up L.he a (L.he a + v), L.es, L.yb, L.st)) ⟨hL.1, hL.2.1, hL.2.2.1⟩ hne ⟨⟨by omega, by omega, hby⟩, ⟨rfl, (show 1 ≤ 3 by decide), (show 3 ≤ 7 by decide), Nat.zero_le _⟩, fun k hk => absurd hk (Nat.not_lt_zero _), fun _ => ⟨⟨?_, fun k hk => ?_⟩, by omega, ha, hv0, hv, rfl⟩⟩ (fun c hc => ?_) ?_
  · show ([3] ++ lB key 8 ++ [a] ++ lB (Int64.ofNat v) 8).getD 9 0 = a
    rw [gD_l (by simp [lB_len]), gD_r (by simp [lB_len])]
    simp [lB_len]
  · show ([3] ++ lB key 8 ++ [a] ++ lB (Int64.ofNat v) 8).getD (10 + k) 0 = bN (Int64.ofNat v) (7 - k)
    have e0 : ([3] ++ lB key 8 ++ [a]).length = 10 := by simp [lB_len]
    rw [gD_r (by omega), e0, show 10 + k - 10 = k by omega, lB_get _ _ _ hk]
  · show (L.fl c).toInt + (up L.he a (L.he a + v) c : Nat) ≤ (L.ba c).toInt ∧ up L.he a (L.he a + v) c = hsN (up L.es L.ne (3, key, 0, noL, -1, a, v)) c (L.ne + 1)
    rw [hs_app, hth]
    have hc0 := hL.2.2.2.1 c hc
    by_cases z : c = a
    · rw [z, up_eq, if_pos ⟨rfl, rfl⟩]
      rw [z] at hc0
      exact ⟨by omega, by rw [hc0.2]; rfl⟩
    · rw [up_ne z, if_neg (fun q => z q.2.symm), Nat.add_zero]
      exact hc0
  · show L.hc + 1 = hcN (up L.es L.ne (3, key, 0, noL, -1, a, v)) (L.ne + 1)
    rw [hc_app, hth, if_pos rfl, hL.2.2.2.2]
theorem nI_n1 (n : Nat) (h : n < 2 ^ 31) : nI n ≠ -1 := by
  intro w
  have := nI_ge0 h
  rw [w] at this
  exact this (by decide)
theorem ends_inv {L : Lg} (hL : LInv L) {e : Nat} (he : e < L.ne) (hth : thB (L.es e) = true) : LInv (L.ends e (nI L.ne)) := by
  have h1 := hL.1
  have hk := thB_kd hth
  have hE := (hL.2.2.1 e he).2.2 hk.1
  have hno : thB ((L.es e).kd, (L.es e).ky, (L.es e).nl, (L.es e).lg, nI L.ne, (L.es e).ha, (L.es e).hm) = false := thB_no (Or.inr (nI_n1 L.ne (by omega)))
  refine ⟨hL.1, hL.2.1, fun i hi => ?_, fun a ha => ?_, ?_⟩
  · have o := hL.2.2.1 i hi
    unfold EOk
    show (L.yb (L.st i) = (up L.es e _ i).kd ∧ _) ∧ _
    by_cases z : i = e
    · subst z
      have ee : (L.ends i (nI L.ne)).es i = ((L.es i).kd, (L.es i).ky, (L.es i).nl, (L.es i).lg, nI L.ne, (L.es i).ha, (L.es i).hm) := up_eq
      rw [ee, up_eq]
      exact o
    · have ee : (L.ends e (nI L.ne)).es i = L.es i := up_ne z
      rw [ee, up_ne z]
      exact o
  · show (L.fl a).toInt + (up L.he (L.es e).ha (L.he (L.es e).ha - (L.es e).hm) a : Nat) ≤ (L.ba a).toInt ∧ up L.he (L.es e).ha (L.he (L.es e).ha - (L.es e).hm) a = hsN (up L.es e _) a L.ne
    have hs := hs_end (a := a) hth hno L.ne he
    have h0 := hL.2.2.2.1 a ha
    by_cases z : a = (L.es e).ha
    · subst z
      rw [if_pos rfl] at hs
      rw [up_eq]
      exact ⟨by omega, by omega⟩
    · rw [if_neg (fun q => z q.symm), Nat.add_zero] at hs
      rw [up_ne z]
      exact ⟨h0.1, by omega⟩
  · show L.hc - 1 = hcN (up L.es e _) L.ne
    have := hc_end hth hno L.ne he
    have := hL.2.2.2.2
    omega
theorem revd_inv {L : Lg} (hL : LInv L) {e : Nat} (he : e < L.ne) (hnl : (L.es e).nl ≠ 0) : LInv (L.revd e (nI L.ne)) := by
  have h1 := hL.1
  have h3 : (L.es e).kd ≠ 3 := fun q => hnl ((hL.2.2.1 e he).2.2 q).2.2.2.2.2
  have ho : thB (L.es e) = false := thB_no (Or.inl h3)
  have hno : thB ((L.es e).kd, (L.es e).ky, (L.es e).nl, (L.es e).lg, nI L.ne, (L.es e).ha, (L.es e).hm) = false := thB_no (Or.inl h3)
  refine ⟨hL.1, hL.2.1, fun i hi => ?_, fun a ha => ?_, ?_⟩
  · have o := hL.2.2.1 i hi
    unfold EOk
    show (L.yb (L.st i) = (up L.es e _ i).kd ∧ _) ∧ _
    by_cases z : i = e
    · subst z
      have ee : (L.revd i (nI L.ne)).es i = ((L.es i).kd, (L.es i).ky, (L.es i).nl, (L.es i).lg, nI L.ne, (L.es i).ha, (L.es i).hm) := up_eq
      rw [ee, up_eq]
      exact o
    · have ee : (L.revd e (nI L.ne)).es i = L.es i := up_ne z
      rw [ee, up_ne z]
      exact o
  · show (L.fl a).toInt + (L.he a : Nat) ≤ (L.ba a).toInt ∧ L.he a = hsN (up L.es e _) a L.ne
    rw [hs_same ho hno]
    exact hL.2.2.2.1 a ha
  · show L.hc = hcN (up L.es e _) L.ne
    rw [hc_same ho hno]
    exact hL.2.2.2.2
/-- an account that no leg names keeps its balance -/
theorem bh_other {lg : Nat → Nat × Int64} {a : Nat} : ∀ (q k : Nat) (ba bb : Nat → Int64), bhR lg q k ba = some bb → (∀ j, k ≤ j → j < k + q → (lg j).1 ≠ a) → bb a = ba a
  | 0, _, _, _, h, _ => by cases h; rfl
  | q + 1, k, ba, bb, h, hn => by
    rw [bhR] at h
    by_cases z : 0 ≤ ((ba (lg k).1 ^^^ (ba (lg k).1 + (lg k).2)) &&& ((lg k).2 ^^^ (ba (lg k).1 + (lg k).2)))
    · rw [if_pos z] at h
      rw [bh_other q (k + 1) _ bb h (fun j a1 a2 => hn j (by omega) (by omega)), up_ne (fun w => hn k (by omega) (by omega) w.symm)]
    · rw [if_neg z] at h
      cases h
theorem wba_inv {L : Lg} (hL : LInv L) {n : Nat} {lg : Nat → Nat × Int64} {bb : Nat → Int64} (hb : bhR lg n 0 L.ba = some bb) (hlo : ¬ lowB L bb L.he n lg) : LInv (L.wba bb) := by
  refine ⟨hL.1, hL.2.1, hL.2.2.1, fun a ha => ⟨?_, (hL.2.2.2.1 a ha).2⟩, hL.2.2.2.2⟩
  show (L.fl a).toInt + (L.he a : Nat) ≤ (bb a).toInt
  by_cases z : ∃ k, k < n ∧ (lg k).1 = a
  · obtain ⟨k, hk, rfl⟩ := z
    exact Int.not_lt.mp (fun q => hlo ⟨k, hk, q⟩)
  · rw [bh_other n 0 L.ba bb hb (fun j _ hj w => z ⟨j, by omega, w⟩)]
    exact (hL.2.2.2.1 a ha).1
theorem trl_inv {L : Lg} (hL : LInv L) (hne : L.ne < 200) : LInv (trl L) := by
  have h1 := hL.1
  refine LInv.si (app_plain hL hne (new_plain (kd := 7) (by show 3 ≤ 18; decide) (by show 18 ≤ 82; decide) ?_ rfl (by decide) (by decide) (by decide)) (show 7 ≠ 3 by decide)) (Nat.zero_le _)
  intro x hx
  have t := tb_lt (pS L.ba L.na)
  simp only [tbL, List.mem_cons, List.not_mem_nil, or_false] at hx
  rcases hx with rfl | rfl | rfl | rfl | rfl | rfl | rfl | rfl | rfl | rfl | rfl | rfl | rfl | rfl | rfl | rfl | rfl | rfl
  · decide
  · omega
  all_goals exact t _
theorem mvT_inv {L : Lg} (hL : LInv L) : LInv (mvT L) := by
  unfold mvT
  by_cases z : 0 < L.ev ∧ L.ev ≤ L.si ∧ L.ne < 200
  · rw [if_pos z]; exact trl_inv hL z.2.2
  · rw [if_neg z]; exact hL
/-- an entry of legs -/
theorem mv_inv {L : Lg} (hL : LInv L) (hne : L.ne < 200) {n : Nat} {lg : Nat → Nat × Int64} {bb : Nat → Int64} (hb : bhR lg n 0 L.ba = some bb) (hlo : ¬ lowB L bb L.he n lg) (hn : n ≤ 8) (hlg : ∀ k, k < n → (lg k).1 < L.na ∧ (lg k).2 ≠ 0 ∧ (lg k).2 ≠ -9223372036854775808) {kd : Nat} {key : Int64} {l : List Nat} (h1 : 3 ≤ l.length) (h2 : l.length ≤ 82) (h3 : ByL l) (h4 : l.getD 0 0 = kd) (h5 : 1 ≤ kd) (h6 : kd ≤ 7) (h7 : kd ≠ 3) : LInv (mvT (mvE L bb (kd, key, n, lg, -1, 0, 0) l)) := by
  have hs := hL.1.2.2.2
  have hN : NewOk (L.wba bb).na (kd, key, n, lg, -1, 0, 0) l := ⟨⟨h1, h2, h3⟩, ⟨h4, h5, h6, hn⟩, hlg, fun q => absurd q h7⟩
  exact mvT_inv (LInv.si (app_plain (wba_inv hL hb hlo) hne hN h7) (by show L.si + 1 ≤ L.ne + 1; omega))
theorem aOpen_inv {L : Lg} (hL : LInv L) (f : Int64) : LInv (aOpen L f).2 := by
  unfold aOpen
  by_cases z1 : 0 < f
  · rw [if_pos z1]; exact hL
  rw [if_neg z1]
  by_cases z2 : 200 ≤ L.ne
  · rw [if_pos z2]; exact hL
  rw [if_neg z2]
  by_cases z3 : 40 ≤ L.na
  · rw [if_pos z3]; exact hL
  rw [if_neg z3]
  exact open_inv hL (by omega) (by omega) z1
theorem aHold_inv {L : Lg} (hL : LInv L) (key : Int64) (a v : Nat) (hv0 : 0 < v) (hv : v < 9223372036854775808) : LInv (aHold L key a v).2 := by
  unfold aHold
  by_cases z1 : ansB L key (lHold key a (Int64.ofNat v)) ≠ -1
  · rw [if_pos z1]; exact hL
  rw [if_neg z1]
  by_cases z2 : L.na ≤ a
  · rw [if_pos z2]; exact hL
  rw [if_neg z2]
  by_cases z3 : (L.ba a).toInt < (L.fl a).toInt + ((L.he a + v : Nat) : Int)
  · rw [if_pos z3]; exact hL
  rw [if_neg z3]
  by_cases z4 : 200 ≤ L.ne
  · rw [if_pos z4]; exact hL
  rw [if_neg z4]
  exact hold_inv hL (by omega) (by omega) hv0 hv z3
theorem aRel_inv {L : Lg} (hL : LInv L) (e : Nat) (he : e < 200) : LInv (aRel L e).2 := by
  unfold aRel
  by_cases z1 : ¬ (e < L.ne ∧ thB (L.es e) = true)
  · rw [if_pos z1]; exact hL
  rw [if_neg z1]
  have z1 := Decidable.not_not.mp z1
  by_cases z2 : 200 ≤ L.ne
  · rw [if_pos z2]; exact hL
  rw [if_neg z2]
  exact app_plain (ends_inv hL z1.1 z1.2) (show L.ne < 200 by omega) (new_plain (by show 3 ≤ 3; decide) (by show 3 ≤ 82; decide) ((ByL.one (by decide)).app (ByL.two (by decide) (by omega))) rfl (by decide) (by decide) (by decide)) (show 4 ≠ 3 by decide)
theorem aPost_inv {L : Lg} (hL : LInv L) (key : Int64) (n : Nat) (lg : Nat → Nat × Int64) (hn : n ≤ 8) (hlg : ∀ k, k < n → (lg k).1 < 256 ∧ (lg k).2 ≠ 0 ∧ (lg k).2 ≠ -9223372036854775808) : LInv (aPost L key n lg).2 := by
  unfold aPost
  by_cases z1 : ansB L key (lPost key n lg) ≠ -1
  · rw [if_pos z1]; exact hL
  rw [if_neg z1]
  by_cases z2 : ¬ (∀ j, j < n → (lg j).1 < L.na)
  · rw [if_pos z2]; exact hL
  rw [if_neg z2]
  by_cases z3 : ¬ evenL n lg
  · rw [if_pos z3]; exact hL
  rw [if_neg z3]
  by_cases z4 : wgh L L.he n lg ≠ 0
  · rw [if_pos z4]; exact hL
  rw [if_neg z4]
  have z2 := Decidable.not_not.mp z2
  obtain ⟨bb, v1, v2, v3, v4⟩ := wgh_0 (Decidable.not_not.mp z4)
  rw [v2]
  have hlen : (lPost key n lg).length = 10 + 9 * n := by unfold lPost; simp [lB_len, lgB_len]; omega
  exact mv_inv hL v4 v1 v3 hn (fun k hk => ⟨z2 k hk, (hlg k hk).2⟩) (by omega) (by omega) ((((ByL.one (by decide)).app (lB_by _ _)).app (ByL.one (by omega))).app (lgB_by lg n 0 (fun j _ hj => (hlg j (by omega)).1))) rfl (by decide) (by decide) (by decide)
theorem aCap_inv {L : Lg} (hL : LInv L) (key : Int64) (e a v : Nat) (he : e < 200) (ha : a < 256) (hv0 : 0 < v) (hv : v < 9223372036854775808) : LInv (aCap L key e a v).2 := by
  unfold aCap
  by_cases z1 : ansB L key (lCap key e a (Int64.ofNat v)) ≠ -1
  · rw [if_pos z1]; exact hL
  rw [if_neg z1]
  by_cases z2 : ¬ (e < L.ne ∧ thB (L.es e) = true ∧ a < L.na ∧ v ≤ (L.es e).hm)
  · rw [if_pos z2]; exact hL
  rw [if_neg z2]
  have z2 := Decidable.not_not.mp z2
  by_cases z4 : wgh L (up L.he (L.es e).ha (L.he (L.es e).ha - (L.es e).hm)) 2 (cLg (L.es e).ha a (Int64.ofNat v)) ≠ 0
  · rw [if_pos z4]; exact hL
  rw [if_neg z4]
  obtain ⟨bb, v1, v2, v3, v4⟩ := wgh_0 (Decidable.not_not.mp z4)
  rw [v2]
  have hE := (hL.2.2.1 e z2.1).2.2 (thB_kd z2.2.1).1
  have vn := of_ne hv0 hv
  have hlen : (lCap key e a (Int64.ofNat v)).length = 20 := by unfold lCap; simp [lB_len]
  refine mv_inv (ends_inv hL z2.1 z2.2.1) v4 v1 v3 (by omega) (fun k hk => ?_) (by omega) (by omega) (((((ByL.one (by decide)).app (lB_by _ _)).app (ByL.two (by decide) (by omega))).app (ByL.one ha)).app (lB_by _ _)) rfl (by decide) (by decide) (by decide)
  show (cLg (L.es e).ha a (Int64.ofNat v) k).1 < L.na ∧ _
  unfold cLg
  by_cases w : k = 0
  · rw [if_pos w]; exact ⟨hE.2.2.1, vn.2.2.1, vn.2.2.2⟩
  · rw [if_neg w]; exact ⟨z2.2.2.1, vn.1, vn.2.1⟩
theorem aRev_inv {L : Lg} (hL : LInv L) (key : Int64) (e : Nat) (he : e < 200) : LInv (aRev L key e).2 := by
  unfold aRev
  by_cases z1 : ansB L key (lRev key e) ≠ -1
  · rw [if_pos z1]; exact hL
  rw [if_neg z1]
  by_cases z2 : ¬ (e < L.ne ∧ (L.es e).nl ≠ 0)
  · rw [if_pos z2]; exact hL
  rw [if_neg z2]
  have z2 := Decidable.not_not.mp z2
  by_cases z3 : (L.es e).en ≠ -1
  · rw [if_pos z3]; exact hL
  rw [if_neg z3]
  by_cases z4 : wgh L L.he (L.es e).nl (rLg (L.es e).lg) ≠ 0
  · rw [if_pos z4]; exact hL
  rw [if_neg z4]
  obtain ⟨bb, v1, v2, v3, v4⟩ := wgh_0 (Decidable.not_not.mp z4)
  rw [v2]
  have hE := hL.2.2.1 e z2.1
  have hlen : (lRev key e).length = 11 := by unfold lRev; simp [lB_len]
  refine mv_inv (revd_inv hL z2.1 z2.2) v4 v1 v3 hE.1.2.2.2 (fun k hk => ?_) (by omega) (by omega) (((ByL.one (by decide)).app (lB_by _ _)).app (ByL.two (by decide) (by omega))) rfl (by decide) (by decide) (by decide)
  have o := hE.2.1 k hk
  exact ⟨o.1, neg_ne o.2.1 o.2.2⟩
