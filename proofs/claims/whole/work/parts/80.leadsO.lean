-- P6, reference: leads as a whole
section LeadsO
variable {N SL : Nat} {S : Nat → Shp} {R : Nat → Nat → Option Nat}
theorem isHd_M (hT : TopAt N S R) (I : Nat → Nat → Int32) (J : Nat → Nat → Int64) (hd : Hd) (hH : HdM I hd) (ne : Nat) (hne : ne ≤ 200) (hG : HdG hd ne) (x : Int32) (n : Nat) (hn : n ≤ 200) :
    fX9_isHeadOf 759 x (nI n) (N, SL, S, R, I, J) = some (match hdN hd x with | none => 0 | some v => if v.1 = n then 1 else 0, (N, SL, S, R, I, J)) := by
  have hA := hT.md
  unfold fX9_isHeadOf fX9_isHeadOf_33 fX9_isHeadOf_34 hdN
  rw [in_mk, bd_some]
  by_cases q : x < 0 ∨ ¬ x < 8
  · rw [if_pos ((in7 x).mpr q), if_pos rfl, if_pos q, retZ_0]
  · obtain ⟨k, rfl, hk⟩ := in_nI (n := 8) (by decide) q
    obtain ⟨o1, o2⟩ := hH k hk
    rw [if_neg (fun z => q ((in7 _).mp z)), if_neg (show ¬ (1 : Int32) = 0 by decide), if_neg q, nI_clamp (by omega), md_f49 hA, md_r39 hA hk]
    show (if I 798 k = 0 then _ else _) = _
    cases e : hd k with
    | none =>
      rw [o1 e, if_pos rfl, retZ_0]
      rfl
    | some v =>
      obtain ⟨n', c, t⟩ := v
      obtain ⟨a0, a1, a2, a3⟩ := o2 n' c t e
      have hn' := hG k n' c t e
      rw [a0, if_neg (show ¬ (1 : Int32) = 0 by decide), md_f48 hA, md_r38 hA hk]
      show (if I 797 k = nI n then _ else _) = some (if n' = n then 1 else 0, _)
      rw [a1]
      by_cases z : n' = n
      · rw [if_pos (by rw [z]), retZ_1, if_pos z]
      · rw [if_neg (fun y => z ((nI_eq (by omega) (by omega)).mp y)), retZ_0, if_neg z]
theorem cp87_loop (hA : MdAt N S R 759) (hN : 806 < N) (J : Nat → Nat → Int64) (x y : Int32) (s : Int32) (H : Nat → Int32) : ∀ (q b fuel : Nat) (I : Nat → Nat → Int32), b + q = 32 → q < fuel → (∀ j, j < 32 → I 794 j = hb H j) → (∀ j, j < b → I 806 j = hb H j) →
    ∃ I' : Nat → Nat → Int32, fX9_leads_87 fuel 759 x y s (nI b) (N, SL, S, R, I, J) = fX9_leads_196 759 x y s (N, SL, S, R, I', J) ∧ (∀ c, c ≠ 806 → I' c = I c) ∧ ∀ j, j < 32 → I' 806 j = hb H j
  | 0, b, fuel, I, hb', hf, hh, hd => by
    obtain ⟨y', rfl⟩ : ∃ y', fuel = y' + 1 := ⟨fuel - 1, by omega⟩
    have : b = 32 := by omega
    subst this
    exact ⟨I, by rw [fX9_leads_87, if_pos (by decide)], fun _ _ => rfl, hd⟩
  | q + 1, b, fuel, I, hb', hf, hh, hd => by
    obtain ⟨y', rfl⟩ : ∃ y', fuel = y' + 1 := ⟨fuel - 1, by omega⟩
    obtain ⟨I', g1, g2, g3⟩ := cp87_loop hA hN J x y s H q (b + 1) y' (u2 I 806 b (hb H b)) (by omega) (by omega) (fun j hj => by rw [u2_ne (by decide)]; exact hh j hj) (fun j hj => by
      rw [u2_at]
      by_cases z : j = b
      · rw [z, up_eq]
      · rw [up_ne z]; exact hd j (by omega))
    refine ⟨I', ?_, fun c hc => by rw [g2 c hc, u2_ne hc], g3⟩
    rw [fX9_leads_87, if_neg (show ¬ (32 : Int32) ≤ nI b from nI_lt_of (k := 32) (by decide) (by omega)), md_f65 hA, md_f45 hA, md_r35 hA (by omega)]
    show wI _ .int (759 + 47) (nI b) (I 794 b) _ = _
    rw [hh b (by omega), md_w47 hA (by omega), nI_1]
    exact g1
/-- older and newer begin alike -/
theorem cp120_loop (hA : MdAt N S R 759) (J : Nat → Nat → Int64) (kx : Nat) (hkx : kx < 8) (y : Int32) (own : Bool) (H : Nat → Int32) : ∀ (q b fuel : Nat) (I : Nat → Nat → Int32), b + q = 32 → q < fuel → I 759 63 = bI (!own) → (own = true → ∀ j, j < 32 → I 801 j = hb H j) → (own = false → ∀ j, j < 32 → I 800 (32 * kx + j) = hb H j) → (∀ j, j < b → I 805 j = hb H j ∧ I 806 j = hb H j) →
    ∃ I' : Nat → Nat → Int32, fX9_leads_120 fuel 759 (nI kx) y (nI b) (N, SL, S, R, I, J) = fX9_leads_196 759 (nI kx) y (bI own) (N, SL, S, R, I', J) ∧ (∀ c, c ≠ 805 → c ≠ 806 → I' c = I c) ∧ (∀ j, j < 32 → I' 805 j = hb H j) ∧ ∀ j, j < 32 → I' 806 j = hb H j
  | 0, b, fuel, I, hb', hf, h63, h1, h2, hd => by
    obtain ⟨y', rfl⟩ : ∃ y', fuel = y' + 1 := ⟨fuel - 1, by omega⟩
    have : b = 32 := by omega
    subst this
    refine ⟨I, ?_, fun _ _ _ => rfl, fun j hj => (hd j hj).1, fun j hj => (hd j hj).2⟩
    rw [fX9_leads_120, if_pos (by decide), md_g hA, h63]
    unfold fX9_leads_195
    cases own with
    | true => rw [if_pos (show bI (!true) = 0 from rfl)]; rfl
    | false => rw [if_neg (show ¬ bI (!false) = 0 by decide)]; rfl
  | q + 1, b, fuel, I, hb', hf, h63, h1, h2, hd => by
    obtain ⟨y', rfl⟩ : ∃ y', fuel = y' + 1 := ⟨fuel - 1, by omega⟩
    have f1 : ∀ c, c ≠ 805 → c ≠ 806 → u2 (u2 I 805 b (hb H b)) 806 b (hb H b) c = I c := fun c q1 q2 => by rw [u2_ne q2, u2_ne q1]
    obtain ⟨I', g1, g2, g3, g4⟩ := cp120_loop hA J kx hkx y own H q (b + 1) y' (u2 (u2 I 805 b (hb H b)) 806 b (hb H b)) (by omega) (by omega) (by rw [f1 759 (by decide) (by decide)]; exact h63) (fun z j hj => by rw [f1 801 (by decide) (by decide)]; exact h1 z j hj) (fun z j hj => by rw [f1 800 (by decide) (by decide)]; exact h2 z j hj) (fun j hj => by
      rw [u2_ne (show (805 : Nat) ≠ 806 by decide), u2_at, u2_at, u2_ne (show (806 : Nat) ≠ 805 by decide)]
      by_cases z : j = b
      · rw [z, up_eq, up_eq]; exact ⟨rfl, rfl⟩
      · rw [up_ne z, up_ne z]; exact hd j (by omega))
    refine ⟨I', ?_, fun c q1 q2 => by rw [g2 c q1 q2, f1 c q1 q2], g3, g4⟩
    have fin : fX9_leads_162 (fX9_leads_120 y') 759 (nI kx) y (nI b) (hb H b) (nI b) 805 (N, SL, S, R, I, J) = fX9_leads_196 759 (nI kx) y (bI own) (N, SL, S, R, I', J) := by
      unfold fX9_leads_162
      show wI _ .int (759 + 46) (nI b) (hb H b) _ = _
      rw [md_w46 hA (by omega), md_f65 hA, md_f64 hA, md_r46 hA (by omega)]
      show wI _ .int (759 + 47) (nI b) (u2 I 805 b (hb H b) 805 b) _ = _
      rw [u2_i, md_w47 hA (by omega), nI_1]
      exact g1
    rw [fX9_leads_120, if_neg (show ¬ (32 : Int32) ≤ nI b from nI_lt_of (k := 32) (by decide) (by omega)), md_f64 hA, md_g hA, h63]
    cases own with
    | true =>
      rw [if_pos (show bI (!true) = 0 from rfl), md_f56 hA, md_r42 hA (by omega)]
      show fX9_leads_162 _ 759 (nI kx) y (nI b) (I 801 b) (nI b) 805 _ = _
      rw [h1 rfl b (by omega)]
      exact fin
    | false =>
      rw [if_neg (show ¬ bI (!false) = 0 by decide), md_f51 hA, show (32 : Int32) = nI 32 from rfl, nI_mul, nI_add, md_r41 hA (by omega)]
      show fX9_leads_162 _ 759 (nI kx) y (nI b) (I 800 (32 * kx + b)) (nI b) 805 _ = _
      rw [h2 rfl b (by omega)]
      exact fin
set_option maxHeartbeats 8000000 in
theorem m_leads (hT : TopAt N S R) (I : Nat → Nat → Int32) (J : Nat → Nat → Int64) (L : Lg) (tn : Nat) (tl : Nat → Nat × Int64) (nw : Nat → Nat) (et : Nat → Option Nat) (hL : LInv L) (h : MA I J L tn tl nw et) (hS : MS I) (hd : Hd) (hH : HdM I hd) (hG : HdG hd L.ne) (tr : Tr) (hR : TrM I tr) (hTG : TrG L.ne tr) (x y : Int32) :
    ∃ I' : Nat → Nat → Int32, fX9_leads 759 x y (N, SL, S, R, I, J) = some (aLeads L nw hd tr x y, (N, SL, S, R, I', J)) ∧ MS I' ∧ LFr I I' := by
  have h1 := hL.1
  have hA := hT.md
  have hN := hT.1.2.1
  have nothing : LFr I I := ⟨fun _ _ _ _ => rfl, fun _ _ _ => rfl⟩
  unfold fX9_leads fX9_leads_39
  cases tr with
  | none =>
    have h0 : I 759 52 = nI 0 := hR
    rw [md_g hA, h0, if_pos (show nI 0 = 0 from rfl)]
    exact ⟨I, rfl, hS, nothing⟩
  | some v =>
    obtain ⟨pf, fr, ti, hs⟩ := v
    have hok : TrOk pf fr ti L.ne := hTG
    have l1 := hok.1
    have l2 := hok.2.1
    have he := eO_ok hok
    obtain ⟨d1, d2, d3⟩ := tr_dn h1.2.1 hok
    have h9 := st9 h1.2.1 (tr := some (pf, fr, ti, hs)) hok pf fr ti hs rfl
    obtain ⟨a1, a2, a3, a4, a5⟩ := hR
    have hy := isHd_M (SL := SL) hT I J hd hH L.ne h1.2.1 hG y ti (by omega)
    have hx := isHd_M (SL := SL) hT I J hd hH L.ne h1.2.1 hG x fr (by omega)
    have hp0 : ¬ nI (if pf = true then 2 else 1) = 0 := by cases pf <;> decide
    rw [md_g hA, a1, if_neg hp0, md_g hA, a3, md_o hA, hy, bd_some]
    show ∃ I', _ = some (aLeads1 L nw pf fr ti hs (hdN hd x) (hdN hd y), _) ∧ _
    cases ey : hdN hd y with
    | none =>
      rw [if_pos rfl]
      exact ⟨I, rfl, hS, nothing⟩
    | some vy =>
      obtain ⟨n, t⟩ := vy
      show ∃ I', (if (if n = ti then (1 : Int32) else 0) = 0 then _ else _) = some ((if n = ti then (if pf = true then aLeads2 pf fr ti hs t (hdN hd x) else (if same8 (trU pf fr ti hs (lfA nw L.st fr)).2 t then 1 else 0)) else -1 : Int32), _) ∧ _
      by_cases w : ¬ n = ti
      · rw [if_neg w, if_pos rfl, if_neg w]
        exact ⟨I, rfl, hS, nothing⟩
      have w : n = ti := Decidable.not_not.mp w
      obtain ⟨ky, cy, rfl, hky, eky⟩ := hdN_some ey
      have hty := ((hH ky hky).2 n cy t eky).2.2.2
      rw [if_pos w, if_neg (show ¬ (1 : Int32) = 0 by decide), if_pos w, md_g hA, a1]
      -- the way down again
      obtain ⟨I1, g1, g2, g3, g4, g5, g6, g7⟩ := down_M (SL := SL) hT I J pf (eO pf fr) ti he (by omega)
      have hl : lfO pf (eO pf fr) 0 = fr := by
        unfold lfO eO
        by_cases z : pf = true
        · rw [if_pos z, if_pos z]; have := hok.2.2 z; omega
        · rw [if_neg z, if_neg z]; omega
      rw [hl] at g1
      have f1 : LFr I I1 := ⟨fun c q1 q2 q3 => g2.1 c q1 (by omega), fun j _ hj => g2.2 j (by omega)⟩
      have ms1 : MS I1 := ⟨fun j hj => by rw [g2.1 790 (by omega) (by omega)]; exact hS.1 j hj, by rw [g2.2 42 (by omega)]; exact hS.2⟩
      have hF1 : ∀ i, i < (tT pf fr ti).length → I1 802 i = bI (tN pf fr ti i).1 := fun i hi => by
        have := (g7 i hi).1
        rw [Nat.zero_add] at this
        exact this
      -- going up
      have up' : ∀ (I2 : Nat → Nat → Int32) (b t' : Nat → Int32) (kx : Nat), (pf = true → x = nI kx ∧ kx < 8) → MS I2 → LFr I I2 → I2 802 = I1 802 → I2 759 60 = nI (tT pf fr ti).length → (pf = true → ∀ j, j < 32 → I 800 (32 * kx + j) = hb t' j) → (pf = true → ∀ j, j < 32 → I2 805 j = hb b j) → (∀ j, j < 32 → I2 806 j = hb b j) →
          ∃ I' : Nat → Nat → Int32, fX9_leads_196 759 x (nI ky) (nI (oN pf fr ti)) (N, SL, S, R, I2, J) = some (if same8 (trU pf fr ti hs b).2 t then (if pf = true then (if same8 (trU pf fr ti hs b).1 t' then 1 else 0) else 1) else 0, (N, SL, S, R, I', J)) ∧ MS I' ∧ LFr I I' := by
        intro I2 b t' kx hkx ms2 f2 z1 z2 z3 z4 z5
        obtain ⟨I3, k1, k2, k3⟩ := leads_loop (SL := SL) hT J pf (fun q => (tN pf fr ti q).1) hs (stN pf fr ti) h9 x kx ky hkx hky t t' (tT pf fr ti).length (oN pf fr ti) FU b b I2 d3 rfl (by unfold FU; omega) ms2 (by rw [f2.2 52 (by decide) (by omega)]; exact a1) (fun i hi => by rw [z1]; exact hF1 i hi) (fun i hi j hj => by rw [f2.1 801 (by omega) (by omega) (by omega)]; exact a5 i hi j hj) (fun j hj => by rw [f2.1 800 (by omega) (by omega) (by omega)]; exact hty j hj) (fun hp j hj => by rw [f2.1 800 (by omega) (by omega) (by omega)]; exact z3 hp j hj) z4 z5
        refine ⟨I3, ?_, k2, f2.trans k3⟩
        unfold fX9_leads_196
        rw [md_g hA, z2]
        exact k1
      have d63 : ∀ K : Mem → Option (Int32 × Mem), fX9_leads_41 759 x (nI ky) (N, SL, S, R, I, J) = fX9_leads_63 759 x (nI ky) (bI (!pf)) (nI ti) (nI fr) 759 (N, SL, S, R, I, J) := by
        intro K
        unfold fX9_leads_41
        rw [md_g hA, a2, md_g hA, a3, md_g hA, a1]
        cases pf with
        | false => rw [if_neg Bool.false_ne_true, if_pos (show nI 1 = (1 : Int32) from rfl)]; rfl
        | true => rw [if_pos rfl, if_neg (show ¬ nI 2 = (1 : Int32) by decide)]; rfl
      have e52 : I1 759 52 = nI (if pf = true then 2 else 1) := by rw [g2.2 52 (by omega)]; exact a1
      have e53 : I1 759 53 = nI fr := by rw [g2.2 53 (by omega)]; exact a2
      cases pf with
      | false =>
        rw [if_neg Bool.false_ne_true, if_neg (show ¬ nI 1 = (2 : Int32) by decide), if_neg Bool.false_ne_true, d63 (fun _ => none)]
        have m1 : MA I1 J L tn tl nw et := h.sfr g2.sfr
        obtain ⟨I2, c1, c2, c3, c4⟩ := leaf_MD (SL := SL) hT I1 J L hL nw m1.2.1 m1.2.2.1 ms1 fr (by omega)
        obtain ⟨I3, p1, p2, p3⟩ := cp87_loop (SL := SL) hA hN J x (nI ky) 0 (lfA nw L.st fr) 32 0 FU I2 rfl (by decide) c4 (fun j hj => absurd hj (by omega))
        have f3 : LFr I I3 := f1.trans ⟨fun c q1 q2 q3 => by rw [p2 c (by omega), c2.1 c q1 q2], fun j q1 q2 => by rw [p2 759 (by decide), c2.2 j q1]⟩
        obtain ⟨I4, u1', u2', u3'⟩ := up' I3 (lfA nw L.st fr) (fun _ => 0) 0 (fun q => by cases q) ⟨fun j hj => by rw [p2 790 (by decide)]; exact c3.1 j hj, by rw [p2 759 (by decide)]; exact c3.2⟩ f3 (by rw [p2 802 (by decide), c2.1 802 (by omega) (by omega)]) (by rw [p2 759 (by decide), c2.2 60 (by decide)]; exact g3) (fun q => by cases q) (fun q => by cases q) p3
        refine ⟨I4, ?_, u2', u3'⟩
        unfold fX9_leads_63
        rw [md_o hA, g1, bd_some, md_g hA, e52, if_neg Bool.false_ne_true, if_pos (show nI 1 = (1 : Int32) from rfl), md_g hA, e53, md_o hA, c1, bd_some]
        refine p1.trans ?_
        rw [if_neg Bool.false_ne_true] at u1'
        exact u1'
      | true =>
        rw [if_pos rfl, if_pos (show nI 2 = (2 : Int32) from rfl), if_pos rfl, md_g hA, a2, md_o hA, hx, bd_some]
        cases ex : hdN hd x with
        | none =>
          rw [if_pos rfl]
          exact ⟨I, rfl, hS, nothing⟩
        | some vx =>
          obtain ⟨n', t'⟩ := vx
          show ∃ I', (if (if n' = fr then (1 : Int32) else 0) = 0 then _ else _) = some ((if n' = fr then (if same8 (trU true fr ti hs (if oN true fr ti = 0 then t' else hs 0)).1 t' ∧ same8 (trU true fr ti hs (if oN true fr ti = 0 then t' else hs 0)).2 t then 1 else 0) else -1 : Int32), _) ∧ _
          by_cases w' : ¬ n' = fr
          · rw [if_neg w', if_pos rfl, if_neg w']
            exact ⟨I, rfl, hS, nothing⟩
          have w' : n' = fr := Decidable.not_not.mp w'
          obtain ⟨kx, cx, rfl, hkx, ekx⟩ := hdN_some ex
          have htx := ((hH kx hkx).2 n' cx t' ekx).2.2.2
          rw [if_pos w', if_neg (show ¬ (1 : Int32) = 0 by decide), if_pos w', d63 (fun _ => none)]
          have hoN : oN true fr ti = if (tE true fr ti).1 = 0 then 0 else 1 := by
            unfold oN
            by_cases z : (tE true fr ti).1 = 0
            · rw [if_pos z, if_neg (fun q => by have := q.2; omega)]
            · rw [if_neg z, if_pos ⟨rfl, by omega⟩]
          obtain ⟨own, hown⟩ : ∃ own : Bool, own = !decide ((tE true fr ti).1 = 0) := ⟨_, rfl⟩
          have e63 : I1 759 63 = bI (!own) := by
            rw [g6, hown]
            show (if (tE true fr ti).1 = 0 then 1 else 0) = _
            by_cases z : (tE true fr ti).1 = 0
            · rw [if_pos z, decide_eq_true z]; rfl
            · rw [if_neg z, decide_eq_false z]; rfl
          have eo : bI own = nI (oN true fr ti) := by
            rw [hown, hoN]
            by_cases z : (tE true fr ti).1 = 0
            · rw [if_pos z, decide_eq_true z]; rfl
            · rw [if_neg z, decide_eq_false z]; rfl
          obtain ⟨I2, p1, p2, p3, p4⟩ := cp120_loop (SL := SL) hA J kx hkx (nI ky) own (if oN true fr ti = 0 then t' else hs 0) 32 0 FU I1 rfl (by decide) e63 (fun q j hj => by
            have hne : ¬ (tE true fr ti).1 = 0 := fun z => by rw [hown, decide_eq_true z] at q; cases q
            have e1 : oN true fr ti = 1 := by rw [hoN, if_neg hne]
            rw [e1, if_neg (by decide), g2.1 801 (by omega) (by omega)]
            have := a5 0 (by unfold stN; omega) j hj
            rw [Nat.mul_zero, Nat.zero_add] at this
            exact this) (fun q j hj => by
            have he0 : (tE true fr ti).1 = 0 := Decidable.not_not.mp (fun z => by rw [hown, decide_eq_false z] at q; cases q)
            have e1 : oN true fr ti = 0 := by rw [hoN, if_pos he0]
            rw [if_pos e1, g2.1 800 (by omega) (by omega)]
            exact htx j hj) (fun j hj => absurd hj (by omega))
          have f2 : LFr I I2 := f1.trans ⟨fun c q1 q2 q3 => p2 c (by omega) (by omega), fun j _ _ => by rw [p2 759 (by decide) (by decide)]⟩
          obtain ⟨I4, u1', u2', u3'⟩ := up' I2 (if oN true fr ti = 0 then t' else hs 0) t' kx (fun _ => ⟨rfl, hkx⟩) ⟨fun j hj => by rw [p2 790 (by decide) (by decide)]; exact ms1.1 j hj, by rw [p2 759 (by decide) (by decide)]; exact ms1.2⟩ f2 (p2 802 (by decide) (by decide)) (by rw [p2 759 (by decide) (by decide)]; exact g3) (fun _ => htx) (fun _ => p3) p4
          refine ⟨I4, ?_, u2', u3'⟩
          unfold fX9_leads_63
          rw [md_o hA, g1, bd_some, md_g hA, e52, if_pos rfl, if_neg (show ¬ nI 2 = (1 : Int32) by decide)]
          refine p1.trans ?_
          rw [eo, u1', if_pos rfl]
          by_cases z1 : same8 (trU true fr ti hs (if oN true fr ti = 0 then t' else hs 0)).2 t
          · rw [if_pos z1]
            by_cases z2 : same8 (trU true fr ti hs (if oN true fr ti = 0 then t' else hs 0)).1 t'
            · rw [if_pos z2, if_pos ⟨z2, z1⟩]
            · rw [if_neg z2, if_neg (fun q => z2 q.1)]
          · rw [if_neg z1, if_neg (fun q => z1 q.2)]
end LeadsO
