-- P6, reference: leads, to its end
section LeadsN
variable {N SL : Nat} {S : Nat → Shp} {R : Nat → Nat → Option Nat}
theorem isHe_no (hA : MdAt N S R 759) (I : Nat → Nat → Int32) (J : Nat → Nat → Int64) (r : Nat) (k : Int32) : ∀ (q b fuel : Nat), b + q = 32 → q < fuel → fX9_isHead_5 fuel 759 r k 0 (nI b) (N, SL, S, R, I, J) = some (0, (N, SL, S, R, I, J))
  | 0, b, fuel, hb', hf => by
    obtain ⟨y, rfl⟩ : ∃ y, fuel = y + 1 := ⟨fuel - 1, by omega⟩
    have : b = 32 := by omega
    subst this
    rw [fX9_isHead_5, if_pos (by decide), retZ_0]
  | q + 1, b, fuel, hb', hf => by
    obtain ⟨y, rfl⟩ : ∃ y, fuel = y + 1 := ⟨fuel - 1, by omega⟩
    rw [fX9_isHead_5, if_neg (show ¬ (32 : Int32) ≤ nI b from nI_lt_of (k := 32) (by decide) (by omega)), if_pos rfl]
    unfold fX9_isHead_39 fX9_isHead_40
    rw [nI_1]
    exact isHe_no hA I J r k q (b + 1) y (by omega) (by omega)
theorem isHe_loop (hA : MdAt N S R 759) (I : Nat → Nat → Int32) (J : Nat → Nat → Int64) (r : Nat) (hr : r < N) (hs : S r = .inl (.int, 32)) (k : Nat) (hk : k < 8) (a t : Nat → Int32) (ha : ∀ j, j < 32 → I r j = hb a j) (ht : ∀ j, j < 32 → I 800 (32 * k + j) = hb t j) : ∀ (q b fuel : Nat), b + q = 32 → q < fuel → (∀ j, j < b → hb a j = hb t j) → fX9_isHead_5 fuel 759 r (nI k) 1 (nI b) (N, SL, S, R, I, J) = some (if same8 a t then 1 else 0, (N, SL, S, R, I, J))
  | 0, b, fuel, hb', hf, h => by
    obtain ⟨y, rfl⟩ : ∃ y, fuel = y + 1 := ⟨fuel - 1, by omega⟩
    have : b = 32 := by omega
    subst this
    rw [fX9_isHead_5, if_pos (by decide), retZ_1, if_pos (hb32.mp h)]
  | q + 1, b, fuel, hb', hf, h => by
    obtain ⟨y, rfl⟩ : ∃ y, fuel = y + 1 := ⟨fuel - 1, by omega⟩
    rw [fX9_isHead_5, if_neg (show ¬ (32 : Int32) ≤ nI b from nI_lt_of (k := 32) (by decide) (by omega)), if_neg (show ¬ (1 : Int32) = 0 by decide), rI_mk hr hs (by omega) (by decide), ha b (by omega), md_f51 hA, show (32 : Int32) = nI 32 from rfl, nI_mul, nI_add, md_r41 hA (by omega)]
    show (if hb a b = I 800 (32 * k + b) then _ else _) = _
    rw [ht b (by omega)]
    unfold fX9_isHead_39 fX9_isHead_40
    rw [nI_1]
    by_cases w : hb a b = hb t b
    · rw [if_pos w]
      exact isHe_loop hA I J r hr hs k hk a t ha ht q (b + 1) y (by omega) (by omega) (fun j hj => by
        by_cases z : j = b
        · rw [z]; exact w
        · exact h j (by omega))
    · rw [if_neg w, if_neg (fun z => w (hb_ext z (by omega)))]
      exact isHe_no hA I J r (nI k) q (b + 1) y (by omega) (by omega)
/-- what a call of leads leaves as it was -/
def LFr (I I' : Nat → Nat → Int32) : Prop := (∀ c, c ≠ 759 → (c < 791 ∨ 796 < c) → (c < 802 ∨ 806 < c) → I' c = I c) ∧ ∀ j, j ≠ 42 → (j < 60 ∨ 63 < j) → I' 759 j = I 759 j
theorem LFr.trans {I I' I'' : Nat → Nat → Int32} (h : LFr I I') (h' : LFr I' I'') : LFr I I'' := ⟨fun c a b d => (h'.1 c a b d).trans (h.1 c a b d), fun j a b => (h'.2 j a b).trans (h.2 j a b)⟩
set_option maxHeartbeats 8000000 in
theorem leads_loop (hT : TopAt N S R) (J : Nat → Nat → Int64) (pf : Bool) (fl : Nat → Bool) (hs : Nat → Nat → Int32) (n9 : Nat) (h9 : n9 ≤ 9) (x : Int32) (kx ky : Nat) (hkx : pf = true → x = nI kx ∧ kx < 8) (hky : ky < 8) (t t' : Nat → Int32) : ∀ (q s fuel : Nat) (o w : Nat → Int32) (I : Nat → Nat → Int32), q ≤ 8 → s + q = n9 → q < fuel → MS I → I 759 52 = nI (if pf = true then 2 else 1) → (∀ i, i < q → I 802 i = bI (fl i)) → (∀ i, i < n9 → ∀ j, j < 32 → I 801 (32 * i + j) = hb (hs i) j) → (∀ j, j < 32 → I 800 (32 * ky + j) = hb t j) → (pf = true → ∀ j, j < 32 → I 800 (32 * kx + j) = hb t' j) → (pf = true → ∀ j, j < 32 → I 805 j = hb o j) → (∀ j, j < 32 → I 806 j = hb w j) →
    ∃ I' : Nat → Nat → Int32, fX9_leads_204 fuel 759 x (nI ky) (nI s) (nI q - 1) (N, SL, S, R, I, J) = some (if same8 (upP fl hs q s o w).2 t then (if pf = true then (if same8 (upP fl hs q s o w).1 t' then 1 else 0) else 1) else 0, (N, SL, S, R, I', J)) ∧ MS I' ∧ LFr I I'
  | 0, s, fuel, o, w, I, hq, hsq, hf, hS, h52, hF, hH, ht, ht', ho', hw => by
    obtain ⟨y, rfl⟩ : ∃ y, fuel = y + 1 := ⟨fuel - 1, by omega⟩
    have hA := hT.md
    have hN := hT.1.2.1
    have i1 := isHe_loop (SL := SL) hA I J 806 (by omega) (md_newer hA).2.1 ky hky w t hw ht 32 0 FU rfl (by decide) (fun j hj => absurd hj (by omega))
    refine ⟨I, ?_, hS, fun _ _ _ _ => rfl, fun _ _ _ => rfl⟩
    rw [fX9_leads_204, if_pos nI_00, md_f65 hA, md_o hA]
    show bd (fX9_isHead_5 FU 759 806 (nI ky) 1 (nI 0) _) _ = some (if same8 w t then (if pf = true then (if same8 o t' then 1 else 0) else 1) else 0, _)
    rw [i1, bd_some]
    unfold fX9_leads_298 fX9_leads_294 fX9_leads_299
    by_cases z : same8 w t
    · rw [if_pos z, if_neg (show ¬ (1 : Int32) = 0 by decide), if_pos z, md_g hA, h52]
      cases pf with
      | false => rw [if_neg Bool.false_ne_true, if_pos (show nI 1 = (1 : Int32) from rfl), if_neg Bool.false_ne_true]
      | true =>
        obtain ⟨rfl, k8⟩ := hkx rfl
        have i2 := isHe_loop (SL := SL) hA I J 805 (by omega) (md_older hA).2.1 kx k8 o t' (ho' rfl) (ht' rfl) 32 0 FU rfl (by decide) (fun j hj => absurd hj (by omega))
        rw [if_pos rfl, if_neg (show ¬ nI 2 = (1 : Int32) by decide), if_pos rfl, md_f64 hA, md_o hA]
        show bd (fX9_isHead_5 FU 759 805 (nI kx) 1 (nI 0) _) _ = _
        rw [i2, bd_some]
        by_cases z2 : same8 o t'
        · rw [if_pos z2, if_neg (show ¬ (1 : Int32) = 0 by decide)]
        · rw [if_neg z2, if_pos rfl]
    · rw [if_neg z, if_pos rfl, if_neg z]
  | q + 1, s, fuel, o, w, I, hq, hsq, hf, hS, h52, hF, hH, ht, ht', ho', hw => by
    obtain ⟨y, rfl⟩ : ∃ y, fuel = y + 1 := ⟨fuel - 1, by omega⟩
    have hA := hT.md
    have hN := hT.1.2.1
    have hFq := hF q (by omega)
    -- the newer one, behind what was done to the older
    have newer : ∀ (o1 : Nat → Int32) (I1 : Nat → Nat → Int32), MS I1 → LFr I I1 → (∀ c, c = 806 ∨ c = 801 ∨ c = 802 → I1 c = I c) → (pf = true → ∀ j, j < 32 → I1 805 j = hb o1 j) → (∀ X, (upP fl hs (q + 1) s o w) = X → upP fl hs q (s + 1) o1 (if fl q = true then ndH (hs s) w else ndH w (hs s)) = X ∨ (pf = false ∧ (upP fl hs q (s + 1) o1 (if fl q = true then ndH (hs s) w else ndH w (hs s))).2 = X.2)) →
        ∃ I' : Nat → Nat → Int32, fX9_leads_237 (fX9_leads_204 y) 759 x (nI ky) (nI s) (nI q) (N, SL, S, R, I1, J) = some (if same8 (upP fl hs (q + 1) s o w).2 t then (if pf = true then (if same8 (upP fl hs (q + 1) s o w).1 t' then 1 else 0) else 1) else 0, (N, SL, S, R, I', J)) ∧ MS I' ∧ LFr I I' := by
      intro o1 I1 ms1 f1 f2 ho1 hX
      obtain ⟨I2, b1, b2, b3, b4, b5⟩ := beside_D (SL := SL) hT I1 J ms1 806 (Or.inr rfl) s (by omega) (fl q) w (hs s) (fun j hj => by rw [f2 806 (by omega)]; exact hw j hj) (fun j hj => by rw [f2 801 (by omega)]; exact hH s (by omega) j hj)
      have f3 : LFr I I2 := f1.trans ⟨fun c q1 q2 q3 => b3 c q1 q2 (by omega), fun j q1 _ => b4 j q1⟩
      obtain ⟨I3, g1, g2, g3⟩ := leads_loop hT J pf fl hs n9 h9 x kx ky hkx hky t t' q (s + 1) y o1 (if fl q = true then ndH (hs s) w else ndH w (hs s)) I2 (by omega) (by omega) (by omega) b2 (by rw [f3.2 52 (by decide) (by omega)]; exact h52) (fun i hi => by rw [b3 802 (by omega) (by omega) (by omega), f2 802 (by omega)]; exact hF i (by omega)) (fun i hi j hj => by rw [f3.1 801 (by omega) (by omega) (by omega)]; exact hH i hi j hj) (fun j hj => by rw [f3.1 800 (by omega) (by omega) (by omega)]; exact ht j hj) (fun hp j hj => by rw [f3.1 800 (by omega) (by omega) (by omega)]; exact ht' hp j hj) (fun hp j hj => by rw [b3 805 (by omega) (by omega) (by omega)]; exact ho1 hp j hj) b5
      refine ⟨I3, ?_, g2, f3.trans g3⟩
      unfold fX9_leads_237
      rw [md_f65 hA, md_f57 hA, md_r43 hA (by omega)]
      show cV _ 9 759 (fX9_beside 759 806 (nI s) (I1 802 q) _) _ = _
      rw [f2 802 (by omega), hFq, md_o hA, b1, bd_some, nI_1, nI_m1, g1]
      rcases hX _ rfl with e | ⟨e1, e2⟩
      · rw [e]
      · rw [e2, e1, if_neg Bool.false_ne_true, if_neg Bool.false_ne_true]
    rw [fX9_leads_204, nI_p1, if_neg (nI_ge0 (by omega)), md_g hA, h52]
    cases hp : pf with
    | false =>
      subst hp
      rw [if_neg Bool.false_ne_true, if_neg (show ¬ nI 1 = (2 : Int32) by decide)]
      refine newer o I hS ⟨fun _ _ _ _ => rfl, fun _ _ _ => rfl⟩ (fun _ _ => rfl) ho' (fun X hX => Or.inr ⟨rfl, ?_⟩)
      rw [← hX, upP]
      have ind : ∀ (q s : Nat) (o1 o2 w : Nat → Int32), (upP fl hs q s o1 w).2 = (upP fl hs q s o2 w).2 := by
        intro q
        induction q with
        | zero => intro s o1 o2 w; rfl
        | succ q ih =>
          intro s o1 o2 w
          rw [upP, upP]
          by_cases z : fl q = true
          · rw [if_pos z, if_pos z]; exact ih _ _ _ _
          · rw [if_neg z, if_neg z]; exact ih _ _ _ _
      by_cases z : fl q = true
      · rw [if_pos z, if_pos z]; exact ind _ _ _ _ _
      · rw [if_neg z, if_neg z]
    | true =>
      subst hp
      rw [if_pos rfl, if_pos (show nI 2 = (2 : Int32) from rfl), md_f57 hA, md_r43 hA (by omega)]
      show ∃ I', (if I 802 q = 0 then _ else _) = _ ∧ _
      rw [hFq]
      cases e : fl q with
      | false =>
        rw [if_pos (show bI false = 0 from rfl)]
        refine newer o I hS ⟨fun _ _ _ _ => rfl, fun _ _ _ => rfl⟩ (fun _ _ => rfl) ho' (fun X hX => Or.inl ?_)
        rw [← hX, upP, e, if_neg Bool.false_ne_true, if_neg Bool.false_ne_true]
      | true =>
        rw [if_neg (show ¬ bI true = 0 by decide), md_f64 hA, md_o hA]
        obtain ⟨I1, b1, b2, b3, b4, b5⟩ := beside_D (SL := SL) hT I J hS 805 (Or.inl rfl) s (by omega) true o (hs s) (ho' rfl) (fun j hj => hH s (by omega) j hj)
        have b1' : fX9_beside 759 805 (nI s) (1 : Int32) (N, SL, S, R, I, J) = some ((), (N, SL, S, R, I1, J)) := b1
        rw [b1', bd_some]
        refine newer (ndH (hs s) o) I1 b2 ⟨fun c q1 q2 q3 => b3 c q1 q2 (by omega), fun j q1 _ => b4 j q1⟩ (fun c hc => b3 c (by omega) (by omega) (by omega)) (fun _ j hj => by rw [b5 j hj, if_pos rfl]) (fun X hX => Or.inl ?_)
        rw [← hX, upP, e, if_pos rfl, if_pos rfl]
end LeadsN
