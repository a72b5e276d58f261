-- P6: the audit: the TRIAL and what was told (reference)
def trB (A : Lg) : List Nat := 7 :: A.na :: tbL (pS A.ba A.na)
/-- what was told of EVERY, as the reference has it -/
def TO (m : Nat) (I : Nat → Nat → Int32) (n : Nat) (a v : Nat → Nat) : Prop := I m 25 = nI n ∧ n ≤ 201 ∧ ∀ k, k < n → I (m + 23) k = nI (a k) ∧ I (m + 24) k = nI (v k) ∧ a k ≤ 200
theorem AF.to {m : Nat} {I I' : Nat → Nat → Int32} {J J' : Nat → Nat → Int64} {n : Nat} {a v : Nat → Nat} (h : AF m I I' J J') (hd : TO m I n a v) : TO m I' n a v := ⟨by
  rw [h.1 m 25 (fun q => by unfold Aw Own Hf at q; omega)]
  exact hd.1, hd.2.1, fun k hk => by
  rw [h.1 (m + 23) k (fun q => by unfold Aw Own Hf at q; omega), h.1 (m + 24) k (fun q => by unfold Aw Own Hf at q; omega)]
  exact hd.2.2 k hk⟩
/-- all that was told before the entry i is done -/
def TI (n : Nat) (a : Nat → Nat) (t i : Nat) : Prop := t ≤ n ∧ (∀ k, k < t → a k < i) ∧ ∀ k, t ≤ k → k < n → i ≤ a k
section AudH
variable {N SL : Nat} {S : Nat → Shp} {R : Nat → Nat → Option Nat} {m : Nat}
theorem it27_no (hA : MdAt N S R m) (I : Nat → Nat → Int32) (J : Nat → Nat → Int64) (k : Int32) (y : Nat) : fX9_isTrial_27 (y + 1) m 0 k (N, SL, S, R, I, J) = some (0, (N, SL, S, R, u2 I m 66 (I m 66 + I m 35), J)) := by
  have e : fX9_isTrial_71 m 0 (N, SL, S, R, I, J) = some (0, (N, SL, S, R, u2 I m 66 (I m 66 + I m 35), J)) := by
    unfold fX9_isTrial_71
    rw [md_g hA, md_g hA, md_p hA, retZ_0]
  rw [fX9_isTrial_27, md_g hA, e, if_pos (show (0 : Int32) = 0 from rfl)]
  split <;> rfl
theorem it27 (hA : MdAt N S R m) (I : Nat → Nat → Int32) (J : Nat → Nat → Int64) (z : Nat → Nat) (hz : ∀ k, z k < 256) (T p : Nat) (hT : T ≤ 16400) (hp : p + 18 ≤ T) (h66 : I m 66 = nI p) (hD : DM m I z T) (l : List Nat) (hl : l.length = 18) (hby : ∀ k, l.getD k 0 < 256) (hr : RowOk I m l) : ∀ (q k fuel : Nat), k + q = 18 → q + 1 < fuel → (∀ j, j < k → z (p + j) = l.getD j 0) →
    fX9_isTrial_27 fuel m 1 (nI k) (N, SL, S, R, I, J) = some (if ∀ j, j < l.length → z (p + j) = l.getD j 0 then 1 else 0, (N, SL, S, R, u2 I m 66 (I m 66 + I m 35), J))
  | 0, k, fuel, hk, hf, h => by
    obtain ⟨y, rfl⟩ : ∃ y, fuel = y + 1 := ⟨fuel - 1, by omega⟩
    have h35 : I m 35 = nI 18 := by rw [← hl]; exact hr.1
    rw [fX9_isTrial_27, md_g hA, h35, if_pos ((nI_leI (by omega) (by omega)).mpr (by omega))]
    unfold fX9_isTrial_71
    rw [md_g hA, md_g hA, md_p hA, retZ_1, if_pos (fun j hj => h j (by omega)), h35]
  | q + 1, k, fuel, hk, hf, h => by
    obtain ⟨y, rfl⟩ : ∃ y, fuel = y + 1 := ⟨fuel - 1, by omega⟩
    have h35 : I m 35 = nI 18 := by rw [← hl]; exact hr.1
    rw [fX9_isTrial_27, md_g hA, h35, if_neg (nI_lt_of (by omega) (by omega)), if_neg (by decide), md_f18 hA, md_g hA, h66, nI_add, md_r19 hA (by omega), hD.2 _ (by omega), md_f34 hA, md_r27 hA (by omega), hr.2 k (by omega)]
    unfold fX9_isTrial_64
    rw [nI_1]
    by_cases w : z (p + k) = l.getD k 0
    · rw [if_pos (by rw [w])]
      have := it27 hA I J z hz T p hT hp h66 hD l hl hby hr q (k + 1) y (by omega) (by omega) (fun j hj => by
        by_cases u : j = k
        · rw [u]; exact w
        · exact h j (by omega))
      rw [h66, h35] at this
      exact this
    · rw [if_neg (fun x => w ((nI_eq (by have := hz (p + k); omega) (by have := hby k; omega)).mp x)), if_neg (fun x : (∀ j, j < l.length → z (p + j) = l.getD j 0) => w (x k (by omega)))]
      obtain ⟨y', rfl⟩ : ∃ y', y = y' + 1 := ⟨y - 1, by omega⟩
      rw [it27_no hA, h66, h35, nI_add]
theorem trB_len (A : Lg) : (trB A).length = 18 := rfl
theorem trB_by {A : Lg} (h : A.na ≤ 40) : ∀ k, (trB A).getD k 0 < 256 := by
  have hb : ByL (trB A) := by
    intro x hx
    unfold trB tbL at hx
    simp only [List.mem_cons, List.not_mem_nil, or_false] at hx
    have tl : ∀ P k, tb P k < 256 := fun P k => tb_lt P k
    rcases hx with rfl | rfl | hx
    · decide
    · omega
    · rcases hx with rfl | rfl | rfl | rfl | rfl | rfl | rfl | rfl | rfl | rfl | rfl | rfl | rfl | rfl | rfl | rfl <;> exact tl _ _
  exact hb.get
theorem isTrial_M (hA : MdAt N S R m) (I : Nat → Nat → Int32) (J : Nat → Nat → Int64) (z : Nat → Nat) (hz : ∀ k, z k < 256) (T p : Nat) (hT : T ≤ 16400) (hp : p < T) (h18 : z p = 7 → p + 18 ≤ T) (h66 : I m 66 = nI p) (hD : DM m I z T) (A : Lg) (hM : MRep m 1 I J A) (hna : A.na ≤ 40) :
    ∃ (I' : Nat → Nat → Int32) (J' : Nat → Nat → Int64), fX9_isTrial m (N, SL, S, R, I, J) = some (if ∀ j, j < (trB A).length → z (p + j) = (trB A).getD j 0 then 1 else 0, (N, SL, S, R, I', J')) ∧ AF m I I' J J' ∧ MRep m 1 I' J' A ∧ CallOk I' J' m 7 0 0 noL (-1) (-1) 0 := by
  obtain ⟨I1, J1, a1, a2, a3, a4⟩ := trial_M (SL := SL) hA (z := 1) (by decide) I J A hM hna
  have a4 : RowOk I1 m (trB A) := a4
  have n1 : NP m I1 (u2 I1 m 66 (I1 m 66 + I1 m 35)) := NP.set
  have a1' : fX9_trial m (1 : Int32) (N, SL, S, R, I, J) = some ((), (N, SL, S, R, I1, J1)) := a1
  have d1 := a2.af.dm hD
  have e66 : I1 m 66 = nI p := by rw [NP.kf66 a2]; exact h66
  refine ⟨_, J1, ?_, a2.af.trans (n1.af (J := J1)), n1.rep (a2.rep hM), n1.call (a3 noL)⟩
  unfold fX9_isTrial fX9_isTrial_24
  rw [md_o hA, a1', bd_some, md_f18 hA, md_g hA, e66, md_r19 hA (by omega), d1.2 p hp]
  by_cases w : z p = 7
  · rw [if_pos (show nI (z p) = (7 : Int32) by rw [w]; rfl)]
    have := it27 (SL := SL) hA I1 J1 z hz T p hT (h18 w) e66 d1 (trB A) rfl (trB_by hna) a4 18 0 FU (by omega) (by unfold FU; omega) (fun j hj => absurd hj (Nat.not_lt_zero _))
    rw [e66] at this
    exact this
  · rw [if_neg (show ¬ nI (z p) = (7 : Int32) from fun q => w ((nI_eq (b := 7) (by have := hz p; omega) (by decide)).mp q)), show FU = (FU - 1) + 1 from rfl, it27_no hA, e66, if_neg (fun x : (∀ j, j < (trB A).length → z (p + j) = (trB A).getD j 0) => w (x 0 (by rw [trB_len]; decide)))]
/-- one of the tells, or none: that of the entry i -/
theorem tell1 (hA : MdAt N S R m) {n : Nat} {a v : Nat → Nat} {et : Nat → Option Nat} (hmo : ∀ k, k + 1 < n → a k < a (k + 1)) (h1 : ∀ k, k < n → et (a k) = some (v k)) (h2 : ∀ i, et i ≠ none → ∃ k, k < n ∧ a k = i) (t i : Nat) (hti : TI n a t i) (I : Nat → Nat → Int32) (J : Nat → Nat → Int64) (hto : TO m I n a v) (A : Lg) (hM : MRep m 1 I J A) (hnd : ¬ Due A) (h5 : I (m + 5) 1 = 0) (hi : i ≤ A.ne) (hne : A.ne ≤ 200) (y : Nat) :
    ∃ (t' y' : Nat) (I' : Nat → Nat → Int32), fX9_tells_2 (y + 2) m (nI t) (N, SL, S, R, I, J) = fX9_tells_2 (y' + 1) m (nI t') (N, SL, S, R, I', J) ∧ y ≤ y' ∧ TI n a t' (i + 1) ∧ AF m I I' J J ∧ MRep m 1 I' J (tellL et A i) ∧ I' (m + 5) 1 = 0 ∧ I' m 66 = I m 66 := by
  obtain ⟨c1, c2, c3⟩ := hti
  have mono : ∀ d k, k + d < n → a k + d ≤ a (k + d) := by
    intro d
    induction d with
    | zero => intro k _; exact Nat.le_refl _
    | succ d ih =>
      intro k hk
      have x1 := ih k (by omega)
      have x2 := hmo (k + d) (by omega)
      show a k + (d + 1) ≤ a (k + d + 1)
      omega
  have n201 := hto.2.1
  by_cases w : t < n ∧ a t = i
  · obtain ⟨w1, w2⟩ := w
    obtain ⟨q1, q2, q3⟩ := hto.2.2 t w1
    have he : et i = some (v t) := by rw [← w2]; exact h1 t w1
    obtain ⟨I', hI'⟩ : ∃ I', I' = u2 (u2 I (m + 3) 1 (nI (v t))) (m + 4) 1 (nI 0) := ⟨_, rfl⟩
    refine ⟨t + 1, y, I', ?_, Nat.le_refl _, ⟨by omega, fun k hk => ?_, fun k hk hk' => ?_⟩, ⟨fun c j hc => ?_, fun _ _ _ => rfl⟩, ?_, ?_, ?_⟩
    · rw [fX9_tells_2, md_g hA, hto.1, if_neg (nI_lt_of (by omega) w1), md_f23 hA, md_r23 hA (by omega), q1, md_f1 hA, show (1 : Int32) = nI 1 from rfl, md_r2 hA (by decide), hM.1.2.1, if_neg (nI_nlt (by omega) (by omega)), md_f4 hA, md_r5 hA (by decide), h5, if_pos rfl, md_f2 hA, md_f24 hA, md_r24 hA (by omega), q2, md_w3 hA (by decide), md_f3 hA, show (0 : Int32) = nI 0 from rfl, md_w4 hA (by decide), nI_add, ← hI']
    · by_cases u : k = t
      · rw [u]; omega
      · have := c2 k (by omega); omega
    · have := mono (k - t) t (by omega)
      rw [show t + (k - t) = k by omega] at this
      omega
    · rw [hI', u2_o (fun q => hc (Or.inl (Or.inl (Or.inl ⟨by omega, by omega, q.2⟩)))), u2_o (fun q => hc (Or.inl (Or.inl (Or.inl ⟨by omega, by omega, q.2⟩))))]
    · unfold tellL
      rw [he]
      have f : ∀ c, c ≠ m + 3 → c ≠ m + 4 → I' c = I c := fun c x1 x2 => by rw [hI', u2_ne x2, u2_ne x1]
      unfold MRep MEnt
      rw [f (m + 1) (by omega) (by omega), f (m + 2) (by omega) (by omega), f (m + 10) (by omega) (by omega), f (m + 12) (by omega) (by omega), f (m + 13) (by omega) (by omega), f (m + 15) (by omega) (by omega), f (m + 17) (by omega) (by omega), f (m + 18) (by omega) (by omega)]
      exact ⟨⟨hM.1.1, hM.1.2.1, by rw [hI', u2_o (by omega), u2_i]; rfl, by rw [hI', u2_i]; rfl⟩, hM.2.1, hM.2.2⟩
    · rw [hI', u2_ne (by omega), u2_ne (by omega)]; exact h5
    · rw [hI', u2_ne (by omega), u2_ne (by omega)]
  · have he : et i = none := by
      cases hx : et i with
      | none => rfl
      | some x =>
        obtain ⟨k, k1, k2⟩ := h2 i (by rw [hx]; exact fun q => (by cases q))
        by_cases u : k < t
        · have := c2 k u; omega
        · have y1 := c3 t (Nat.le_refl _) (by omega)
          have y2 := mono (k - t) t (by omega)
          rw [show t + (k - t) = k by omega] at y2
          exact absurd ⟨by omega, by omega⟩ w
    refine ⟨t, y + 1, I, rfl, by omega, ⟨c1, fun k hk => by have := c2 k hk; omega, fun k hk hk' => ?_⟩, AF.refl, ?_, h5, rfl⟩
    · have y1 := c3 k hk hk'
      by_cases u : a k = i
      · exfalso
        obtain hu := h1 k hk'
        rw [u, he] at hu
        cases hu
      · omega
    · unfold tellL
      rw [he]
      exact hM
theorem tell0 (hA : MdAt N S R m) {n : Nat} {a v : Nat → Nat} (t : Nat) (I : Nat → Nat → Int32) (J : Nat → Nat → Int64) (hto : TO m I n a v) (A : Lg) (hM : MRep m 1 I J A) (hne : A.ne ≤ 200) (ht : t ≤ n) (h : (∀ k, t ≤ k → k < n → A.ne < a k) ∨ I (m + 5) 1 = 1) (y : Nat) :
    fX9_tells_2 (y + 1) m (nI t) (N, SL, S, R, I, J) = some (nI t, (N, SL, S, R, I, J)) := by
  have n201 := hto.2.1
  unfold fX9_tells_2 fX9_tells_59
  rw [md_g hA, hto.1]
  by_cases w : t < n
  · obtain ⟨q1, q2, q3⟩ := hto.2.2 t w
    rw [if_neg (nI_lt_of (by omega) w), md_f23 hA, md_r23 hA (by omega), q1, md_f1 hA, show rI (N, SL, S, R, I, J) .int (m + 2) (1 : Int32) = rI (N, SL, S, R, I, J) .int (m + 2) (nI 1) from rfl, md_r2 hA (by decide), hM.1.2.1]
    by_cases u : A.ne < a t
    · rw [if_pos (nI_lt u (by omega))]
    · have h5 := h.elim (fun q => absurd (q t (Nat.le_refl _) w) u) id
      rw [if_neg (nI_nlt (by omega) (by omega)), md_f4 hA, show rI (N, SL, S, R, I, J) .boolean (m + 5) (1 : Int32) = rI (N, SL, S, R, I, J) .boolean (m + 5) (nI 1) from rfl, md_r5 hA (by decide), h5, if_neg (by decide)]
  · rw [if_pos ((nI_leI (by omega) (by omega)).mpr (by omega))]
end AudH
