def F0h : Nat → Int32 := fun i => FIRSTl.getD i 0
/-- byte j of a hash of eight words -/
def hb (h : Nat → Int32) (j : Nat) : Int32 := (xshr (h (j / 4)) ((24 : Int32) - ((8 : Int32) * nI (j % 4)))) &&& 255
theorem hb_ext {h h' : Nat → Int32} (e : ∀ i, i < 8 → h i = h' i) {j : Nat} (hj : j < 32) : hb h j = hb h' j := by
  unfold hb
  rw [e (j / 4) (by omega)]
theorem wordP_ext {P P' : Nat → Int32} {p : Nat} (h : ∀ i, p ≤ i → i < p + 4 → P i = P' i) : wordP P p = wordP P' p := by
  unfold wordP
  rw [h p (by omega) (by omega), h (p + 1) (by omega) (by omega), h (p + 2) (by omega) (by omega), h (p + 3) (by omega) (by omega)]
section ShaM3
variable {N SL : Nat} {S : Nat → Shp} {R : Nat → Nat → Option Nat} {m : Nat}
theorem hash_loop (hA : MdAt N S R m) : ∀ (q k : Nat) (I : Nat → Nat → Int32) (J : Nat → Nat → Int64) (fuel : Nat), k + q = 32 → q < fuel → (∀ j, j < k → I (m + 35) j = hb (I (m + 34)) j) →
    ∃ row : Nat → Int32, fX9_sum_174 fuel m (nI k) (N, SL, S, R, I, J) = some ((), (N, SL, S, R, u2 (u1 I (m + 35) row) m 42 0, J)) ∧ ∀ j, j < 32 → row j = hb (I (m + 34)) j := by
  obtain ⟨r44, s44, l44, n44⟩ := md_state hA
  obtain ⟨r45, s45, l45, n45⟩ := md_hash hA
  have ho := hA.1
  intro q
  induction q with
  | zero =>
    intro k I J fuel hk hf hI
    obtain ⟨z, rfl⟩ : ∃ z, fuel = z + 1 := ⟨fuel - 1, by omega⟩
    have hk : k = 32 := by omega
    subst hk
    refine ⟨I (m + 35), ?_, hI⟩
    rw [fX9_sum_174, if_pos (by decide), pI_mk ho, u1_self]
  | succ q ih =>
    intro k I J fuel hk hf hI
    obtain ⟨z, rfl⟩ : ∃ z, fuel = z + 1 := ⟨fuel - 1, by omega⟩
    have e1 : nI k / (4 : Int32) = nI (k / 4) := by rw [show (4 : Int32) = nI 4 from rfl]; exact pk_div (by omega) (by decide) (by decide)
    have e2 : nI k - nI (k / 4) * (4 : Int32) = nI (k % 4) := by rw [← e1, show (4 : Int32) = nI 4 from rfl]; exact pk_rem (by omega) (by decide) (by decide)
    rw [fX9_sum_174, if_neg (show ¬ (32 : Int32) ≤ nI k from nI_lt_of (k := 32) (by decide) (by omega))]
    rw [gR_mk ho r45, gR_mk ho r44, if_neg (by decide), e1, e2, rI_mk l44 s44 (by omega) (by decide), if_neg (by decide), wI_mk l45 n45 s45 (by omega) (by decide), vp_narI, nI_1]
    have e9 : ∀ x, u2 I (m + 35) k x (m + 34) = I (m + 34) := fun x => u2_ne (by omega)
    obtain ⟨row, g1, g2⟩ := ih (k + 1) (u2 I (m + 35) k (hb (I (m + 34)) k)) J z (by omega) (by omega) (fun j hj => by
      rw [e9, u2_row, u1_eq]
      show (if j = k then _ else I (m + 35) j) = _
      by_cases y : j = k
      · rw [if_pos y, y]
      · rw [if_neg y, hI j (by omega)])
    rw [e9] at g2
    refine ⟨row, ?_, g2⟩
    rw [show u1 I (m + 35) row = u1 (u2 I (m + 35) k (hb (I (m + 34)) k)) (m + 35) row by rw [u2_row, u1_u1]]
    exact g1
set_option maxHeartbeats 4000000 in
theorem sumF_spec (hA : MdAt N S R m) (nb : Nat) (hnb : nb = 1 ∨ nb = 2) (I : Nat → Nat → Int32) (J : Nat → Nat → Int64) (hI : I m 42 = nI (64 * nb)) :
    ∃ I' : Nat → Nat → Int32, sumF m (N, SL, S, R, I, J) = some ((), (N, SL, S, R, I', J)) ∧ (∀ c, c ≠ m → c ≠ m + 33 → c ≠ m + 34 → c ≠ m + 35 → I' c = I c) ∧ (∀ j, j ≠ 42 → I' m j = I m j) ∧ I' m 42 = 0 ∧
      ∀ j, j < 32 → I' (m + 35) j = hb (if nb = 1 then comp (I (m + 31)) (fun j => wordP (I (m + 32)) (4 * j)) F0h else comp (I (m + 31)) (fun j => wordP (I (m + 32)) (64 + 4 * j)) (comp (I (m + 31)) (fun j => wordP (I (m + 32)) (4 * j)) F0h)) j := by
  obtain ⟨r44, s44, l44, n44⟩ := md_state hA
  have ho := hA.1
  unfold sumF
  rw [fX9_sum_53, if_pos (by decide)]
  rw [gR_mk ho r44, show (0 : Int32) = nI 0 from rfl, wI_mk l44 n44 s44 (by decide) (by decide)]
  rw [gR_mk ho r44, show (1 : Int32) = nI 1 from rfl, wI_mk l44 n44 s44 (by decide) (by decide)]
  rw [gR_mk ho r44, show (2 : Int32) = nI 2 from rfl, wI_mk l44 n44 s44 (by decide) (by decide)]
  rw [gR_mk ho r44, show (3 : Int32) = nI 3 from rfl, wI_mk l44 n44 s44 (by decide) (by decide)]
  rw [gR_mk ho r44, show (4 : Int32) = nI 4 from rfl, wI_mk l44 n44 s44 (by decide) (by decide)]
  rw [gR_mk ho r44, show (5 : Int32) = nI 5 from rfl, wI_mk l44 n44 s44 (by decide) (by decide)]
  rw [gR_mk ho r44, show (6 : Int32) = nI 6 from rfl, wI_mk l44 n44 s44 (by decide) (by decide)]
  rw [gR_mk ho r44, show (7 : Int32) = nI 7 from rfl, wI_mk l44 n44 s44 (by decide) (by decide)]
  simp only [vp_narI]
  obtain ⟨I1, hI1⟩ : ∃ I1, I1 = u2 (u2 (u2 (u2 (u2 (u2 (u2 (u2 I (m + 34) 0 1779033703) (m + 34) 1 (-1150833019)) (m + 34) 2 1013904242) (m + 34) 3 (-1521486534)) (m + 34) 4 1359893119) (m + 34) 5 (-1694144372)) (m + 34) 6 528734635) (m + 34) 7 1541459225 := ⟨_, rfl⟩
  rw [← hI1]
  have a1 : ∀ c, c ≠ m + 34 → I1 c = I c := fun c hc => by rw [hI1, u2_ne hc, u2_ne hc, u2_ne hc, u2_ne hc, u2_ne hc, u2_ne hc, u2_ne hc, u2_ne hc]
  have a2 : ∀ i, i < 8 → I1 (m + 34) i = F0h i := fun i hi => by
    rw [hI1]
    match i, hi with
    | 0, _ => simp [u2, F0h, FIRSTl]
    | 1, _ => simp [u2, F0h, FIRSTl]
    | 2, _ => simp [u2, F0h, FIRSTl]
    | 3, _ => simp [u2, F0h, FIRSTl]
    | 4, _ => simp [u2, F0h, FIRSTl]
    | 5, _ => simp [u2, F0h, FIRSTl]
    | 6, _ => simp [u2, F0h, FIRSTl]
    | 7, _ => simp [u2, F0h, FIRSTl]
    | i + 8, h => omega
  have am : I1 m 42 = nI (64 * nb) := by rw [a1 m (by omega)]; exact hI
  obtain ⟨w1, x1, g1, g2⟩ := mblock_spec (SL := SL) hA 0 (by decide) I1 J
  rw [a1 (m + 31) (by omega), a1 (m + 32) (by omega)] at g2
  have c1 : ∀ i, i < 8 → x1 i = comp (I (m + 31)) (fun j => wordP (I (m + 32)) (4 * j)) F0h i := fun i hi => by
    rw [g2 i hi]
    exact comp_ext (fun _ _ => rfl) (fun j _ => by rw [Nat.zero_add]) a2 i hi
  have hlt : ¬ nI (64 * nb) ≤ nI 0 := nI_lt_of (k := 64 * nb) (by rcases hnb with rfl | rfl <;> decide) (by rcases hnb with rfl | rfl <;> decide)
  have hb1 : ∀ z, fX9_sum_153 (z + 1) m (nI 0) (N, SL, S, R, I1, J) = fX9_sum_153 z m (nI 64) (N, SL, S, R, u1 (u1 I1 (m + 33) w1) (m + 34) x1, J) := fun z => by
    rw [fX9_sum_153, gI_mk ho, am, if_neg hlt, cV_mk ho, g1, bd_some]
    rfl
  rcases hnb with rfl | rfl
  · obtain ⟨row, k1, k2⟩ := hash_loop (SL := SL) hA 32 0 (u1 (u1 I1 (m + 33) w1) (m + 34) x1) J FU rfl (by decide) (fun j hj => absurd hj (by omega))
    refine ⟨u2 (u1 (u1 (u1 I1 (m + 33) w1) (m + 34) x1) (m + 35) row) m 42 0, ?_, ?_, ?_, ?_, ?_⟩
    · rw [show FU = (999998 + 1) + 1 from rfl, hb1, fX9_sum_153, gI_mk ho, u1_ne (show m ≠ m + 34 by omega), u1_ne (show m ≠ m + 33 by omega), am, if_pos (by decide)]
      exact k1
    · intro c h1 h2 h3 h4
      rw [u2_ne h1, u1_ne h4, u1_ne h3, u1_ne h2, a1 c h3]
    · intro j hj
      have e : u2 (u1 (u1 (u1 I1 (m + 33) w1) (m + 34) x1) (m + 35) row) m 42 0 m j = I1 m j := by
        rw [u2_row, u1_eq]
        show (if j = 42 then _ else u1 (u1 (u1 I1 (m + 33) w1) (m + 34) x1) (m + 35) row m j) = _
        rw [if_neg hj, u1_ne (show m ≠ m + 35 by omega), u1_ne (show m ≠ m + 34 by omega), u1_ne (show m ≠ m + 33 by omega)]
      rw [e, a1 m (by omega)]
    · rw [u2_row, u1_eq]
      exact if_pos rfl
    · intro j hj
      rw [u2_ne (show m + 35 ≠ m by omega), u1_eq, k2 j hj, u1_eq, if_pos rfl]
      exact hb_ext c1 hj
  · obtain ⟨w2, x2, d1, d2⟩ := mblock_spec (SL := SL) hA 64 (by decide) (u1 (u1 I1 (m + 33) w1) (m + 34) x1) J
    rw [u1_ne (show m + 31 ≠ m + 34 by omega), u1_ne (show m + 31 ≠ m + 33 by omega), a1 (m + 31) (by omega), u1_ne (show m + 32 ≠ m + 34 by omega), u1_ne (show m + 32 ≠ m + 33 by omega), a1 (m + 32) (by omega), u1_eq] at d2
    have c2 : ∀ i, i < 8 → x2 i = comp (I (m + 31)) (fun j => wordP (I (m + 32)) (64 + 4 * j)) (comp (I (m + 31)) (fun j => wordP (I (m + 32)) (4 * j)) F0h) i := fun i hi => by
      rw [d2 i hi]
      exact comp_ext (fun _ _ => rfl) (fun _ _ => rfl) c1 i hi
    obtain ⟨row, k1, k2⟩ := hash_loop (SL := SL) hA 32 0 (u1 (u1 (u1 (u1 I1 (m + 33) w1) (m + 34) x1) (m + 33) w2) (m + 34) x2) J FU rfl (by decide) (fun j hj => absurd hj (by omega))
    refine ⟨u2 (u1 (u1 (u1 (u1 (u1 I1 (m + 33) w1) (m + 34) x1) (m + 33) w2) (m + 34) x2) (m + 35) row) m 42 0, ?_, ?_, ?_, ?_, ?_⟩
    · rw [show FU = ((999997 + 1) + 1) + 1 from rfl, hb1, fX9_sum_153, gI_mk ho, u1_ne (show m ≠ m + 34 by omega), u1_ne (show m ≠ m + 33 by omega), am, if_neg (by decide), cV_mk ho, d1, bd_some, show nI 64 + (64 : Int32) = nI 128 from rfl]
      rw [fX9_sum_153, gI_mk ho, u1_ne (show m ≠ m + 34 by omega), u1_ne (show m ≠ m + 33 by omega), u1_ne (show m ≠ m + 34 by omega), u1_ne (show m ≠ m + 33 by omega), am, if_pos (by decide)]
      exact k1
    · intro c h1 h2 h3 h4
      rw [u2_ne h1, u1_ne h4, u1_ne h3, u1_ne h2, u1_ne h3, u1_ne h2, a1 c h3]
    · intro j hj
      have e : u2 (u1 (u1 (u1 (u1 (u1 I1 (m + 33) w1) (m + 34) x1) (m + 33) w2) (m + 34) x2) (m + 35) row) m 42 0 m j = I1 m j := by
        rw [u2_row, u1_eq]
        show (if j = 42 then _ else u1 (u1 (u1 (u1 (u1 I1 (m + 33) w1) (m + 34) x1) (m + 33) w2) (m + 34) x2) (m + 35) row m j) = _
        rw [if_neg hj, u1_ne (show m ≠ m + 35 by omega), u1_ne (show m ≠ m + 34 by omega), u1_ne (show m ≠ m + 33 by omega), u1_ne (show m ≠ m + 34 by omega), u1_ne (show m ≠ m + 33 by omega)]
      rw [e, a1 m (by omega)]
    · rw [u2_row, u1_eq]
      exact if_pos rfl
    · intro j hj
      rw [u2_ne (show m + 35 ≠ m by omega), u1_eq, k2 j hj, u1_eq, if_neg (by decide)]
      exact hb_ext c2 hj
/-- sum(): the digest of the message's n bytes stands in hash, byte by byte; no message is left -/
theorem sum_spec (hA : MdAt N S R m) (n : Nat) (hn : n < 120) (I : Nat → Nat → Int32) (J : Nat → Nat → Int64) (hI : I m 42 = nI n) :
    ∃ I' : Nat → Nat → Int32, fX9_sum m (N, SL, S, R, I, J) = some ((), (N, SL, S, R, I', J)) ∧ (∀ c, c ≠ m → c ≠ m + 32 → c ≠ m + 33 → c ≠ m + 34 → c ≠ m + 35 → I' c = I c) ∧ (∀ j, j ≠ 42 → I' m j = I m j) ∧ I' m 42 = 0 ∧
      ∀ j, j < 32 → I' (m + 35) j = hb (dig (I (m + 31)) F0h (I (m + 32)) n) j := by
  obtain ⟨nb, hnb, h1, h2, h3⟩ : ∃ nb, (nb = 1 ∨ nb = 2) ∧ n + 9 ≤ 64 * nb ∧ 64 * nb < n + 73 ∧ (nb = 1 ↔ n ≤ 55) := by
    by_cases h : n ≤ 55
    · exact ⟨1, Or.inl rfl, by omega, by omega, by simp [h]⟩
    · exact ⟨2, Or.inr rfl, by omega, by omega, by simp [h]⟩
  have hp := pad_sm (SL := SL) hA I J (I (m + 32)) n hn (64 * nb - 8) (by rcases hnb with rfl | rfl <;> simp) (by omega)
  rw [sm_self hI, show 64 * nb - 8 + 8 = 64 * nb by omega] at hp
  obtain ⟨I', g1, g2, g3, g4, g5⟩ := sumF_spec (SL := SL) hA nb hnb (smI I m (fun j => if j < 64 * nb then padP (I (m + 32)) n (64 * nb) j else I (m + 32) j) (64 * nb)) J (by rw [sm_m, if_pos rfl])
  refine ⟨I', by rw [hp]; exact g1, fun c a b d e f => by rw [g2 c a d e f, sm_ne a b], fun j hj => by rw [g3 j hj, sm_m, if_neg hj], g4, fun j hj => ?_⟩
  rw [g5 j hj, sm_msg, sm_ne (by omega) (by omega)]
  refine hb_ext (fun i hi => ?_) hj
  unfold dig
  rcases hnb with rfl | rfl
  · rw [if_pos rfl, if_pos (h3.mp rfl)]
    exact comp_ext (fun _ _ => rfl) (fun q hq => wordP_ext (fun i a b => if_pos (by omega))) (fun _ _ => rfl) i hi
  · rw [if_neg (by decide), if_neg (fun h => absurd (h3.mpr h) (by decide))]
    exact comp_ext (fun _ _ => rfl) (fun q hq => wordP_ext (fun i a b => if_pos (by omega))) (fun i hi => comp_ext (fun _ _ => rfl) (fun q hq => wordP_ext (fun i a b => if_pos (by omega))) (fun _ _ => rfl) i hi) i hi
end ShaM3
