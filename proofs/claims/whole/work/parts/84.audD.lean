-- P6: the audit: how the reference reads
def NP (m : Nat) (I I' : Nat → Nat → Int32) : Prop := (∀ c, c ≠ m → I' c = I c) ∧ ∀ j, j ≠ 66 → I' m j = I m j
theorem NP.refl {m : Nat} {I : Nat → Nat → Int32} : NP m I I := ⟨fun _ _ => rfl, fun _ _ => rfl⟩
theorem NP.trans {m : Nat} {I I' I'' : Nat → Nat → Int32} (h : NP m I I') (h' : NP m I' I'') : NP m I I'' := ⟨fun c hc => by rw [h'.1 c hc, h.1 c hc], fun j hj => by rw [h'.2 j hj, h.2 j hj]⟩
theorem NP.set {m : Nat} {I : Nat → Nat → Int32} {x : Int32} : NP m I (u2 I m 66 x) := ⟨fun c hc => u2_ne hc, fun j hj => by rw [u2_at, up_ne hj]⟩
def Aw (m c j : Nat) : Prop := Own m 1 c j ∨ (m + 25 ≤ c ∧ c ≤ m + 28) ∨ (c = m ∧ ((26 ≤ j ∧ j ≤ 35) ∨ j = 66))
/-- what the audit may change -/
def AF (m : Nat) (I I' : Nat → Nat → Int32) (J J' : Nat → Nat → Int64) : Prop := (∀ c j, ¬ Aw m c j → I' c j = I c j) ∧ ∀ c j, ¬ Aw m c j → J' c j = J c j
theorem AF.refl {m : Nat} {I : Nat → Nat → Int32} {J : Nat → Nat → Int64} : AF m I I J J := ⟨fun _ _ _ => rfl, fun _ _ _ => rfl⟩
theorem AF.trans {m : Nat} {I I' I'' : Nat → Nat → Int32} {J J' J'' : Nat → Nat → Int64} (h : AF m I I' J J') (h' : AF m I' I'' J' J'') : AF m I I'' J J'' := ⟨fun c j hc => by rw [h'.1 c j hc, h.1 c j hc], fun c j hc => by rw [h'.2 c j hc, h.2 c j hc]⟩
theorem NP.af {m : Nat} {I I' : Nat → Nat → Int32} {J : Nat → Nat → Int64} (h : NP m I I') : AF m I I' J J := ⟨fun c j hc => by
  by_cases e : c = m
  · rw [e, h.2 j (fun q => hc (Or.inr (Or.inr ⟨e, Or.inr q⟩)))]
  · rw [h.1 c e], fun _ _ _ => rfl⟩
theorem FZ.af {m : Nat} {I I' : Nat → Nat → Int32} {J J' : Nat → Nat → Int64} (h : FZ m 1 I I' J J') : AF m I I' J J' := ⟨fun c j hc => h.1 c j (fun q => hc (Or.inl q)), fun c j hc => h.2 c j (fun q => hc (Or.inl q))⟩
theorem KF.af {m : Nat} {I I' : Nat → Nat → Int32} {J J' : Nat → Nat → Int64} (h : KF m I I' J J') : AF m I I' J J' := ⟨fun c j hc => by
  have a1 : ¬ (m + 25 ≤ c ∧ c ≤ m + 28) := fun q => hc (Or.inr (Or.inl q))
  have a2 : ¬ (c = m ∧ ((26 ≤ j ∧ j ≤ 35) ∨ j = 66)) := fun q => hc (Or.inr (Or.inr q))
  by_cases e : c = m
  · subst e
    rw [h.2.1 j (by omega)]
  · rw [h.1 c e (by omega)], fun c j hc => by
  have a1 : ¬ (m + 25 ≤ c ∧ c ≤ m + 28) := fun q => hc (Or.inr (Or.inl q))
  have a2 : ¬ (c = m ∧ ((26 ≤ j ∧ j ≤ 35) ∨ j = 66)) := fun q => hc (Or.inr (Or.inr q))
  by_cases e : c = m
  · subst e
    rw [h.2.2.2 j (by omega)]
  · rw [h.2.2.1 c e (by omega) (by omega)]⟩
theorem NP.rep {m z : Nat} {I I' : Nat → Nat → Int32} {J : Nat → Nat → Int64} {L : Lg} (h : NP m I I') (hr : MRep m z I J L) : MRep m z I' J L := by
  unfold MRep MEnt
  rw [h.1 (m + 1) (by omega), h.1 (m + 2) (by omega), h.1 (m + 3) (by omega), h.1 (m + 4) (by omega), h.1 (m + 10) (by omega), h.1 (m + 12) (by omega), h.1 (m + 13) (by omega), h.1 (m + 15) (by omega), h.1 (m + 17) (by omega), h.1 (m + 18) (by omega)]
  exact hr
theorem NP.call {m : Nat} {I I' : Nat → Nat → Int32} {J : Nat → Nat → Int64} {kd : Nat} {key : Int64} {n : Nat} {lg : Nat → Nat × Int64} {e a : Int32} {v : Int64} (h : NP m I I') (hc : CallOk I J m kd key n lg e a v) : CallOk I' J m kd key n lg e a v := by
  unfold CallOk
  rw [h.2 26 (by decide), h.2 27 (by decide), h.2 28 (by decide), h.2 29 (by decide), h.1 (m + 25) (by omega)]
  exact hc
/-- the data as the reference has it -/
def DM (m : Nat) (I : Nat → Nat → Int32) (z : Nat → Nat) (T : Nat) : Prop := I m 20 = nI T ∧ ∀ k, k < T → I (m + 19) k = nI (z k)
theorem AF.dm {m : Nat} {I I' : Nat → Nat → Int32} {J J' : Nat → Nat → Int64} {z : Nat → Nat} {T : Nat} (h : AF m I I' J J') (hd : DM m I z T) : DM m I' z T := ⟨by
  rw [h.1 m 20 (fun q => by unfold Aw Own Hf at q; omega)]
  exact hd.1, fun k hk => by
  rw [h.1 (m + 19) k (fun q => by unfold Aw Own Hf at q; omega)]
  exact hd.2 k hk⟩
theorem ansB_k {A : Lg} {key : Int64} {l : List Nat} (hne : A.ne ≤ 200) : ansB A key l ≠ -1 ↔ fky A key A.ne 0 ≠ none := by
  unfold ansB
  cases h : fky A key A.ne 0 with
  | none => exact ⟨fun q => absurd rfl q, fun q => absurd rfl q⟩
  | some i =>
    refine ⟨fun _ q => (by cases q), fun _ => ?_⟩
    have := fky_lt _ _ _ h
    show (if sameB A i l then nI i else -4) ≠ -1
    split
    · exact nI_n1 i (by omega)
    · decide
def szL (z : Nat → Nat) (T p : Nat) : Nat := if z p = 1 then 9 else if z p = 2 then (if T ≤ p + 9 then 17000 else 10 + 9 * z (p + 9)) else if z p = 3 then 18 else if z p = 4 then 3 else if z p = 5 then 20 else if z p = 6 then 11 else if z p = 7 then 18 else 17000
/-- the w bytes from a on -/
def lst (z : Nat → Nat) : Nat → Nat → List Nat
  | _, 0 => []
  | a, w + 1 => z a :: lst z (a + 1) w
theorem lst_len (z : Nat → Nat) : ∀ w a, (lst z a w).length = w
  | 0, _ => rfl
  | w + 1, a => by rw [lst, List.length_cons, lst_len z w]
theorem lst_get (z : Nat → Nat) : ∀ w a j, j < w → (lst z a w).getD j 0 = z (a + j)
  | 0, _, _, h => absurd h (Nat.not_lt_zero _)
  | w + 1, a, 0, _ => rfl
  | w + 1, a, j + 1, h => by
    rw [lst, List.getD_cons_succ, lst_get z w (a + 1) j (by omega), show a + 1 + j = a + (j + 1) by omega]
theorem lst_app (z : Nat → Nat) : ∀ n a k, lst z a n ++ lst z (a + n) k = lst z a (n + k)
  | 0, a, k => by rw [Nat.zero_add]; rfl
  | n + 1, a, k => by
    rw [lst, List.cons_append, show a + (n + 1) = a + 1 + n by omega, lst_app z n (a + 1) k, show n + 1 + k = n + k + 1 by omega, lst]
theorem nm_lt (z : Nat → Nat) (hz : ∀ k, z k < 256) (a : Nat) : ∀ w, nmN z a w < 256 ^ w
  | 0 => by show 0 < 1; decide
  | w + 1 => by
    have h1 := nm_lt z hz a w
    have h2 := hz (a + w)
    show nmN z a w * 256 + z (a + w) < 256 ^ (w + 1)
    rw [Nat.pow_succ]
    omega
theorem nm_dig (z : Nat → Nat) (hz : ∀ k, z k < 256) (a : Nat) : ∀ w j, j < w → nmN z a w / 256 ^ (w - 1 - j) % 256 = z (a + j)
  | 0, j, h => absurd h (Nat.not_lt_zero _)
  | w + 1, j, h => by
    have h2 := hz (a + w)
    show (nmN z a w * 256 + z (a + w)) / 256 ^ (w + 1 - 1 - j) % 256 = _
    by_cases e : j = w
    · subst e
      rw [show j + 1 - 1 - j = 0 by omega, Nat.pow_zero, Nat.div_one]
      omega
    · have ih := nm_dig z hz a w j (by omega)
      rw [show w + 1 - 1 - j = (w - 1 - j) + 1 by omega, Nat.pow_succ, Nat.mul_comm (256 ^ (w - 1 - j)) 256, ← Nat.div_div_eq_div_mul, show (nmN z a w * 256 + z (a + w)) / 256 = nmN z a w by omega]
      exact ih
theorem bN_rd (z : Nat → Nat) (hz : ∀ k, z k < 256) (a j : Nat) (h : j < 8) : bN (rd z a 8) (7 - j) = z (a + j) := by
  have e : (rd z a 8).toUInt64.toNat = nmN z a 8 := by
    have h1 := nm_lt z hz a 8
    show (BitVec.ofNat 64 (nmN z a 8)).toNat = _
    rw [BitVec.toNat_ofNat]
    exact Nat.mod_eq_of_lt (by have : (256 : Nat) ^ 8 = 2 ^ 64 := by decide
                               omega)
  unfold bN
  rw [e, show (2 : Nat) ^ (8 * (7 - j)) = 256 ^ (8 - 1 - j) by rw [Nat.pow_mul]]
  exact nm_dig z hz a 8 j h
theorem lB_rd (z : Nat → Nat) (hz : ∀ k, z k < 256) (a : Nat) : lB (rd z a 8) 8 = lst z a 8 := by
  have g := fun j h => bN_rd z hz a j h
  show [bN (rd z a 8) 7, bN (rd z a 8) 6, bN (rd z a 8) 5, bN (rd z a 8) 4, bN (rd z a 8) 3, bN (rd z a 8) 2, bN (rd z a 8) 1, bN (rd z a 8) 0] = [z (a + 0), z (a + 1), z (a + 2), z (a + 3), z (a + 4), z (a + 5), z (a + 6), z (a + 7)]
  rw [← g 0 (by decide), ← g 1 (by decide), ← g 2 (by decide), ← g 3 (by decide), ← g 4 (by decide), ← g 5 (by decide), ← g 6 (by decide), ← g 7 (by decide)]
theorem lgB_rd (z : Nat → Nat) (hz : ∀ k, z k < 256) (a : Nat) : ∀ q k, lgB (rLgs z a) q k = lst z (a + 1 + 9 * k) (9 * q)
  | 0, k => rfl
  | q + 1, k => by
    rw [lgB, lgB_rd z hz a q (k + 1), show 9 * (q + 1) = 9 + 9 * q by omega, ← lst_app, show a + 1 + 9 * (k + 1) = a + 1 + 9 * k + 9 by omega]
    congr 1
    show [z (a + 1 + 9 * k)] ++ lB (rd z (a + 1 + 9 * k + 1) 8) 8 = _
    rw [lB_rd z hz]
    rfl
section AudD
variable {N SL : Nat} {S : Nat → Shp} {R : Nat → Nat → Option Nat} {m : Nat}
theorem numM_loop (hA : MdAt N S R m) (J : Nat → Nat → Int64) (z : Nat → Nat) (hz : ∀ k, z k < 256) (T p w : Nat) (hT : T ≤ 16400) (hw : w ≤ 8) (hpw : p + w ≤ T) : ∀ (q k fuel : Nat) (I : Nat → Nat → Int32), k + q = w → q < fuel → I m 66 = nI (p + k) → DM m I z T →
    ∃ I' : Nat → Nat → Int32, fX9_number_5 fuel m (nI w) (rd z p k) (nI k) (N, SL, S, R, I, J) = some (rd z p w, (N, SL, S, R, I', J)) ∧ NP m I I' ∧ I' m 66 = nI (p + w)
  | 0, k, fuel, I, hk, hf, h66, hD => by
    obtain ⟨y, rfl⟩ : ∃ y, fuel = y + 1 := ⟨fuel - 1, by omega⟩
    have e : k = w := by omega
    exact ⟨I, by rw [fX9_number_5, if_pos ((nI_leI (by omega) (by omega)).mpr (by omega)), e], NP.refl, by rw [h66, e]⟩
  | q + 1, k, fuel, I, hk, hf, h66, hD => by
    obtain ⟨y, rfl⟩ : ∃ y, fuel = y + 1 := ⟨fuel - 1, by omega⟩
    have n1 : NP m I (u2 I m 66 (nI (p + (k + 1)))) := NP.set
    obtain ⟨I', a1, a2, a3⟩ := numM_loop hA J z hz T p w hT hw hpw q (k + 1) y (u2 I m 66 (nI (p + (k + 1)))) (by omega) (by omega) u2_i ((n1.af (J := J)).dm hD)
    refine ⟨I', ?_, n1.trans a2, a3⟩
    rw [fX9_number_5, if_neg (nI_lt_of (by omega) (by omega)), md_f18 hA, md_g hA, h66, md_r19 hA (by omega), hD.2 _ (by omega), md_g hA, h66, nI_1, md_p hA, shl8 _ _ (hz _), nI_1]
    exact a1
theorem num_M (hA : MdAt N S R m) (I : Nat → Nat → Int32) (J : Nat → Nat → Int64) (z : Nat → Nat) (hz : ∀ k, z k < 256) (T p w : Nat) (hT : T ≤ 16400) (hw : w ≤ 8) (hpw : p + w ≤ T) (h66 : I m 66 = nI p) (hD : DM m I z T) :
    ∃ I' : Nat → Nat → Int32, fX9_number m (nI w) (N, SL, S, R, I, J) = some (rd z p w, (N, SL, S, R, I', J)) ∧ NP m I I' ∧ I' m 66 = nI (p + w) :=
  numM_loop hA J z hz T p w hT hw hpw w 0 FU I (by omega) (by unfold FU; omega) h66 hD
theorem sizeOf_M (hA : MdAt N S R m) (I : Nat → Nat → Int32) (J : Nat → Nat → Int64) (z : Nat → Nat) (hz : ∀ k, z k < 256) (T p : Nat) (hT : T ≤ 16400) (hp : p < T) (hD : DM m I z T) : fX9_sizeOf m (nI p) (N, SL, S, R, I, J) = some (nI (szL z T p), (N, SL, S, R, I, J)) := by
  have kd : ∀ {c : Nat}, c < 256 → (nI (z p) = nI c ↔ z p = c) := fun hc => nI_eq (by have := hz p; omega) (by omega)
  unfold fX9_sizeOf fX9_sizeOf_83 szL
  rw [md_f18 hA, md_r19 hA (by omega), hD.2 _ hp, show (1 : Int32) = nI 1 from rfl, show (2 : Int32) = nI 2 from rfl, show (3 : Int32) = nI 3 from rfl, show (4 : Int32) = nI 4 from rfl, show (5 : Int32) = nI 5 from rfl, show (6 : Int32) = nI 6 from rfl, show (7 : Int32) = nI 7 from rfl]
  by_cases w1 : z p = 1
  · rw [if_pos ((kd (by decide)).mpr w1), if_pos w1]; rfl
  rw [if_neg (fun x => w1 ((kd (by decide)).mp x)), if_neg w1]
  by_cases w2 : z p = 2
  · rw [if_pos ((kd (by decide)).mpr w2), if_pos w2, md_g hA, hD.1, show (9 : Int32) = nI 9 from rfl, nI_add]
    by_cases v : T ≤ p + 9
    · rw [if_pos ((nI_leI (by omega) (by omega)).mpr v), if_pos v]; rfl
    · rw [if_neg (nI_lt_of (by omega) (by omega)), if_neg v, md_f18 hA, md_r19 hA (by omega), hD.2 _ (by omega), nI_mul, show (10 : Int32) = nI 10 from rfl, nI_add]
  rw [if_neg (fun x => w2 ((kd (by decide)).mp x)), if_neg w2]
  by_cases w3 : z p = 3
  · rw [if_pos ((kd (by decide)).mpr w3), if_pos w3]; rfl
  rw [if_neg (fun x => w3 ((kd (by decide)).mp x)), if_neg w3]
  by_cases w4 : z p = 4
  · rw [if_pos ((kd (by decide)).mpr w4), if_pos w4]
  rw [if_neg (fun x => w4 ((kd (by decide)).mp x)), if_neg w4]
  by_cases w5 : z p = 5
  · rw [if_pos ((kd (by decide)).mpr w5), if_pos w5]; rfl
  rw [if_neg (fun x => w5 ((kd (by decide)).mp x)), if_neg w5]
  by_cases w6 : z p = 6
  · rw [if_pos ((kd (by decide)).mpr w6), if_pos w6]; rfl
  rw [if_neg (fun x => w6 ((kd (by decide)).mp x)), if_neg w6]
  by_cases w7 : z p = 7
  · rw [if_pos ((kd (by decide)).mpr w7), if_pos w7]; rfl
  rw [if_neg (fun x => w7 ((kd (by decide)).mp x)), if_neg w7]
  rfl
/-- an entry with a key: its kind, its key, and whether the key can be -/
theorem kp_M (hA : MdAt N S R m) (I : Nat → Nat → Int32) (J : Nat → Nat → Int64) (z : Nat → Nat) (hz : ∀ k, z k < 256) (T p : Nat) (hT : T ≤ 16400) (hp : p + 9 ≤ T) (h66 : I m 66 = nI p) (hD : DM m I z T) (A : Lg) (hM : MRep m 1 I J A) (hne : A.ne ≤ 200) (hk : z p = 2 ∨ z p = 3 ∨ z p = 5 ∨ z p = 6) :
    ∃ I1 : Nat → Nat → Int32, fX9_reads m (N, SL, S, R, I, J) = (if rd z (p + 1) 8 = 0 ∨ fky A (rd z (p + 1) 8) A.ne 0 ≠ none then some (0, (N, SL, S, R, I1, J)) else fX9_reads_84 m (nI (z p)) (rd z (p + 1) 8) (N, SL, S, R, I1, J)) ∧ NP m I I1 ∧ I1 m 66 = nI (p + 9) := by
  have kd : ∀ {c : Nat}, c < 256 → (nI (z p) = nI c ↔ z p = c) := fun hc => nI_eq (by have := hz p; omega) (by omega)
  have n1 : NP m I (u2 I m 66 (nI (p + 1))) := NP.set
  obtain ⟨I1, a1, a2, a3⟩ := num_M (SL := SL) hA (u2 I m 66 (nI (p + 1))) J z hz T (p + 1) 8 hT (by decide) (by omega) u2_i ((n1.af (J := J)).dm hD)
  have n2 := n1.trans a2
  refine ⟨I1, ?_, n2, a3⟩
  have e41 : fX9_reads_41 m (nI (z p)) (N, SL, S, R, u2 I m 66 (nI (p + 1)), J) = (if rd z (p + 1) 8 = 0 ∨ fky A (rd z (p + 1) 8) A.ne 0 ≠ none then some (0, (N, SL, S, R, I1, J)) else fX9_reads_84 m (nI (z p)) (rd z (p + 1) 8) (N, SL, S, R, I1, J)) := by
    unfold fX9_reads_41 fX9_reads_46
    rw [if_neg (by decide), md_o hA, show (8 : Int32) = nI 8 from rfl, a1, bd_some]
    unfold fX9_reads_61 fX9_reads_82
    rw [if_neg (by decide)]
    by_cases w : rd z (p + 1) 8 = 0
    · rw [if_pos w, if_pos (Or.inl w), retZ_0]
    · rw [if_neg w, md_o hA, show fX9_byKey m (1 : Int32) = fX9_byKey m (nI 1) from rfl, byKey_M hA I1 J 1 (by decide) A (n2.rep hM) hne, bd_some, if_neg w]
      cases h : fky A (rd z (p + 1) 8) A.ne 0 with
      | none => rw [show keyI none = (-1 : Int32) from rfl, if_pos rfl, if_neg (fun q => q.elim w (fun q => q rfl))]
      | some i =>
        have := fky_lt _ _ _ h
        rw [show keyI (some i) = nI i from rfl, if_neg (nI_n1 i (by omega)), retZ_0, if_pos (Or.inr (fun q => (by cases q)))]
  unfold fX9_reads
  rw [md_f18 hA, md_g hA, h66, md_r19 hA (by omega), hD.2 _ (by omega), md_g hA, h66, nI_1, md_p hA, show (2 : Int32) = nI 2 from rfl, show (3 : Int32) = nI 3 from rfl, show (5 : Int32) = nI 5 from rfl, show (6 : Int32) = nI 6 from rfl, e41]
  by_cases w2 : nI (z p) = nI 2
  · rw [if_pos w2]
  rw [if_neg w2]
  by_cases w3 : nI (z p) = nI 3
  · rw [if_pos w3]
  rw [if_neg w3]
  by_cases w5 : nI (z p) = nI 5
  · rw [if_pos w5]
  rw [if_neg w5]
  by_cases w6 : nI (z p) = nI 6
  · rw [if_pos w6]
  · exact absurd hk (fun q => q.elim (fun q => w2 (by rw [q])) (fun q => q.elim (fun q => w3 (by rw [q])) (fun q => q.elim (fun q => w5 (by rw [q])) (fun q => w6 (by rw [q])))))
/-- an entry with no key -/
theorem np_M (hA : MdAt N S R m) (I : Nat → Nat → Int32) (J : Nat → Nat → Int64) (z : Nat → Nat) (T p : Nat) (hT : T ≤ 16400) (hp : p < T) (h66 : I m 66 = nI p) (hD : DM m I z T) (kd : Nat) (hk : z p = kd) (hk' : kd = 1 ∨ kd = 4) :
    fX9_reads m (N, SL, S, R, I, J) = fX9_reads_84 m (nI kd) 0 (N, SL, S, R, u2 I m 66 (nI (p + 1)), J) := by
  unfold fX9_reads
  rw [md_f18 hA, md_g hA, h66, md_r19 hA (by omega), hD.2 _ (by omega), md_g hA, h66, nI_1, md_p hA, hk]
  unfold fX9_reads_46 fX9_reads_61
  rcases hk' with rfl | rfl
  · rw [if_neg (by decide), if_neg (by decide), if_neg (by decide), if_neg (by decide), if_pos rfl, if_pos rfl]
  · rw [if_neg (by decide), if_neg (by decide), if_neg (by decide), if_neg (by decide), if_pos rfl, if_pos rfl]
end AudD
