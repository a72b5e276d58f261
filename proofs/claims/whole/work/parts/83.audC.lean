-- P6: the audit: the class's call
def Mir (I : Nat → Nat → Int32) (J : Nat → Nat → Int64) : Prop := ∃ C0, CRep 738 I J C0 ∧ C0.st 0 = 0
theorem Mir.congr {I I' : Nat → Nat → Int32} {J J' : Nat → Nat → Int64} (h : Mir I J) (f : ∀ c, 738 ≤ c → c ≤ 749 → I' c = I c) (g : ∀ c, 738 ≤ c → c ≤ 749 → c ≠ 742 → J' c = J c) : Mir I' J' := by
  obtain ⟨C0, h1, h2⟩ := h
  exact ⟨C0, CRep.congr (fun c a b => f c (by omega) (by omega)) (fun c a b e => g c (by omega) (by omega) (by omega)) h1, h2⟩
theorem audL_lt {D : Nat → Nat} {T : Nat} {et : Nat → Option Nat} {x m : Nat} : ∀ {q : Nat} {C : Lg} {i : Nat}, audL D T et q C i = some x → i + q < m → x < m
  | 0, C, i, h, _ => by cases h
  | q + 1, C, i, h, hm => by
    rw [audL] at h
    split at h
    · split at h
      · cases h
        omega
      · exact audL_lt h (by omega)
    · cases h
section AudC
variable {N SL : Nat} {S : Nat → Shp} {R : Nat → Nat → Option Nat}
theorem audit25 (hT : TopAt N S R) (I : Nat → Nat → Int32) (J : Nat → Nat → Int64) (L : Lg) (hL : LInv L) (nw : Nat → Nat) (hn : ∀ k, nw k < 256) (hC : CRep 4 I J L) (h : PgOk 25 I L.ne L.st nw) : ∀ (q k fuel : Nat), k + q = L.st L.ne → q < fuel → (∀ j, j < k → nw j = L.yb j) → fX8_audit_25 fuel 3 (nI k) (N, SL, S, R, I, J) = some (etI (difI L nw L.ne 0), (N, SL, S, R, I, J))
  | 0, k, fuel, hk, hf, he => by
    obtain ⟨y, rfl⟩ : ∃ y, fuel = y + 1 := ⟨fuel - 1, by omega⟩
    have h1 := hL.1
    have hst := LInv.st_le hL L.ne (Nat.le_refl _)
    rw [fX8_audit_25, tp_f3 hT, cV_mk hT.pg.1.1, size_N hT I J h.pn h1.2.1, bd_some, if_pos ((nI_leI (by omega) (by omega)).mpr (by omega)), dif_no hL (fun j hj => he j (by omega)) L.ne 0 (by omega)]
    rfl
  | q + 1, k, fuel, hk, hf, he => by
    obtain ⟨y, rfl⟩ : ∃ y, fuel = y + 1 := ⟨fuel - 1, by omega⟩
    have h1 := hL.1
    have hN := hT.1.2.1
    have hst := LInv.st_le hL L.ne (Nat.le_refl _)
    rw [fX8_audit_25, tp_f3 hT, cV_mk hT.pg.1.1, size_N hT I J h.pn h1.2.1, bd_some, if_neg (nI_lt_of (by omega) (by omega)), tp_f3 hT, gR_mk hT.pg.1.1 hT.pg.2.1.1, rI_mk (by omega) hT.pg.2.2.1.1 (by omega) (by decide), h.2.1 k (by omega), tp_f0 hT, le_f5 hT.le, le_r5 hT.le (by omega), hC.2.2.2.2 k (by omega)]
    by_cases w : nw k = L.yb k
    · rw [if_pos (by rw [w]), nI_1]
      exact audit25 hT I J L hL nw hn hC h q (k + 1) y (by omega) (by omega) (fun j hj => by
        by_cases u : j = k
        · rw [u]; exact w
        · exact he j (by omega))
    · have hn0 : 0 < L.ne := by
        by_cases u : L.ne = 0
        · rw [u, hL.2.1.1] at hk
          omega
        · omega
      obtain ⟨e, e1, e2, e3, e4⟩ := entryWith_spec (SL := SL) hT.pg I J L.st L.ne hn0 h1.2.1 h.1 h.2.2.1.1 hL.2.1.1 k (by omega) (by omega)
      rw [if_neg (fun z => w ((nb_inj (hn k) (hL.2.1.2.2 k)).mp z)), tp_f3 hT, cV_mk hT.pg.1.1, e1, bd_some, dif_at hL e2 e3 e4 w he L.ne 0 (by omega) (by omega)]
      rfl
theorem c_audit (hT : TopAt N S R) (I : Nat → Nat → Int32) (J : Nat → Nat → Int64) (L : Lg) (tn : Nat) (tl : Nat → Nat × Int64) (nw : Nat → Nat) (et : Nat → Option Nat) (hL : LInv L) (hn : ∀ k, nw k < 256) (h : CA I J L tn tl nw et) (hEt : ∀ i n, et i = some n → n ≤ 50) (hM : Mir I J) :
    ∃ (I' : Nat → Nat → Int32) (J' : Nat → Nat → Int64), fX8_audit 3 (N, SL, S, R, I, J) = some (aAud L nw et, (N, SL, S, R, I', J')) ∧ Mir I' J' ∧ (∀ c, (c < 738 ∨ 757 < c) → I' c = I c) ∧ ∀ c, (c < 738 ∨ 757 < c) → J' c = J c := by
  obtain ⟨ho, r0, r1, hLe, hLg⟩ := hT.2.2.2.2.2
  have h1 := hL.1
  have hst := LInv.st_le hL L.ne (Nat.le_refl _)
  obtain ⟨C0, m1, m2⟩ := hM
  obtain ⟨I1, a1, a2, a3⟩ := startAnew_C (SL := SL) hLe I J C0 m1 m2
  have hnd : ¬ Due emptyL := fun x => absurd x.1 (by decide)
  obtain ⟨I2, J2, C2, b1, b2, b3, b4, b5⟩ := firstBad_loop (SL := SL) hT h1.2.1 (show L.st L.ne ≤ 16400 by omega) hn hEt 201 0 FU I1 J emptyL (by omega) (by decide) (h.2.2.2.pn.congr (fun c p1 p2 => a3 c (by omega))) (fun i hi => by rw [a3 24 (by decide)]; exact h.2.2.1 i hi) a2 empty_inv hnd (Nat.zero_le _)
  have f : ∀ c, (c < 738 ∨ 757 < c) → I2 c = I c := fun c hc => by rw [b4 c hc, a3 c (by omega)]
  refine ⟨I2, J2, ?_, ⟨C2, b2, b3⟩, f, b5⟩
  unfold fX8_audit fX0_firstBad aAud
  rw [tp_f6 hT, tp_f3 hT, tp_f2 hT, cV_mk ho, gR_mk ho r0, le_o hLe, a1, bd_some]
  rw [show nI 0 = (0 : Int32) from rfl] at b1
  rw [b1, bd_some]
  cases hx : audL nw (L.st L.ne) et 201 emptyL 0 with
  | some i =>
    have hi : i < 2 ^ 31 := audL_lt hx (by decide)
    rw [show etI (some i) = nI i from rfl, if_neg (nI_n1 i hi)]
  | none =>
    rw [show etI none = (-1 : Int32) from rfl, if_pos rfl]
    exact audit25 hT I2 J2 L hL nw hn (CRep.congr (fun c _ _ => f c (by omega)) (fun c _ _ _ => b5 c (by omega)) h.1) (h.2.2.2.congr (by decide) h1.2.1 (fun c hc => f c (by have : nS = 3 := rfl; omega))) (L.st L.ne) 0 FU (by omega) (by unfold FU; omega) (fun j hj => absurd hj (Nat.not_lt_zero _))
end AudC
