-- P3: the ledger without a machine, and how the class has it
/-- an entry: kind, key, how many legs, the legs (account, amount), what ended it, the hold's account and amount -/
abbrev En : Type := Nat × Int64 × Nat × (Nat → Nat × Int64) × Int32 × Nat × Nat
def En.kd (e : En) : Nat := e.1
def En.ky (e : En) : Int64 := e.2.1
def En.nl (e : En) : Nat := e.2.2.1
def En.lg (e : En) : Nat → Nat × Int64 := e.2.2.2.1
def En.en (e : En) : Int32 := e.2.2.2.2.1
def En.ha (e : En) : Nat := e.2.2.2.2.2.1
def En.hm (e : En) : Nat := e.2.2.2.2.2.2
/-- a ledger: accounts, entries, EVERY, since the last TRIAL, holds that are there; floors, balances, held, entries, bytes, where each entry begins -/
abbrev Lg : Type := (Nat × Nat × Nat × Nat × Nat) × (Nat → Int64) × (Nat → Int64) × (Nat → Nat) × (Nat → En) × (Nat → Nat) × (Nat → Nat)
def Lg.na (L : Lg) : Nat := L.1.1
def Lg.ne (L : Lg) : Nat := L.1.2.1
def Lg.ev (L : Lg) : Nat := L.1.2.2.1
def Lg.si (L : Lg) : Nat := L.1.2.2.2.1
def Lg.hc (L : Lg) : Nat := L.1.2.2.2.2
def Lg.fl (L : Lg) : Nat → Int64 := L.2.1
def Lg.ba (L : Lg) : Nat → Int64 := L.2.2.1
def Lg.he (L : Lg) : Nat → Nat := L.2.2.2.1
def Lg.es (L : Lg) : Nat → En := L.2.2.2.2.1
def Lg.yb (L : Lg) : Nat → Nat := L.2.2.2.2.2.1
def Lg.st (L : Lg) : Nat → Nat := L.2.2.2.2.2.2
/-- one place of a row is another -/
def up {α : Type} (f : Nat → α) (i : Nat) (x : α) : Nat → α := fun j => if j = i then x else f j
theorem up_eq {α : Type} {f : Nat → α} {i : Nat} {x : α} : up f i x i = x := if_pos rfl
theorem up_ne {α : Type} {f : Nat → α} {i j : Nat} {x : α} (h : j ≠ i) : up f i x j = f j := if_neg h
theorem u2_up {α : Type} {f : Nat → Nat → α} {c i : Nat} {x : α} : u2 f c i x = u1 f c (up (f c) i x) := u2_row
theorem u2_at {α : Type} {f : Nat → Nat → α} {c i : Nat} {x : α} : u2 f c i x c = up (f c) i x := by rw [u2_up, u1_eq]
/-- the ledger's numbers are others -/
def Lg.num (L : Lg) (n : Nat × Nat × Nat × Nat × Nat) : Lg := (n, L.2)
/-- an entry e of the bytes l behind the others -/
def app (L : Lg) (e : En) (l : List Nat) : Lg := ((L.na, L.ne + 1, L.ev, L.si, L.hc), L.fl, L.ba, L.he, up L.es L.ne e, (fun k => if L.st L.ne ≤ k ∧ k < L.st L.ne + l.length then l.getD (k - L.st L.ne) 0 else L.yb k), up L.st (L.ne + 1) (L.st L.ne + l.length))
/-- the class has the ledger L at b -/
def CRep (b : Nat) (I : Nat → Nat → Int32) (J : Nat → Nat → Int64) (L : Lg) : Prop :=
  (I b 4 = nI L.na ∧ I b 12 = nI L.ne ∧ I b 16 = nI L.ev ∧ I b 17 = nI L.si ∧ I b 15 = nI L.hc) ∧
  (∀ a, a < L.na → J (b + 1) a = L.fl a ∧ J (b + 2) a = L.ba a ∧ J (b + 3) a = Int64.ofNat (L.he a)) ∧
  (∀ i, i ≤ L.ne → I (b + 6) i = nI (L.st i)) ∧
  (∀ i, i < L.ne → J (b + 7) i = (L.es i).ky ∧ I (b + 8) i = (L.es i).en ∧ I (b + 9) i = nI (L.es i).nl ∧ ∀ k, k < (L.es i).nl → I (b + 10) (8 * i + k) = nI ((L.es i).lg k).1 ∧ J (b + 11) (8 * i + k) = ((L.es i).lg k).2) ∧
  ∀ k, k < L.st L.ne → I (b + 5) k = nb (nI (L.yb k))
/-- CRep looks at the cells b .. b + 11 alone -/
theorem CRep.congr {b : Nat} {I I' : Nat → Nat → Int32} {J J' : Nat → Nat → Int64} {L : Lg} (hI : ∀ c, b ≤ c → c ≤ b + 11 → I' c = I c) (hJ : ∀ c, b ≤ c → c ≤ b + 11 → c ≠ b + 4 → J' c = J c) (h : CRep b I J L) : CRep b I' J' L := by
  unfold CRep
  rw [hI b (by omega) (by omega), hJ (b + 1) (by omega) (by omega) (by omega), hJ (b + 2) (by omega) (by omega) (by omega), hJ (b + 3) (by omega) (by omega) (by omega), hI (b + 6) (by omega) (by omega), hJ (b + 7) (by omega) (by omega) (by omega), hI (b + 8) (by omega) (by omega), hI (b + 9) (by omega) (by omega), hI (b + 10) (by omega) (by omega), hJ (b + 11) (by omega) (by omega) (by omega), hI (b + 5) (by omega) (by omega)]
  exact h
section Copy
variable {N SL : Nat} {S : Nat → Shp} {R : Nat → Nat → Option Nat} {I : Nat → Nat → Int32} {J : Nat → Nat → Int64} {β : Type} {ty : FieldType} {c d n0 n1 sp dp n : Nat} {k : Mem → Option β}
theorem okC_mk {ty : FieldType} (hc : c < N) (hc0 : nS ≤ c) (hd : d < N) (hd0 : nS ≤ d) (hs : S c = .inl (ty, n0)) (hs' : S d = .inl (ty, n1)) (h1 : sp + n ≤ n0) (h2 : dp + n ≤ n1) (b0 : n0 < 2 ^ 31) (b1 : n1 < 2 ^ 31) : okC (N, SL, S, R, I, J) ty c (nI sp) d (nI dp) (nI n) = true := by
  have e1 : mSh (N, SL, S, R, I, J) c = .inl (ty, n0) := hs
  have e2 : mSh (N, SL, S, R, I, J) d = .inl (ty, n1) := hs'
  unfold okC
  rw [e1, e2, nI_clamp (by omega), nI_clamp (by omega), nI_clamp (by omega)]
  simp [hc, hd, hc0, hd0, h1, h2, nI_ge0 (show sp < 2 ^ 31 by omega), nI_ge0 (show dp < 2 ^ 31 by omega), nI_ge0 (show n < 2 ^ 31 by omega)]
theorem cpI_mk (hc : c < N) (hc0 : nS ≤ c) (hd : d < N) (hd0 : nS ≤ d) (hs : S c = .inl (ty, n0)) (hs' : S d = .inl (ty, n1)) (h1 : sp + n ≤ n0) (h2 : dp + n ≤ n1) (b0 : n0 < 2 ^ 31) (b1 : n1 < 2 ^ 31) (hf : ∀ i, i < n → fits ty (.int (I c (sp + i))) = true) : cpI (N, SL, S, R, I, J) ty c (nI sp) d (nI dp) (nI n) k = k (N, SL, S, R, u1 I d (va_cpy (I c) (I d) sp dp n), J) := by
  unfold cpI cpM
  rw [if_pos ⟨okC_mk hc hc0 hd hd0 hs hs' h1 h2 b0 b1, by rw [nI_clamp (by omega), nI_clamp (by omega)]; exact hf⟩, nI_clamp (by omega), nI_clamp (by omega), nI_clamp (by omega)]
theorem cpJ_mk (hc : c < N) (hc0 : nS ≤ c) (hd : d < N) (hd0 : nS ≤ d) (hs : S c = .inl (.long, n0)) (hs' : S d = .inl (.long, n1)) (h1 : sp + n ≤ n0) (h2 : dp + n ≤ n1) (b0 : n0 < 2 ^ 31) (b1 : n1 < 2 ^ 31) : cpJ (N, SL, S, R, I, J) c (nI sp) d (nI dp) (nI n) k = k (N, SL, S, R, I, u1 J d (va_cpy (J c) (J d) sp dp n)) := by
  unfold cpJ cpL
  rw [if_pos (okC_mk hc hc0 hd hd0 hs hs' h1 h2 b0 b1), nI_clamp (by omega), nI_clamp (by omega), nI_clamp (by omega)]
end Copy
section Append
variable {N SL : Nat} {S : Nat → Shp} {R : Nat → Nat → Option Nat} {b : Nat}
set_option maxHeartbeats 4000000 in
/-- append(key): the draft becomes the entry behind the last -/
theorem append_spec (hA : LedAt N S R b) (I : Nat → Nat → Int32) (J : Nat → Nat → Int64) (L : Lg) (hC : CRep b I J L) (hne : L.ne < 200) (hst : L.st L.ne ≤ 82 * L.ne) (l : List Nat) (hd : DrOk I (b + 12) l) (hl : l.length ≤ 82) (key : Int64) (kd ha hm : Nat) (lgs : Nat → Nat × Int64) :
    ∃ (I' : Nat → Nat → Int32) (J' : Nat → Nat → Int64), fX3_append b key (N, SL, S, R, I, J) = some (nI L.ne, (N, SL, S, R, I', J')) ∧ CRep b I' J' (app L (kd, key, 0, lgs, -1, ha, hm) l) ∧ (∀ c, c ≠ b → c ≠ b + 5 → c ≠ b + 6 → c ≠ b + 8 → c ≠ b + 9 → I' c = I c) ∧ (∀ c, c ≠ b + 7 → J' c = J c) := by
  obtain ⟨⟨h4, h12, h16, h17, h15⟩, hB, hS, hE, hY⟩ := hC
  have hb0 := hA.1.1.2.1
  have hbN := hA.1.2.1
  have hnS : nS = 3 := rfl
  have hdr : I (b + 12) 1 = nI l.length := hd.1
  have hs6 := hS L.ne (Nat.le_refl _)
  refine ⟨u2 (u2 (u2 (u2 (u1 I (b + 5) (va_cpy (I (b + 12 + 1)) (I (b + 5)) 0 (L.st L.ne) l.length)) (b + 6) (L.ne + 1) (nI (L.st L.ne + l.length))) (b + 8) L.ne (-1)) (b + 9) L.ne 0) b 12 (nI (L.ne + 1)), u2 J (b + 7) L.ne key, ?_, ?_, fun c a1 a2 a3 a4 a5 => ?_, fun c a => u2_ne a⟩
  · unfold fX3_append
    rw [le_g hA, h12, le_f13 hA, dr_f0 hA.dr, le_f5 hA, le_f6 hA, le_r6 hA (by omega), hs6, le_f13 hA, dr_g hA.dr, hdr, show (0 : Int32) = nI 0 from rfl]
    rw [cpI_mk (by omega) (by omega) (by omega) (by omega) hA.dr.2.2.2 hA.2.2.2.2.2.2.1 (by omega) (by omega) (by decide) (by decide) (fun i hi => by rw [Nat.zero_add, hd.2 i hi]; exact fits_nb _)]
    rw [le_f6 hA, le_f6 hA, le_r6 hA (by omega), u1_ne (by omega), hs6, le_f13 hA, dr_g hA.dr, u1_ne (by omega), hdr, nI_1, nI_add, le_w6 hA (by omega), le_f7 hA, le_w7 hA (by omega), le_f8 hA, le_w8 hA (by omega), le_f9 hA, le_w9 hA (by omega), le_g hA, le_p hA]
    rw [u2_ne (by omega), u2_ne (by omega), u2_ne (by omega), u1_ne (by omega), h12, nI_1]
  · refine ⟨⟨?_, ?_, ?_, ?_, ?_⟩, ?_, ?_, ?_, ?_⟩
    · rw [u2_at, up_ne (by decide), u2_ne (by omega), u2_ne (by omega), u2_ne (by omega), u1_ne (by omega)]; exact h4
    · rw [u2_at, up_eq]; rfl
    · rw [u2_at, up_ne (by decide), u2_ne (by omega), u2_ne (by omega), u2_ne (by omega), u1_ne (by omega)]; exact h16
    · rw [u2_at, up_ne (by decide), u2_ne (by omega), u2_ne (by omega), u2_ne (by omega), u1_ne (by omega)]; exact h17
    · rw [u2_at, up_ne (by decide), u2_ne (by omega), u2_ne (by omega), u2_ne (by omega), u1_ne (by omega)]; exact h15
    · intro a ha'
      rw [u2_ne (by omega), u2_ne (by omega), u2_ne (by omega)]
      exact hB a ha'
    · intro i hi
      rw [u2_ne (by omega), u2_ne (by omega), u2_ne (by omega), u2_at, u1_ne (by omega)]
      show up (I (b + 6)) (L.ne + 1) (nI (L.st L.ne + l.length)) i = nI (up L.st (L.ne + 1) (L.st L.ne + l.length) i)
      by_cases z : i = L.ne + 1
      · rw [z, up_eq, up_eq]
      · rw [up_ne z, up_ne z]
        exact hS i (by have : i ≤ L.ne + 1 := hi; omega)
    · intro i hi
      have hi' : i < L.ne + 1 := hi
      rw [u2_at, u2_ne (show b + 8 ≠ b by omega), u2_ne (show b + 8 ≠ b + 9 by omega), u2_at, u2_ne (show b + 9 ≠ b by omega), u2_at, u2_ne (show b + 10 ≠ b by omega), u2_ne (show b + 10 ≠ b + 9 by omega), u2_ne (show b + 10 ≠ b + 8 by omega), u2_ne (show b + 10 ≠ b + 6 by omega), u1_ne (show b + 10 ≠ b + 5 by omega), u2_ne (show b + 11 ≠ b + 7 by omega)]
      show up _ _ _ i = (up L.es L.ne _ i).ky ∧ up _ _ _ i = (up L.es L.ne _ i).en ∧ up _ _ _ i = nI (up L.es L.ne _ i).nl ∧ ∀ k, k < (up L.es L.ne _ i).nl → I (b + 10) (8 * i + k) = nI ((up L.es L.ne _ i).lg k).1 ∧ J (b + 11) (8 * i + k) = ((up L.es L.ne _ i).lg k).2
      by_cases z : i = L.ne
      · rw [z]
        simp only [up_eq]
        exact ⟨rfl, rfl, rfl, fun k hk => absurd hk (Nat.not_lt_zero _)⟩
      · rw [up_ne z, up_ne z, up_ne z, up_ne z, u2_ne (show b + 8 ≠ b + 6 by omega), u1_ne (show b + 8 ≠ b + 5 by omega), u2_ne (show b + 9 ≠ b + 8 by omega), u2_ne (show b + 9 ≠ b + 6 by omega), u1_ne (show b + 9 ≠ b + 5 by omega)]
        exact hE i (by omega)
    · intro k hk
      have hk' : k < up L.st (L.ne + 1) (L.st L.ne + l.length) (L.ne + 1) := hk
      rw [up_eq] at hk'
      rw [u2_ne (by omega), u2_ne (by omega), u2_ne (by omega), u2_ne (by omega), u1_eq]
      show va_cpy (I (b + 12 + 1)) (I (b + 5)) 0 (L.st L.ne) l.length k = nb (nI (if L.st L.ne ≤ k ∧ k < L.st L.ne + l.length then l.getD (k - L.st L.ne) 0 else L.yb k))
      unfold va_cpy
      by_cases z : L.st L.ne ≤ k
      · rw [if_pos ⟨z, hk'⟩, if_pos ⟨z, hk'⟩, Nat.zero_add, hd.2 _ (by omega)]
      · rw [if_neg (fun q => z q.1), if_neg (fun q => z q.1)]
        exact hY k (by omega)
  · rw [u2_ne a1, u2_ne a5, u2_ne a4, u2_ne a3, u1_ne a2]
end Append
