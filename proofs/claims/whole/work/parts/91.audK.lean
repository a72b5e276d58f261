-- P6: the audit: the reference's call
section AudK
variable {N SL : Nat} {S : Nat → Shp} {R : Nat → Nat → Option Nat} {m : Nat} {I : Nat → Nat → Int32} {J : Nat → Nat → Int64} {β : Type} {k : Mem → Option β}
theorem w11 (hA : MdAt N S R m) : wI (N, SL, S, R, I, J) .int (m + 1) (1 : Int32) (0 : Int32) k = k (N, SL, S, R, u2 I (m + 1) 1 (nI 0), J) := md_w1 (j := 1) hA (by decide)
theorem w21 (hA : MdAt N S R m) : wI (N, SL, S, R, I, J) .int (m + 2) (1 : Int32) (0 : Int32) k = k (N, SL, S, R, u2 I (m + 2) 1 (nI 0), J) := md_w2 (j := 1) hA (by decide)
theorem w31 (hA : MdAt N S R m) : wI (N, SL, S, R, I, J) .int (m + 3) (1 : Int32) (0 : Int32) k = k (N, SL, S, R, u2 I (m + 3) 1 (nI 0), J) := md_w3 (j := 1) hA (by decide)
theorem w41 (hA : MdAt N S R m) : wI (N, SL, S, R, I, J) .int (m + 4) (1 : Int32) (0 : Int32) k = k (N, SL, S, R, u2 I (m + 4) 1 (nI 0), J) := md_w4 (j := 1) hA (by decide)
theorem w51 (hA : MdAt N S R m) : wI (N, SL, S, R, I, J) .boolean (m + 5) (1 : Int32) (0 : Int32) k = k (N, SL, S, R, u2 I (m + 5) 1 0, J) := by
  have h := md_w5 (SL := SL) (I := I) (J := J) (j := 1) (x := 0) (k := k) hA (by decide)
  rw [nar_b0] at h
  exact h
end AudK
section AudL
variable {N SL : Nat} {S : Nat → Shp} {R : Nat → Nat → Option Nat}
theorem m_audit (hT : TopAt N S R) (I : Nat → Nat → Int32) (J : Nat → Nat → Int64) (L : Lg) (tn : Nat) (tl : Nat → Nat × Int64) (nw : Nat → Nat) (et : Nat → Option Nat) (hL : LInv L) (hn : ∀ k, nw k < 256) (h : MA I J L tn tl nw et) :
    ∃ (I' : Nat → Nat → Int32) (J' : Nat → Nat → Int64), fX9_audit 759 (N, SL, S, R, I, J) = some (aAud L nw et, (N, SL, S, R, I', J')) ∧ MA I' J' L tn tl nw et ∧ AF 759 I I' J J' := by
  have hA := hT.md
  have hst := hL.st_le L.ne (Nat.le_refl _)
  have hne := hL.1.2.1
  obtain ⟨a1, a2, a3, a4, n, a, v, e1, e2, e3, e4⟩ := id h
  have hn201 : n ≤ 201 := by
    by_cases z : n = 0
    · omega
    · obtain ⟨_, _, x1, _, _, x2⟩ := e2 (n - 1) (by omega)
      omega
  have hto0 : TO 759 I n a v := ⟨e1, hn201, fun k hk => ⟨(e2 k hk).1, (e2 k hk).2.1, by have := (e2 k hk).2.2.1; omega⟩⟩
  have hdm0 : DM 759 I (zD nw (L.st L.ne)) (L.st L.ne) := ⟨a2.1, fun k hk => by rw [zD_in hk]; exact a3 k hk⟩
  have h1 : ∀ k, k < n → et (a k) = some (v k) := fun k hk => (e2 k hk).2.2.2.1
  have hEt : ∀ i x, et i = some x → x ≤ 50 := fun i x hx => by
    obtain ⟨k, k1, k2⟩ := e4 i (by rw [hx]; exact fun q => (by cases q))
    obtain ⟨_, _, _, x3, x4, _⟩ := e2 k k1
    rw [k2, hx] at x3
    cases x3
    exact x4
  obtain ⟨I1, hI1⟩ : ∃ I1, I1 = u2 (u2 (u2 (u2 (u2 (u2 I (759 + 1) 1 (nI 0)) (759 + 2) 1 (nI 0)) (759 + 3) 1 (nI 0)) (759 + 4) 1 (nI 0)) (759 + 5) 1 0) 759 66 0 := ⟨_, rfl⟩
  have f0 : AF 759 I I1 J J := ⟨fun c j hc => by
    unfold Aw Own Hf at hc
    rw [hI1, u2_o (by omega), u2_o (by omega), u2_o (by omega), u2_o (by omega), u2_o (by omega), u2_o (by omega)], fun _ _ _ => rfl⟩
  have r0 : MRep 759 1 I1 J emptyL := ⟨⟨by rw [hI1, u2_o (by omega), u2_o (by omega), u2_o (by omega), u2_o (by omega), u2_o (by omega), u2_i]; rfl, by rw [hI1, u2_o (by omega), u2_o (by omega), u2_o (by omega), u2_o (by omega), u2_i]; rfl, by rw [hI1, u2_o (by omega), u2_o (by omega), u2_o (by omega), u2_i]; rfl, by rw [hI1, u2_o (by omega), u2_o (by omega), u2_i]; rfl⟩, fun a ha => absurd ha (Nat.not_lt_zero _), fun i hi => absurd hi (Nat.not_lt_zero _)⟩
  have g5 : I1 (759 + 5) 1 = 0 := by rw [hI1, u2_o (by omega), u2_i]
  have hnd : ¬ Due emptyL := fun x => absurd x.1 (by decide)
  obtain ⟨t', I2, b1, b2, b3, b4, b5, b6⟩ := tells_1 (SL := SL) hA e3 h1 e4 0 0 ⟨Nat.zero_le _, fun k hk => absurd hk (Nat.not_lt_zero _), fun k _ _ => Nat.zero_le _⟩ I1 J (f0.to hto0) emptyL r0 hnd g5 rfl (by decide) 999998
  obtain ⟨p1, p2, p3, p4, p5⟩ := tell_ok hEt empty_inv hnd 0
  obtain ⟨I3, J3, c1, c2⟩ := audM_loop (SL := SL) hA (show L.st L.ne ≤ 16400 by omega) hn e3 h1 e4 hEt I J (etI (difI L nw L.ne 0)) (fun I' J' f => by
    have q := f.ma hL h
    exact a224 hA I' J' L hL nw hn q.1 q.2.1 q.2.2.1 L.ne 0 FU (by omega) (by unfold FU; omega)) 201 0 FU t' I2 J (tellL et emptyL 0) emptyL (by omega) (by decide) (f0.trans b3) ((f0.trans b3).dm hdm0) ((f0.trans b3).to hto0) b4 p1 (by rw [p3]; rfl) (by rw [b6, p4, hI1, u2_i]; rfl) (by rw [b5, if_neg p2]) (Or.inl ⟨p2, rfl, by rw [p4], rfl, b2⟩)
  refine ⟨I3, J3, ?_, c2.ma hL h, c2⟩
  unfold fX9_audit
  rw [md_f0 hA, w11 hA, md_f1 hA, w21 hA, md_f2 hA, w31 hA, md_f3 hA, w41 hA, md_f4 hA, w51 hA, md_p hA, ← hI1, md_o hA]
  unfold fX9_tells
  have b1' : fX9_tells_2 FU 759 (0 : Int32) (N, SL, S, R, I1, J) = some (nI t', (N, SL, S, R, I2, J)) := b1
  rw [b1', bd_some, c1]
  unfold aAud
  cases audL nw (L.st L.ne) et 201 emptyL 0 <;> rfl
end AudL
