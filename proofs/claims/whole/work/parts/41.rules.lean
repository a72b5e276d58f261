/-- a Draft at d -/
def DrAt (N : Nat) (S : Nat → Shp) (R : Nat → Nat → Option Nat) (d : Nat) : Prop := Ob N S d 1 ∧ d + 1 < N ∧ R d 0 = some (d + 1) ∧ S (d + 1) = .inl (.byte, 82)
/-- Legs at g -/
def LgAt (N : Nat) (S : Nat → Shp) (R : Nat → Nat → Option Nat) (g : Nat) : Prop := Ob N S g 4 ∧ g + 2 < N ∧ R g 0 = some (g + 1) ∧ R g 1 = some (g + 2) ∧ S (g + 1) = .inl (.int, 8) ∧ S (g + 2) = .inl (.long, 8)
/-- a Ledger at b: its arrays b + 1 .., its Draft b + 12, its Legs b + 14 -/
def LedAt (N : Nat) (S : Nat → Shp) (R : Nat → Nat → Option Nat) (b : Nat) : Prop := (Ob N S b 3 ∧ b + 16 < N ∧ DrAt N S R (b + 12) ∧ LgAt N S R (b + 14) ∧ R b 13 = some (b + 12) ∧ R b 14 = some (b + 14)) ∧ (R b 0 = some (b + 1) ∧ R b 1 = some (b + 2) ∧ R b 2 = some (b + 3) ∧ R b 3 = some (b + 4) ∧ R b 5 = some (b + 5) ∧ R b 6 = some (b + 6) ∧ R b 7 = some (b + 7) ∧ R b 8 = some (b + 8) ∧ R b 9 = some (b + 9) ∧ R b 10 = some (b + 10) ∧ R b 11 = some (b + 11)) ∧ S (b + 1) = .inl (.long, 40) ∧ S (b + 2) = .inl (.long, 40) ∧ S (b + 3) = .inl (.long, 40) ∧ S (b + 4) = .inl (.long, 40) ∧ S (b + 5) = .inl (.byte, 16400) ∧ S (b + 6) = .inl (.int, 201) ∧ S (b + 7) = .inl (.long, 200) ∧ S (b + 8) = .inl (.int, 200) ∧ S (b + 9) = .inl (.int, 200) ∧ S (b + 10) = .inl (.int, 1600) ∧ S (b + 11) = .inl (.long, 1600)
section Rules
variable {N SL : Nat} {S : Nat → Shp} {R : Nat → Nat → Option Nat} {I : Nat → Nat → Int32} {J : Nat → Nat → Int64} {β : Type} {b d g m f j : Nat}
theorem dr_g {k : Int32 → Option β} (h : DrAt N S R d) : gI (N, SL, S, R, I, J) 1 f d k = k (I d f) := gI_mk h.1
theorem dr_p {k : Mem → Option β} {x : Int32} (h : DrAt N S R d) : pI (N, SL, S, R, I, J) 1 f d x k = k (N, SL, S, R, u2 I d f x, J) := pI_mk h.1
theorem dr_o {γ : Type} {r : Option (γ × Mem)} {k : γ → Mem → Option β} (h : DrAt N S R d) : cV (N, SL, S, R, I, J) 1 d r k = bd r k := cV_mk h.1
theorem dr_f0 {k : Nat → Option β} (h : DrAt N S R d) : gR (N, SL, S, R, I, J) 1 0 d k = k (d + 1) := gR_mk h.1 h.2.2.1
theorem dr_r1 {k : Int32 → Option β} (h : DrAt N S R d) (hj : j < 82) : rI (N, SL, S, R, I, J) .byte (d + 1) (nI j) k = k (I (d + 1) j) := rI_mk h.2.1 h.2.2.2 hj (by decide)
theorem dr_w1 {k : Mem → Option β} {x : Int32} (h : DrAt N S R d) (hj : j < 82) : wI (N, SL, S, R, I, J) .byte (d + 1) (nI j) x k = k (N, SL, S, R, u2 I (d + 1) j (vp_nar .byte x), J) := wI_mk h.2.1 (Nat.le_trans h.1.2.1 (Nat.le_add_right _ _)) h.2.2.2 hj (by decide)
theorem lg_g {k : Int32 → Option β} (h : LgAt N S R g) : gI (N, SL, S, R, I, J) 4 f g k = k (I g f) := gI_mk h.1
theorem lg_p {k : Mem → Option β} {x : Int32} (h : LgAt N S R g) : pI (N, SL, S, R, I, J) 4 f g x k = k (N, SL, S, R, u2 I g f x, J) := pI_mk h.1
theorem lg_o {γ : Type} {r : Option (γ × Mem)} {k : γ → Mem → Option β} (h : LgAt N S R g) : cV (N, SL, S, R, I, J) 4 g r k = bd r k := cV_mk h.1
theorem lg_f0 {k : Nat → Option β} (h : LgAt N S R g) : gR (N, SL, S, R, I, J) 4 0 g k = k (g + 1) := gR_mk h.1 h.2.2.1
theorem lg_f1 {k : Nat → Option β} (h : LgAt N S R g) : gR (N, SL, S, R, I, J) 4 1 g k = k (g + 2) := gR_mk h.1 h.2.2.2.1
theorem lg_r1 {k : Int32 → Option β} (h : LgAt N S R g) (hj : j < 8) : rI (N, SL, S, R, I, J) .int (g + 1) (nI j) k = k (I (g + 1) j) := rI_mk (Nat.lt_of_succ_lt h.2.1) h.2.2.2.2.1 hj (by decide)
theorem lg_w1 {k : Mem → Option β} {x : Int32} (h : LgAt N S R g) (hj : j < 8) : wI (N, SL, S, R, I, J) .int (g + 1) (nI j) x k = k (N, SL, S, R, u2 I (g + 1) j x, J) := by rw [wI_mk (Nat.lt_of_succ_lt h.2.1) (Nat.le_trans h.1.2.1 (Nat.le_add_right _ _)) h.2.2.2.2.1 hj (by decide), vp_narI]
theorem lg_r2 {k : Int64 → Option β} (h : LgAt N S R g) (hj : j < 8) : rJ (N, SL, S, R, I, J) (g + 2) (nI j) k = k (J (g + 2) j) := rJ_mk h.2.1 h.2.2.2.2.2 hj (by decide)
theorem lg_w2 {k : Mem → Option β} {x : Int64} (h : LgAt N S R g) (hj : j < 8) : wJ (N, SL, S, R, I, J) (g + 2) (nI j) x k = k (N, SL, S, R, I, u2 J (g + 2) j x) := wJ_mk h.2.1 (Nat.le_trans h.1.2.1 (Nat.le_add_right _ _)) h.2.2.2.2.2 hj (by decide)
theorem le_g {k : Int32 → Option β} (h : LedAt N S R b) : gI (N, SL, S, R, I, J) 3 f b k = k (I b f) := gI_mk h.1.1
theorem le_p {k : Mem → Option β} {x : Int32} (h : LedAt N S R b) : pI (N, SL, S, R, I, J) 3 f b x k = k (N, SL, S, R, u2 I b f x, J) := pI_mk h.1.1
theorem le_o {γ : Type} {r : Option (γ × Mem)} {k : γ → Mem → Option β} (h : LedAt N S R b) : cV (N, SL, S, R, I, J) 3 b r k = bd r k := cV_mk h.1.1
theorem le_f0 {k : Nat → Option β} (h : LedAt N S R b) : gR (N, SL, S, R, I, J) 3 0 b k = k (b + 1) := gR_mk h.1.1 h.2.1.1
theorem le_r1 {k : Int64 → Option β} (h : LedAt N S R b) (hj : j < 40) : rJ (N, SL, S, R, I, J) (b + 1) (nI j) k = k (J (b + 1) j) := rJ_mk (Nat.lt_of_le_of_lt (Nat.add_le_add_left (by decide : 1 ≤ 16) b) h.1.2.1) h.2.2.1 hj (by decide)
theorem le_w1 {k : Mem → Option β} {x : Int64} (h : LedAt N S R b) (hj : j < 40) : wJ (N, SL, S, R, I, J) (b + 1) (nI j) x k = k (N, SL, S, R, I, u2 J (b + 1) j x) := wJ_mk (Nat.lt_of_le_of_lt (Nat.add_le_add_left (by decide : 1 ≤ 16) b) h.1.2.1) (Nat.le_trans h.1.1.2.1 (Nat.le_add_right _ _)) h.2.2.1 hj (by decide)
theorem le_f1 {k : Nat → Option β} (h : LedAt N S R b) : gR (N, SL, S, R, I, J) 3 1 b k = k (b + 2) := gR_mk h.1.1 h.2.1.2.1
theorem le_r2 {k : Int64 → Option β} (h : LedAt N S R b) (hj : j < 40) : rJ (N, SL, S, R, I, J) (b + 2) (nI j) k = k (J (b + 2) j) := rJ_mk (Nat.lt_of_le_of_lt (Nat.add_le_add_left (by decide : 2 ≤ 16) b) h.1.2.1) h.2.2.2.1 hj (by decide)
theorem le_w2 {k : Mem → Option β} {x : Int64} (h : LedAt N S R b) (hj : j < 40) : wJ (N, SL, S, R, I, J) (b + 2) (nI j) x k = k (N, SL, S, R, I, u2 J (b + 2) j x) := wJ_mk (Nat.lt_of_le_of_lt (Nat.add_le_add_left (by decide : 2 ≤ 16) b) h.1.2.1) (Nat.le_trans h.1.1.2.1 (Nat.le_add_right _ _)) h.2.2.2.1 hj (by decide)
theorem le_f2 {k : Nat → Option β} (h : LedAt N S R b) : gR (N, SL, S, R, I, J) 3 2 b k = k (b + 3) := gR_mk h.1.1 h.2.1.2.2.1
theorem le_r3 {k : Int64 → Option β} (h : LedAt N S R b) (hj : j < 40) : rJ (N, SL, S, R, I, J) (b + 3) (nI j) k = k (J (b + 3) j) := rJ_mk (Nat.lt_of_le_of_lt (Nat.add_le_add_left (by decide : 3 ≤ 16) b) h.1.2.1) h.2.2.2.2.1 hj (by decide)
theorem le_w3 {k : Mem → Option β} {x : Int64} (h : LedAt N S R b) (hj : j < 40) : wJ (N, SL, S, R, I, J) (b + 3) (nI j) x k = k (N, SL, S, R, I, u2 J (b + 3) j x) := wJ_mk (Nat.lt_of_le_of_lt (Nat.add_le_add_left (by decide : 3 ≤ 16) b) h.1.2.1) (Nat.le_trans h.1.1.2.1 (Nat.le_add_right _ _)) h.2.2.2.2.1 hj (by decide)
theorem le_f3 {k : Nat → Option β} (h : LedAt N S R b) : gR (N, SL, S, R, I, J) 3 3 b k = k (b + 4) := gR_mk h.1.1 h.2.1.2.2.2.1
theorem le_r4 {k : Int64 → Option β} (h : LedAt N S R b) (hj : j < 40) : rJ (N, SL, S, R, I, J) (b + 4) (nI j) k = k (J (b + 4) j) := rJ_mk (Nat.lt_of_le_of_lt (Nat.add_le_add_left (by decide : 4 ≤ 16) b) h.1.2.1) h.2.2.2.2.2.1 hj (by decide)
theorem le_w4 {k : Mem → Option β} {x : Int64} (h : LedAt N S R b) (hj : j < 40) : wJ (N, SL, S, R, I, J) (b + 4) (nI j) x k = k (N, SL, S, R, I, u2 J (b + 4) j x) := wJ_mk (Nat.lt_of_le_of_lt (Nat.add_le_add_left (by decide : 4 ≤ 16) b) h.1.2.1) (Nat.le_trans h.1.1.2.1 (Nat.le_add_right _ _)) h.2.2.2.2.2.1 hj (by decide)
theorem le_f5 {k : Nat → Option β} (h : LedAt N S R b) : gR (N, SL, S, R, I, J) 3 5 b k = k (b + 5) := gR_mk h.1.1 h.2.1.2.2.2.2.1
theorem le_r5 {k : Int32 → Option β} (h : LedAt N S R b) (hj : j < 16400) : rI (N, SL, S, R, I, J) .byte (b + 5) (nI j) k = k (I (b + 5) j) := rI_mk (Nat.lt_of_le_of_lt (Nat.add_le_add_left (by decide : 5 ≤ 16) b) h.1.2.1) h.2.2.2.2.2.2.1 hj (by decide)
theorem le_w5 {k : Mem → Option β} {x : Int32} (h : LedAt N S R b) (hj : j < 16400) : wI (N, SL, S, R, I, J) .byte (b + 5) (nI j) x k = k (N, SL, S, R, u2 I (b + 5) j (vp_nar .byte x), J) := wI_mk (Nat.lt_of_le_of_lt (Nat.add_le_add_left (by decide : 5 ≤ 16) b) h.1.2.1) (Nat.le_trans h.1.1.2.1 (Nat.le_add_right _ _)) h.2.2.2.2.2.2.1 hj (by decide)
theorem le_f6 {k : Nat → Option β} (h : LedAt N S R b) : gR (N, SL, S, R, I, J) 3 6 b k = k (b + 6) := gR_mk h.1.1 h.2.1.2.2.2.2.2.1
theorem le_r6 {k : Int32 → Option β} (h : LedAt N S R b) (hj : j < 201) : rI (N, SL, S, R, I, J) .int (b + 6) (nI j) k = k (I (b + 6) j) := rI_mk (Nat.lt_of_le_of_lt (Nat.add_le_add_left (by decide : 6 ≤ 16) b) h.1.2.1) h.2.2.2.2.2.2.2.1 hj (by decide)
theorem le_w6 {k : Mem → Option β} {x : Int32} (h : LedAt N S R b) (hj : j < 201) : wI (N, SL, S, R, I, J) .int (b + 6) (nI j) x k = k (N, SL, S, R, u2 I (b + 6) j x, J) := by rw [wI_mk (Nat.lt_of_le_of_lt (Nat.add_le_add_left (by decide : 6 ≤ 16) b) h.1.2.1) (Nat.le_trans h.1.1.2.1 (Nat.le_add_right _ _)) h.2.2.2.2.2.2.2.1 hj (by decide), vp_narI]
theorem le_f7 {k : Nat → Option β} (h : LedAt N S R b) : gR (N, SL, S, R, I, J) 3 7 b k = k (b + 7) := gR_mk h.1.1 h.2.1.2.2.2.2.2.2.1
theorem le_r7 {k : Int64 → Option β} (h : LedAt N S R b) (hj : j < 200) : rJ (N, SL, S, R, I, J) (b + 7) (nI j) k = k (J (b + 7) j) := rJ_mk (Nat.lt_of_le_of_lt (Nat.add_le_add_left (by decide : 7 ≤ 16) b) h.1.2.1) h.2.2.2.2.2.2.2.2.1 hj (by decide)
theorem le_w7 {k : Mem → Option β} {x : Int64} (h : LedAt N S R b) (hj : j < 200) : wJ (N, SL, S, R, I, J) (b + 7) (nI j) x k = k (N, SL, S, R, I, u2 J (b + 7) j x) := wJ_mk (Nat.lt_of_le_of_lt (Nat.add_le_add_left (by decide : 7 ≤ 16) b) h.1.2.1) (Nat.le_trans h.1.1.2.1 (Nat.le_add_right _ _)) h.2.2.2.2.2.2.2.2.1 hj (by decide)
theorem le_f8 {k : Nat → Option β} (h : LedAt N S R b) : gR (N, SL, S, R, I, J) 3 8 b k = k (b + 8) := gR_mk h.1.1 h.2.1.2.2.2.2.2.2.2.1
theorem le_r8 {k : Int32 → Option β} (h : LedAt N S R b) (hj : j < 200) : rI (N, SL, S, R, I, J) .int (b + 8) (nI j) k = k (I (b + 8) j) := rI_mk (Nat.lt_of_le_of_lt (Nat.add_le_add_left (by decide : 8 ≤ 16) b) h.1.2.1) h.2.2.2.2.2.2.2.2.2.1 hj (by decide)
theorem le_w8 {k : Mem → Option β} {x : Int32} (h : LedAt N S R b) (hj : j < 200) : wI (N, SL, S, R, I, J) .int (b + 8) (nI j) x k = k (N, SL, S, R, u2 I (b + 8) j x, J) := by rw [wI_mk (Nat.lt_of_le_of_lt (Nat.add_le_add_left (by decide : 8 ≤ 16) b) h.1.2.1) (Nat.le_trans h.1.1.2.1 (Nat.le_add_right _ _)) h.2.2.2.2.2.2.2.2.2.1 hj (by decide), vp_narI]
theorem le_f9 {k : Nat → Option β} (h : LedAt N S R b) : gR (N, SL, S, R, I, J) 3 9 b k = k (b + 9) := gR_mk h.1.1 h.2.1.2.2.2.2.2.2.2.2.1
theorem le_r9 {k : Int32 → Option β} (h : LedAt N S R b) (hj : j < 200) : rI (N, SL, S, R, I, J) .int (b + 9) (nI j) k = k (I (b + 9) j) := rI_mk (Nat.lt_of_le_of_lt (Nat.add_le_add_left (by decide : 9 ≤ 16) b) h.1.2.1) h.2.2.2.2.2.2.2.2.2.2.1 hj (by decide)
theorem le_w9 {k : Mem → Option β} {x : Int32} (h : LedAt N S R b) (hj : j < 200) : wI (N, SL, S, R, I, J) .int (b + 9) (nI j) x k = k (N, SL, S, R, u2 I (b + 9) j x, J) := by rw [wI_mk (Nat.lt_of_le_of_lt (Nat.add_le_add_left (by decide : 9 ≤ 16) b) h.1.2.1) (Nat.le_trans h.1.1.2.1 (Nat.le_add_right _ _)) h.2.2.2.2.2.2.2.2.2.2.1 hj (by decide), vp_narI]
theorem le_f10 {k : Nat → Option β} (h : LedAt N S R b) : gR (N, SL, S, R, I, J) 3 10 b k = k (b + 10) := gR_mk h.1.1 h.2.1.2.2.2.2.2.2.2.2.2.1
theorem le_r10 {k : Int32 → Option β} (h : LedAt N S R b) (hj : j < 1600) : rI (N, SL, S, R, I, J) .int (b + 10) (nI j) k = k (I (b + 10) j) := rI_mk (Nat.lt_of_le_of_lt (Nat.add_le_add_left (by decide : 10 ≤ 16) b) h.1.2.1) h.2.2.2.2.2.2.2.2.2.2.2.1 hj (by decide)
theorem le_w10 {k : Mem → Option β} {x : Int32} (h : LedAt N S R b) (hj : j < 1600) : wI (N, SL, S, R, I, J) .int (b + 10) (nI j) x k = k (N, SL, S, R, u2 I (b + 10) j x, J) := by rw [wI_mk (Nat.lt_of_le_of_lt (Nat.add_le_add_left (by decide : 10 ≤ 16) b) h.1.2.1) (Nat.le_trans h.1.1.2.1 (Nat.le_add_right _ _)) h.2.2.2.2.2.2.2.2.2.2.2.1 hj (by decide), vp_narI]
theorem le_f11 {k : Nat → Option β} (h : LedAt N S R b) : gR (N, SL, S, R, I, J) 3 11 b k = k (b + 11) := gR_mk h.1.1 h.2.1.2.2.2.2.2.2.2.2.2.2
theorem le_r11 {k : Int64 → Option β} (h : LedAt N S R b) (hj : j < 1600) : rJ (N, SL, S, R, I, J) (b + 11) (nI j) k = k (J (b + 11) j) := rJ_mk (Nat.lt_of_le_of_lt (Nat.add_le_add_left (by decide : 11 ≤ 16) b) h.1.2.1) h.2.2.2.2.2.2.2.2.2.2.2.2 hj (by decide)
theorem le_w11 {k : Mem → Option β} {x : Int64} (h : LedAt N S R b) (hj : j < 1600) : wJ (N, SL, S, R, I, J) (b + 11) (nI j) x k = k (N, SL, S, R, I, u2 J (b + 11) j x) := wJ_mk (Nat.lt_of_le_of_lt (Nat.add_le_add_left (by decide : 11 ≤ 16) b) h.1.2.1) (Nat.le_trans h.1.1.2.1 (Nat.le_add_right _ _)) h.2.2.2.2.2.2.2.2.2.2.2.2 hj (by decide)
theorem le_f13 {k : Nat → Option β} (h : LedAt N S R b) : gR (N, SL, S, R, I, J) 3 13 b k = k (b + 12) := gR_mk h.1.1 h.1.2.2.2.2.1
theorem le_f14 {k : Nat → Option β} (h : LedAt N S R b) : gR (N, SL, S, R, I, J) 3 14 b k = k (b + 14) := gR_mk h.1.1 h.1.2.2.2.2.2
theorem LedAt.dr (h : LedAt N S R b) : DrAt N S R (b + 12) := h.1.2.2.1
theorem LedAt.lg (h : LedAt N S R b) : LgAt N S R (b + 14) := h.1.2.2.2.1
theorem md_g {k : Int32 → Option β} (h : MdAt N S R m) : gI (N, SL, S, R, I, J) 9 f m k = k (I m f) := gI_mk h.1
theorem md_p {k : Mem → Option β} {x : Int32} (h : MdAt N S R m) : pI (N, SL, S, R, I, J) 9 f m x k = k (N, SL, S, R, u2 I m f x, J) := pI_mk h.1
theorem md_o {γ : Type} {r : Option (γ × Mem)} {k : γ → Mem → Option β} (h : MdAt N S R m) : cV (N, SL, S, R, I, J) 9 m r k = bd r k := cV_mk h.1
theorem md_gJ {k : Int64 → Option β} (h : MdAt N S R m) : gJ (N, SL, S, R, I, J) 9 f m k = k (J m f) := gJ_mk h.1
theorem md_pJ {k : Mem → Option β} {x : Int64} (h : MdAt N S R m) : pJ (N, SL, S, R, I, J) 9 f m x k = k (N, SL, S, R, I, u2 J m f x) := pJ_mk h.1
theorem md_pZ {k : Mem → Option β} {x : Int32} (h : MdAt N S R m) (hx : x = 0 ∨ x = 1) : pZ (N, SL, S, R, I, J) 9 f m x k = k (N, SL, S, R, u2 I m f x, J) := pZ_mk h.1 hx
theorem md_f0 {k : Nat → Option β} (h : MdAt N S R m) : gR (N, SL, S, R, I, J) 9 0 m k = k (m + 1) := gR_mk h.1 (md_accounts h).1
theorem md_r1 {k : Int32 → Option β} (h : MdAt N S R m) (hj : j < 2) : rI (N, SL, S, R, I, J) .int (m + 1) (nI j) k = k (I (m + 1) j) := rI_mk (md_accounts h).2.2.1 (md_accounts h).2.1 hj (by decide)
theorem md_w1 {k : Mem → Option β} {x : Int32} (h : MdAt N S R m) (hj : j < 2) : wI (N, SL, S, R, I, J) .int (m + 1) (nI j) x k = k (N, SL, S, R, u2 I (m + 1) j x, J) := by rw [wI_mk (md_accounts h).2.2.1 (md_accounts h).2.2.2 (md_accounts h).2.1 hj (by decide), vp_narI]
theorem md_f1 {k : Nat → Option β} (h : MdAt N S R m) : gR (N, SL, S, R, I, J) 9 1 m k = k (m + 2) := gR_mk h.1 (md_entries h).1
theorem md_r2 {k : Int32 → Option β} (h : MdAt N S R m) (hj : j < 2) : rI (N, SL, S, R, I, J) .int (m + 2) (nI j) k = k (I (m + 2) j) := rI_mk (md_entries h).2.2.1 (md_entries h).2.1 hj (by decide)
theorem md_w2 {k : Mem → Option β} {x : Int32} (h : MdAt N S R m) (hj : j < 2) : wI (N, SL, S, R, I, J) .int (m + 2) (nI j) x k = k (N, SL, S, R, u2 I (m + 2) j x, J) := by rw [wI_mk (md_entries h).2.2.1 (md_entries h).2.2.2 (md_entries h).2.1 hj (by decide), vp_narI]
theorem md_f2 {k : Nat → Option β} (h : MdAt N S R m) : gR (N, SL, S, R, I, J) 9 2 m k = k (m + 3) := gR_mk h.1 (md_every h).1
theorem md_r3 {k : Int32 → Option β} (h : MdAt N S R m) (hj : j < 2) : rI (N, SL, S, R, I, J) .int (m + 3) (nI j) k = k (I (m + 3) j) := rI_mk (md_every h).2.2.1 (md_every h).2.1 hj (by decide)
theorem md_w3 {k : Mem → Option β} {x : Int32} (h : MdAt N S R m) (hj : j < 2) : wI (N, SL, S, R, I, J) .int (m + 3) (nI j) x k = k (N, SL, S, R, u2 I (m + 3) j x, J) := by rw [wI_mk (md_every h).2.2.1 (md_every h).2.2.2 (md_every h).2.1 hj (by decide), vp_narI]
theorem md_f3 {k : Nat → Option β} (h : MdAt N S R m) : gR (N, SL, S, R, I, J) 9 3 m k = k (m + 4) := gR_mk h.1 (md_since h).1
theorem md_r4 {k : Int32 → Option β} (h : MdAt N S R m) (hj : j < 2) : rI (N, SL, S, R, I, J) .int (m + 4) (nI j) k = k (I (m + 4) j) := rI_mk (md_since h).2.2.1 (md_since h).2.1 hj (by decide)
theorem md_w4 {k : Mem → Option β} {x : Int32} (h : MdAt N S R m) (hj : j < 2) : wI (N, SL, S, R, I, J) .int (m + 4) (nI j) x k = k (N, SL, S, R, u2 I (m + 4) j x, J) := by rw [wI_mk (md_since h).2.2.1 (md_since h).2.2.2 (md_since h).2.1 hj (by decide), vp_narI]
theorem md_f4 {k : Nat → Option β} (h : MdAt N S R m) : gR (N, SL, S, R, I, J) 9 4 m k = k (m + 5) := gR_mk h.1 (md_isDue h).1
theorem md_r5 {k : Int32 → Option β} (h : MdAt N S R m) (hj : j < 2) : rI (N, SL, S, R, I, J) .boolean (m + 5) (nI j) k = k (I (m + 5) j) := rI_mk (md_isDue h).2.2.1 (md_isDue h).2.1 hj (by decide)
theorem md_w5 {k : Mem → Option β} {x : Int32} (h : MdAt N S R m) (hj : j < 2) : wI (N, SL, S, R, I, J) .boolean (m + 5) (nI j) x k = k (N, SL, S, R, u2 I (m + 5) j (vp_nar .boolean x), J) := wI_mk (md_isDue h).2.2.1 (md_isDue h).2.2.2 (md_isDue h).2.1 hj (by decide)
theorem md_f5 {k : Nat → Option β} (h : MdAt N S R m) : gR (N, SL, S, R, I, J) 9 5 m k = k (m + 6) := gR_mk h.1 (md_floor h).1
theorem md_r6 {k : Int64 → Option β} (h : MdAt N S R m) (hj : j < 80) : rJ (N, SL, S, R, I, J) (m + 6) (nI j) k = k (J (m + 6) j) := rJ_mk (md_floor h).2.2.1 (md_floor h).2.1 hj (by decide)
theorem md_w6 {k : Mem → Option β} {x : Int64} (h : MdAt N S R m) (hj : j < 80) : wJ (N, SL, S, R, I, J) (m + 6) (nI j) x k = k (N, SL, S, R, I, u2 J (m + 6) j x) := wJ_mk (md_floor h).2.2.1 (md_floor h).2.2.2 (md_floor h).2.1 hj (by decide)
theorem md_f6 {k : Nat → Option β} (h : MdAt N S R m) : gR (N, SL, S, R, I, J) 9 6 m k = k (m + 7) := gR_mk h.1 (md_balance h).1
theorem md_r7 {k : Int64 → Option β} (h : MdAt N S R m) (hj : j < 80) : rJ (N, SL, S, R, I, J) (m + 7) (nI j) k = k (J (m + 7) j) := rJ_mk (md_balance h).2.2.1 (md_balance h).2.1 hj (by decide)
theorem md_w7 {k : Mem → Option β} {x : Int64} (h : MdAt N S R m) (hj : j < 80) : wJ (N, SL, S, R, I, J) (m + 7) (nI j) x k = k (N, SL, S, R, I, u2 J (m + 7) j x) := wJ_mk (md_balance h).2.2.1 (md_balance h).2.2.2 (md_balance h).2.1 hj (by decide)
theorem md_f7 {k : Nat → Option β} (h : MdAt N S R m) : gR (N, SL, S, R, I, J) 9 7 m k = k (m + 8) := gR_mk h.1 (md_heldHigh h).1
theorem md_r8 {k : Int64 → Option β} (h : MdAt N S R m) (hj : j < 80) : rJ (N, SL, S, R, I, J) (m + 8) (nI j) k = k (J (m + 8) j) := rJ_mk (md_heldHigh h).2.2.1 (md_heldHigh h).2.1 hj (by decide)
theorem md_w8 {k : Mem → Option β} {x : Int64} (h : MdAt N S R m) (hj : j < 80) : wJ (N, SL, S, R, I, J) (m + 8) (nI j) x k = k (N, SL, S, R, I, u2 J (m + 8) j x) := wJ_mk (md_heldHigh h).2.2.1 (md_heldHigh h).2.2.2 (md_heldHigh h).2.1 hj (by decide)
theorem md_f8 {k : Nat → Option β} (h : MdAt N S R m) : gR (N, SL, S, R, I, J) 9 8 m k = k (m + 9) := gR_mk h.1 (md_heldLow h).1
theorem md_r9 {k : Int64 → Option β} (h : MdAt N S R m) (hj : j < 80) : rJ (N, SL, S, R, I, J) (m + 9) (nI j) k = k (J (m + 9) j) := rJ_mk (md_heldLow h).2.2.1 (md_heldLow h).2.1 hj (by decide)
theorem md_w9 {k : Mem → Option β} {x : Int64} (h : MdAt N S R m) (hj : j < 80) : wJ (N, SL, S, R, I, J) (m + 9) (nI j) x k = k (N, SL, S, R, I, u2 J (m + 9) j x) := wJ_mk (md_heldLow h).2.2.1 (md_heldLow h).2.2.2 (md_heldLow h).2.1 hj (by decide)
theorem md_f9 {k : Nat → Option β} (h : MdAt N S R m) : gR (N, SL, S, R, I, J) 9 9 m k = k (m + 10) := gR_mk h.1 (md_kind h).1
theorem md_r10 {k : Int32 → Option β} (h : MdAt N S R m) (hj : j < 400) : rI (N, SL, S, R, I, J) .int (m + 10) (nI j) k = k (I (m + 10) j) := rI_mk (md_kind h).2.2.1 (md_kind h).2.1 hj (by decide)
theorem md_w10 {k : Mem → Option β} {x : Int32} (h : MdAt N S R m) (hj : j < 400) : wI (N, SL, S, R, I, J) .int (m + 10) (nI j) x k = k (N, SL, S, R, u2 I (m + 10) j x, J) := by rw [wI_mk (md_kind h).2.2.1 (md_kind h).2.2.2 (md_kind h).2.1 hj (by decide), vp_narI]
theorem md_f10 {k : Nat → Option β} (h : MdAt N S R m) : gR (N, SL, S, R, I, J) 9 10 m k = k (m + 11) := gR_mk h.1 (md_keys h).1
theorem md_r11 {k : Int64 → Option β} (h : MdAt N S R m) (hj : j < 400) : rJ (N, SL, S, R, I, J) (m + 11) (nI j) k = k (J (m + 11) j) := rJ_mk (md_keys h).2.2.1 (md_keys h).2.1 hj (by decide)
theorem md_w11 {k : Mem → Option β} {x : Int64} (h : MdAt N S R m) (hj : j < 400) : wJ (N, SL, S, R, I, J) (m + 11) (nI j) x k = k (N, SL, S, R, I, u2 J (m + 11) j x) := wJ_mk (md_keys h).2.2.1 (md_keys h).2.2.2 (md_keys h).2.1 hj (by decide)
theorem md_f11 {k : Nat → Option β} (h : MdAt N S R m) : gR (N, SL, S, R, I, J) 9 11 m k = k (m + 12) := gR_mk h.1 (md_legs h).1
theorem md_r12 {k : Int32 → Option β} (h : MdAt N S R m) (hj : j < 400) : rI (N, SL, S, R, I, J) .int (m + 12) (nI j) k = k (I (m + 12) j) := rI_mk (md_legs h).2.2.1 (md_legs h).2.1 hj (by decide)
theorem md_w12 {k : Mem → Option β} {x : Int32} (h : MdAt N S R m) (hj : j < 400) : wI (N, SL, S, R, I, J) .int (m + 12) (nI j) x k = k (N, SL, S, R, u2 I (m + 12) j x, J) := by rw [wI_mk (md_legs h).2.2.1 (md_legs h).2.2.2 (md_legs h).2.1 hj (by decide), vp_narI]
theorem md_f12 {k : Nat → Option β} (h : MdAt N S R m) : gR (N, SL, S, R, I, J) 9 12 m k = k (m + 13) := gR_mk h.1 (md_legAccount h).1
theorem md_r13 {k : Int32 → Option β} (h : MdAt N S R m) (hj : j < 3200) : rI (N, SL, S, R, I, J) .int (m + 13) (nI j) k = k (I (m + 13) j) := rI_mk (md_legAccount h).2.2.1 (md_legAccount h).2.1 hj (by decide)
theorem md_w13 {k : Mem → Option β} {x : Int32} (h : MdAt N S R m) (hj : j < 3200) : wI (N, SL, S, R, I, J) .int (m + 13) (nI j) x k = k (N, SL, S, R, u2 I (m + 13) j x, J) := by rw [wI_mk (md_legAccount h).2.2.1 (md_legAccount h).2.2.2 (md_legAccount h).2.1 hj (by decide), vp_narI]
theorem md_f13 {k : Nat → Option β} (h : MdAt N S R m) : gR (N, SL, S, R, I, J) 9 13 m k = k (m + 14) := gR_mk h.1 (md_legAmount h).1
theorem md_r14 {k : Int64 → Option β} (h : MdAt N S R m) (hj : j < 3200) : rJ (N, SL, S, R, I, J) (m + 14) (nI j) k = k (J (m + 14) j) := rJ_mk (md_legAmount h).2.2.1 (md_legAmount h).2.1 hj (by decide)
theorem md_w14 {k : Mem → Option β} {x : Int64} (h : MdAt N S R m) (hj : j < 3200) : wJ (N, SL, S, R, I, J) (m + 14) (nI j) x k = k (N, SL, S, R, I, u2 J (m + 14) j x) := wJ_mk (md_legAmount h).2.2.1 (md_legAmount h).2.2.2 (md_legAmount h).2.1 hj (by decide)
theorem md_f14 {k : Nat → Option β} (h : MdAt N S R m) : gR (N, SL, S, R, I, J) 9 14 m k = k (m + 15) := gR_mk h.1 (md_holdAccount h).1
theorem md_r15 {k : Int32 → Option β} (h : MdAt N S R m) (hj : j < 400) : rI (N, SL, S, R, I, J) .int (m + 15) (nI j) k = k (I (m + 15) j) := rI_mk (md_holdAccount h).2.2.1 (md_holdAccount h).2.1 hj (by decide)
theorem md_w15 {k : Mem → Option β} {x : Int32} (h : MdAt N S R m) (hj : j < 400) : wI (N, SL, S, R, I, J) .int (m + 15) (nI j) x k = k (N, SL, S, R, u2 I (m + 15) j x, J) := by rw [wI_mk (md_holdAccount h).2.2.1 (md_holdAccount h).2.2.2 (md_holdAccount h).2.1 hj (by decide), vp_narI]
theorem md_f15 {k : Nat → Option β} (h : MdAt N S R m) : gR (N, SL, S, R, I, J) 9 15 m k = k (m + 16) := gR_mk h.1 (md_holdAmount h).1
theorem md_r16 {k : Int64 → Option β} (h : MdAt N S R m) (hj : j < 400) : rJ (N, SL, S, R, I, J) (m + 16) (nI j) k = k (J (m + 16) j) := rJ_mk (md_holdAmount h).2.2.1 (md_holdAmount h).2.1 hj (by decide)
theorem md_w16 {k : Mem → Option β} {x : Int64} (h : MdAt N S R m) (hj : j < 400) : wJ (N, SL, S, R, I, J) (m + 16) (nI j) x k = k (N, SL, S, R, I, u2 J (m + 16) j x) := wJ_mk (md_holdAmount h).2.2.1 (md_holdAmount h).2.2.2 (md_holdAmount h).2.1 hj (by decide)
theorem md_f16 {k : Nat → Option β} (h : MdAt N S R m) : gR (N, SL, S, R, I, J) 9 16 m k = k (m + 17) := gR_mk h.1 (md_isThere h).1
theorem md_r17 {k : Int32 → Option β} (h : MdAt N S R m) (hj : j < 400) : rI (N, SL, S, R, I, J) .boolean (m + 17) (nI j) k = k (I (m + 17) j) := rI_mk (md_isThere h).2.2.1 (md_isThere h).2.1 hj (by decide)
theorem md_w17 {k : Mem → Option β} {x : Int32} (h : MdAt N S R m) (hj : j < 400) : wI (N, SL, S, R, I, J) .boolean (m + 17) (nI j) x k = k (N, SL, S, R, u2 I (m + 17) j (vp_nar .boolean x), J) := wI_mk (md_isThere h).2.2.1 (md_isThere h).2.2.2 (md_isThere h).2.1 hj (by decide)
theorem md_f17 {k : Nat → Option β} (h : MdAt N S R m) : gR (N, SL, S, R, I, J) 9 17 m k = k (m + 18) := gR_mk h.1 (md_endedBy h).1
theorem md_r18 {k : Int32 → Option β} (h : MdAt N S R m) (hj : j < 400) : rI (N, SL, S, R, I, J) .int (m + 18) (nI j) k = k (I (m + 18) j) := rI_mk (md_endedBy h).2.2.1 (md_endedBy h).2.1 hj (by decide)
theorem md_w18 {k : Mem → Option β} {x : Int32} (h : MdAt N S R m) (hj : j < 400) : wI (N, SL, S, R, I, J) .int (m + 18) (nI j) x k = k (N, SL, S, R, u2 I (m + 18) j x, J) := by rw [wI_mk (md_endedBy h).2.2.1 (md_endedBy h).2.2.2 (md_endedBy h).2.1 hj (by decide), vp_narI]
theorem md_f18 {k : Nat → Option β} (h : MdAt N S R m) : gR (N, SL, S, R, I, J) 9 18 m k = k (m + 19) := gR_mk h.1 (md_data h).1
theorem md_r19 {k : Int32 → Option β} (h : MdAt N S R m) (hj : j < 17000) : rI (N, SL, S, R, I, J) .int (m + 19) (nI j) k = k (I (m + 19) j) := rI_mk (md_data h).2.2.1 (md_data h).2.1 hj (by decide)
theorem md_w19 {k : Mem → Option β} {x : Int32} (h : MdAt N S R m) (hj : j < 17000) : wI (N, SL, S, R, I, J) .int (m + 19) (nI j) x k = k (N, SL, S, R, u2 I (m + 19) j x, J) := by rw [wI_mk (md_data h).2.2.1 (md_data h).2.2.2 (md_data h).2.1 hj (by decide), vp_narI]
theorem md_f19 {k : Nat → Option β} (h : MdAt N S R m) : gR (N, SL, S, R, I, J) 9 19 m k = k (m + 20) := gR_mk h.1 (md_made h).1
theorem md_r20 {k : Int32 → Option β} (h : MdAt N S R m) (hj : j < 17000) : rI (N, SL, S, R, I, J) .int (m + 20) (nI j) k = k (I (m + 20) j) := rI_mk (md_made h).2.2.1 (md_made h).2.1 hj (by decide)
theorem md_w20 {k : Mem → Option β} {x : Int32} (h : MdAt N S R m) (hj : j < 17000) : wI (N, SL, S, R, I, J) .int (m + 20) (nI j) x k = k (N, SL, S, R, u2 I (m + 20) j x, J) := by rw [wI_mk (md_made h).2.2.1 (md_made h).2.2.2 (md_made h).2.1 hj (by decide), vp_narI]
theorem md_f21 {k : Nat → Option β} (h : MdAt N S R m) : gR (N, SL, S, R, I, J) 9 21 m k = k (m + 21) := gR_mk h.1 (md_begin h).1
theorem md_r21 {k : Int32 → Option β} (h : MdAt N S R m) (hj : j < 200) : rI (N, SL, S, R, I, J) .int (m + 21) (nI j) k = k (I (m + 21) j) := rI_mk (md_begin h).2.2.1 (md_begin h).2.1 hj (by decide)
theorem md_w21 {k : Mem → Option β} {x : Int32} (h : MdAt N S R m) (hj : j < 200) : wI (N, SL, S, R, I, J) .int (m + 21) (nI j) x k = k (N, SL, S, R, u2 I (m + 21) j x, J) := by rw [wI_mk (md_begin h).2.2.1 (md_begin h).2.2.2 (md_begin h).2.1 hj (by decide), vp_narI]
theorem md_f22 {k : Nat → Option β} (h : MdAt N S R m) : gR (N, SL, S, R, I, J) 9 22 m k = k (m + 22) := gR_mk h.1 (md_size h).1
theorem md_r22 {k : Int32 → Option β} (h : MdAt N S R m) (hj : j < 200) : rI (N, SL, S, R, I, J) .int (m + 22) (nI j) k = k (I (m + 22) j) := rI_mk (md_size h).2.2.1 (md_size h).2.1 hj (by decide)
theorem md_w22 {k : Mem → Option β} {x : Int32} (h : MdAt N S R m) (hj : j < 200) : wI (N, SL, S, R, I, J) .int (m + 22) (nI j) x k = k (N, SL, S, R, u2 I (m + 22) j x, J) := by rw [wI_mk (md_size h).2.2.1 (md_size h).2.2.2 (md_size h).2.1 hj (by decide), vp_narI]
theorem md_f23 {k : Nat → Option β} (h : MdAt N S R m) : gR (N, SL, S, R, I, J) 9 23 m k = k (m + 23) := gR_mk h.1 (md_toldAt h).1
theorem md_r23 {k : Int32 → Option β} (h : MdAt N S R m) (hj : j < 210) : rI (N, SL, S, R, I, J) .int (m + 23) (nI j) k = k (I (m + 23) j) := rI_mk (md_toldAt h).2.2.1 (md_toldAt h).2.1 hj (by decide)
theorem md_w23 {k : Mem → Option β} {x : Int32} (h : MdAt N S R m) (hj : j < 210) : wI (N, SL, S, R, I, J) .int (m + 23) (nI j) x k = k (N, SL, S, R, u2 I (m + 23) j x, J) := by rw [wI_mk (md_toldAt h).2.2.1 (md_toldAt h).2.2.2 (md_toldAt h).2.1 hj (by decide), vp_narI]
theorem md_f24 {k : Nat → Option β} (h : MdAt N S R m) : gR (N, SL, S, R, I, J) 9 24 m k = k (m + 24) := gR_mk h.1 (md_toldEvery h).1
theorem md_r24 {k : Int32 → Option β} (h : MdAt N S R m) (hj : j < 210) : rI (N, SL, S, R, I, J) .int (m + 24) (nI j) k = k (I (m + 24) j) := rI_mk (md_toldEvery h).2.2.1 (md_toldEvery h).2.1 hj (by decide)
theorem md_w24 {k : Mem → Option β} {x : Int32} (h : MdAt N S R m) (hj : j < 210) : wI (N, SL, S, R, I, J) .int (m + 24) (nI j) x k = k (N, SL, S, R, u2 I (m + 24) j x, J) := by rw [wI_mk (md_toldEvery h).2.2.1 (md_toldEvery h).2.2.2 (md_toldEvery h).2.1 hj (by decide), vp_narI]
theorem md_f32 {k : Nat → Option β} (h : MdAt N S R m) : gR (N, SL, S, R, I, J) 9 32 m k = k (m + 25) := gR_mk h.1 (md_cLegAccount h).1
theorem md_r25 {k : Int32 → Option β} (h : MdAt N S R m) (hj : j < 8) : rI (N, SL, S, R, I, J) .int (m + 25) (nI j) k = k (I (m + 25) j) := rI_mk (md_cLegAccount h).2.2.1 (md_cLegAccount h).2.1 hj (by decide)
theorem md_w25 {k : Mem → Option β} {x : Int32} (h : MdAt N S R m) (hj : j < 8) : wI (N, SL, S, R, I, J) .int (m + 25) (nI j) x k = k (N, SL, S, R, u2 I (m + 25) j x, J) := by rw [wI_mk (md_cLegAccount h).2.2.1 (md_cLegAccount h).2.2.2 (md_cLegAccount h).2.1 hj (by decide), vp_narI]
theorem md_f33 {k : Nat → Option β} (h : MdAt N S R m) : gR (N, SL, S, R, I, J) 9 33 m k = k (m + 26) := gR_mk h.1 (md_cLegAmount h).1
theorem md_r26 {k : Int64 → Option β} (h : MdAt N S R m) (hj : j < 8) : rJ (N, SL, S, R, I, J) (m + 26) (nI j) k = k (J (m + 26) j) := rJ_mk (md_cLegAmount h).2.2.1 (md_cLegAmount h).2.1 hj (by decide)
theorem md_w26 {k : Mem → Option β} {x : Int64} (h : MdAt N S R m) (hj : j < 8) : wJ (N, SL, S, R, I, J) (m + 26) (nI j) x k = k (N, SL, S, R, I, u2 J (m + 26) j x) := wJ_mk (md_cLegAmount h).2.2.1 (md_cLegAmount h).2.2.2 (md_cLegAmount h).2.1 hj (by decide)
theorem md_f34 {k : Nat → Option β} (h : MdAt N S R m) : gR (N, SL, S, R, I, J) 9 34 m k = k (m + 27) := gR_mk h.1 (md_row h).1
theorem md_r27 {k : Int32 → Option β} (h : MdAt N S R m) (hj : j < 100) : rI (N, SL, S, R, I, J) .int (m + 27) (nI j) k = k (I (m + 27) j) := rI_mk (md_row h).2.2.1 (md_row h).2.1 hj (by decide)
theorem md_w27 {k : Mem → Option β} {x : Int32} (h : MdAt N S R m) (hj : j < 100) : wI (N, SL, S, R, I, J) .int (m + 27) (nI j) x k = k (N, SL, S, R, u2 I (m + 27) j x, J) := by rw [wI_mk (md_row h).2.2.1 (md_row h).2.2.2 (md_row h).2.1 hj (by decide), vp_narI]
theorem md_f36 {k : Nat → Option β} (h : MdAt N S R m) : gR (N, SL, S, R, I, J) 9 36 m k = k (m + 28) := gR_mk h.1 (md_after h).1
theorem md_r28 {k : Int64 → Option β} (h : MdAt N S R m) (hj : j < 40) : rJ (N, SL, S, R, I, J) (m + 28) (nI j) k = k (J (m + 28) j) := rJ_mk (md_after h).2.2.1 (md_after h).2.1 hj (by decide)
theorem md_w28 {k : Mem → Option β} {x : Int64} (h : MdAt N S R m) (hj : j < 40) : wJ (N, SL, S, R, I, J) (m + 28) (nI j) x k = k (N, SL, S, R, I, u2 J (m + 28) j x) := wJ_mk (md_after h).2.2.1 (md_after h).2.2.2 (md_after h).2.1 hj (by decide)
theorem md_f38 {k : Nat → Option β} (h : MdAt N S R m) : gR (N, SL, S, R, I, J) 9 38 m k = k (m + 29) := gR_mk h.1 (md_toldAccount h).1
theorem md_r29 {k : Int32 → Option β} (h : MdAt N S R m) (hj : j < 8) : rI (N, SL, S, R, I, J) .int (m + 29) (nI j) k = k (I (m + 29) j) := rI_mk (md_toldAccount h).2.2.1 (md_toldAccount h).2.1 hj (by decide)
theorem md_w29 {k : Mem → Option β} {x : Int32} (h : MdAt N S R m) (hj : j < 8) : wI (N, SL, S, R, I, J) .int (m + 29) (nI j) x k = k (N, SL, S, R, u2 I (m + 29) j x, J) := by rw [wI_mk (md_toldAccount h).2.2.1 (md_toldAccount h).2.2.2 (md_toldAccount h).2.1 hj (by decide), vp_narI]
theorem md_f39 {k : Nat → Option β} (h : MdAt N S R m) : gR (N, SL, S, R, I, J) 9 39 m k = k (m + 30) := gR_mk h.1 (md_toldAmount h).1
theorem md_r30 {k : Int64 → Option β} (h : MdAt N S R m) (hj : j < 8) : rJ (N, SL, S, R, I, J) (m + 30) (nI j) k = k (J (m + 30) j) := rJ_mk (md_toldAmount h).2.2.1 (md_toldAmount h).2.1 hj (by decide)
theorem md_w30 {k : Mem → Option β} {x : Int64} (h : MdAt N S R m) (hj : j < 8) : wJ (N, SL, S, R, I, J) (m + 30) (nI j) x k = k (N, SL, S, R, I, u2 J (m + 30) j x) := wJ_mk (md_toldAmount h).2.2.1 (md_toldAmount h).2.2.2 (md_toldAmount h).2.1 hj (by decide)
theorem md_f40 {k : Nat → Option β} (h : MdAt N S R m) : gR (N, SL, S, R, I, J) 9 40 m k = k (m + 31) := gR_mk h.1 (md_rounds h).1
theorem md_r31 {k : Int32 → Option β} (h : MdAt N S R m) (hj : j < 64) : rI (N, SL, S, R, I, J) .int (m + 31) (nI j) k = k (I (m + 31) j) := rI_mk (md_rounds h).2.2.1 (md_rounds h).2.1 hj (by decide)
theorem md_w31 {k : Mem → Option β} {x : Int32} (h : MdAt N S R m) (hj : j < 64) : wI (N, SL, S, R, I, J) .int (m + 31) (nI j) x k = k (N, SL, S, R, u2 I (m + 31) j x, J) := by rw [wI_mk (md_rounds h).2.2.1 (md_rounds h).2.2.2 (md_rounds h).2.1 hj (by decide), vp_narI]
theorem md_f41 {k : Nat → Option β} (h : MdAt N S R m) : gR (N, SL, S, R, I, J) 9 41 m k = k (m + 32) := gR_mk h.1 (md_message h).1
theorem md_r32 {k : Int32 → Option β} (h : MdAt N S R m) (hj : j < 256) : rI (N, SL, S, R, I, J) .int (m + 32) (nI j) k = k (I (m + 32) j) := rI_mk (md_message h).2.2.1 (md_message h).2.1 hj (by decide)
theorem md_w32 {k : Mem → Option β} {x : Int32} (h : MdAt N S R m) (hj : j < 256) : wI (N, SL, S, R, I, J) .int (m + 32) (nI j) x k = k (N, SL, S, R, u2 I (m + 32) j x, J) := by rw [wI_mk (md_message h).2.2.1 (md_message h).2.2.2 (md_message h).2.1 hj (by decide), vp_narI]
theorem md_f43 {k : Nat → Option β} (h : MdAt N S R m) : gR (N, SL, S, R, I, J) 9 43 m k = k (m + 33) := gR_mk h.1 (md_words h).1
theorem md_r33 {k : Int32 → Option β} (h : MdAt N S R m) (hj : j < 64) : rI (N, SL, S, R, I, J) .int (m + 33) (nI j) k = k (I (m + 33) j) := rI_mk (md_words h).2.2.1 (md_words h).2.1 hj (by decide)
theorem md_w33 {k : Mem → Option β} {x : Int32} (h : MdAt N S R m) (hj : j < 64) : wI (N, SL, S, R, I, J) .int (m + 33) (nI j) x k = k (N, SL, S, R, u2 I (m + 33) j x, J) := by rw [wI_mk (md_words h).2.2.1 (md_words h).2.2.2 (md_words h).2.1 hj (by decide), vp_narI]
theorem md_f44 {k : Nat → Option β} (h : MdAt N S R m) : gR (N, SL, S, R, I, J) 9 44 m k = k (m + 34) := gR_mk h.1 (md_state h).1
theorem md_r34 {k : Int32 → Option β} (h : MdAt N S R m) (hj : j < 8) : rI (N, SL, S, R, I, J) .int (m + 34) (nI j) k = k (I (m + 34) j) := rI_mk (md_state h).2.2.1 (md_state h).2.1 hj (by decide)
theorem md_w34 {k : Mem → Option β} {x : Int32} (h : MdAt N S R m) (hj : j < 8) : wI (N, SL, S, R, I, J) .int (m + 34) (nI j) x k = k (N, SL, S, R, u2 I (m + 34) j x, J) := by rw [wI_mk (md_state h).2.2.1 (md_state h).2.2.2 (md_state h).2.1 hj (by decide), vp_narI]
theorem md_f45 {k : Nat → Option β} (h : MdAt N S R m) : gR (N, SL, S, R, I, J) 9 45 m k = k (m + 35) := gR_mk h.1 (md_hash h).1
theorem md_r35 {k : Int32 → Option β} (h : MdAt N S R m) (hj : j < 32) : rI (N, SL, S, R, I, J) .int (m + 35) (nI j) k = k (I (m + 35) j) := rI_mk (md_hash h).2.2.1 (md_hash h).2.1 hj (by decide)
theorem md_w35 {k : Mem → Option β} {x : Int32} (h : MdAt N S R m) (hj : j < 32) : wI (N, SL, S, R, I, J) .int (m + 35) (nI j) x k = k (N, SL, S, R, u2 I (m + 35) j x, J) := by rw [wI_mk (md_hash h).2.2.1 (md_hash h).2.2.2 (md_hash h).2.1 hj (by decide), vp_narI]
theorem md_f46 {k : Nat → Option β} (h : MdAt N S R m) : gR (N, SL, S, R, I, J) 9 46 m k = k (m + 36) := gR_mk h.1 (md_waits h).1
theorem md_r36 {k : Int32 → Option β} (h : MdAt N S R m) (hj : j < 512) : rI (N, SL, S, R, I, J) .int (m + 36) (nI j) k = k (I (m + 36) j) := rI_mk (md_waits h).2.2.1 (md_waits h).2.1 hj (by decide)
theorem md_w36 {k : Mem → Option β} {x : Int32} (h : MdAt N S R m) (hj : j < 512) : wI (N, SL, S, R, I, J) .int (m + 36) (nI j) x k = k (N, SL, S, R, u2 I (m + 36) j x, J) := by rw [wI_mk (md_waits h).2.2.1 (md_waits h).2.2.2 (md_waits h).2.1 hj (by decide), vp_narI]
theorem md_f47 {k : Nat → Option β} (h : MdAt N S R m) : gR (N, SL, S, R, I, J) 9 47 m k = k (m + 37) := gR_mk h.1 (md_waitSize h).1
theorem md_r37 {k : Int32 → Option β} (h : MdAt N S R m) (hj : j < 16) : rI (N, SL, S, R, I, J) .int (m + 37) (nI j) k = k (I (m + 37) j) := rI_mk (md_waitSize h).2.2.1 (md_waitSize h).2.1 hj (by decide)
theorem md_w37 {k : Mem → Option β} {x : Int32} (h : MdAt N S R m) (hj : j < 16) : wI (N, SL, S, R, I, J) .int (m + 37) (nI j) x k = k (N, SL, S, R, u2 I (m + 37) j x, J) := by rw [wI_mk (md_waitSize h).2.2.1 (md_waitSize h).2.2.2 (md_waitSize h).2.1 hj (by decide), vp_narI]
theorem md_f48 {k : Nat → Option β} (h : MdAt N S R m) : gR (N, SL, S, R, I, J) 9 48 m k = k (m + 38) := gR_mk h.1 (md_headMany h).1
theorem md_r38 {k : Int32 → Option β} (h : MdAt N S R m) (hj : j < 8) : rI (N, SL, S, R, I, J) .int (m + 38) (nI j) k = k (I (m + 38) j) := rI_mk (md_headMany h).2.2.1 (md_headMany h).2.1 hj (by decide)
theorem md_w38 {k : Mem → Option β} {x : Int32} (h : MdAt N S R m) (hj : j < 8) : wI (N, SL, S, R, I, J) .int (m + 38) (nI j) x k = k (N, SL, S, R, u2 I (m + 38) j x, J) := by rw [wI_mk (md_headMany h).2.2.1 (md_headMany h).2.2.2 (md_headMany h).2.1 hj (by decide), vp_narI]
theorem md_f49 {k : Nat → Option β} (h : MdAt N S R m) : gR (N, SL, S, R, I, J) 9 49 m k = k (m + 39) := gR_mk h.1 (md_isKept h).1
theorem md_r39 {k : Int32 → Option β} (h : MdAt N S R m) (hj : j < 8) : rI (N, SL, S, R, I, J) .boolean (m + 39) (nI j) k = k (I (m + 39) j) := rI_mk (md_isKept h).2.2.1 (md_isKept h).2.1 hj (by decide)
theorem md_w39 {k : Mem → Option β} {x : Int32} (h : MdAt N S R m) (hj : j < 8) : wI (N, SL, S, R, I, J) .boolean (m + 39) (nI j) x k = k (N, SL, S, R, u2 I (m + 39) j (vp_nar .boolean x), J) := wI_mk (md_isKept h).2.2.1 (md_isKept h).2.2.2 (md_isKept h).2.1 hj (by decide)
theorem md_f50 {k : Nat → Option β} (h : MdAt N S R m) : gR (N, SL, S, R, I, J) 9 50 m k = k (m + 40) := gR_mk h.1 (md_headChain h).1
theorem md_r40 {k : Int32 → Option β} (h : MdAt N S R m) (hj : j < 256) : rI (N, SL, S, R, I, J) .int (m + 40) (nI j) k = k (I (m + 40) j) := rI_mk (md_headChain h).2.2.1 (md_headChain h).2.1 hj (by decide)
theorem md_w40 {k : Mem → Option β} {x : Int32} (h : MdAt N S R m) (hj : j < 256) : wI (N, SL, S, R, I, J) .int (m + 40) (nI j) x k = k (N, SL, S, R, u2 I (m + 40) j x, J) := by rw [wI_mk (md_headChain h).2.2.1 (md_headChain h).2.2.2 (md_headChain h).2.1 hj (by decide), vp_narI]
theorem md_f51 {k : Nat → Option β} (h : MdAt N S R m) : gR (N, SL, S, R, I, J) 9 51 m k = k (m + 41) := gR_mk h.1 (md_headTree h).1
theorem md_r41 {k : Int32 → Option β} (h : MdAt N S R m) (hj : j < 256) : rI (N, SL, S, R, I, J) .int (m + 41) (nI j) k = k (I (m + 41) j) := rI_mk (md_headTree h).2.2.1 (md_headTree h).2.1 hj (by decide)
theorem md_w41 {k : Mem → Option β} {x : Int32} (h : MdAt N S R m) (hj : j < 256) : wI (N, SL, S, R, I, J) .int (m + 41) (nI j) x k = k (N, SL, S, R, u2 I (m + 41) j x, J) := by rw [wI_mk (md_headTree h).2.2.1 (md_headTree h).2.2.2 (md_headTree h).2.1 hj (by decide), vp_narI]
theorem md_f56 {k : Nat → Option β} (h : MdAt N S R m) : gR (N, SL, S, R, I, J) 9 56 m k = k (m + 42) := gR_mk h.1 (md_stepHash h).1
theorem md_r42 {k : Int32 → Option β} (h : MdAt N S R m) (hj : j < 1024) : rI (N, SL, S, R, I, J) .int (m + 42) (nI j) k = k (I (m + 42) j) := rI_mk (md_stepHash h).2.2.1 (md_stepHash h).2.1 hj (by decide)
theorem md_w42 {k : Mem → Option β} {x : Int32} (h : MdAt N S R m) (hj : j < 1024) : wI (N, SL, S, R, I, J) .int (m + 42) (nI j) x k = k (N, SL, S, R, u2 I (m + 42) j x, J) := by rw [wI_mk (md_stepHash h).2.2.1 (md_stepHash h).2.2.2 (md_stepHash h).2.1 hj (by decide), vp_narI]
theorem md_f57 {k : Nat → Option β} (h : MdAt N S R m) : gR (N, SL, S, R, I, J) 9 57 m k = k (m + 43) := gR_mk h.1 (md_isLeft h).1
theorem md_r43 {k : Int32 → Option β} (h : MdAt N S R m) (hj : j < 16) : rI (N, SL, S, R, I, J) .boolean (m + 43) (nI j) k = k (I (m + 43) j) := rI_mk (md_isLeft h).2.2.1 (md_isLeft h).2.1 hj (by decide)
theorem md_w43 {k : Mem → Option β} {x : Int32} (h : MdAt N S R m) (hj : j < 16) : wI (N, SL, S, R, I, J) .boolean (m + 43) (nI j) x k = k (N, SL, S, R, u2 I (m + 43) j (vp_nar .boolean x), J) := wI_mk (md_isLeft h).2.2.1 (md_isLeft h).2.2.2 (md_isLeft h).2.1 hj (by decide)
theorem md_f58 {k : Nat → Option β} (h : MdAt N S R m) : gR (N, SL, S, R, I, J) 9 58 m k = k (m + 44) := gR_mk h.1 (md_sideFrom h).1
theorem md_r44 {k : Int32 → Option β} (h : MdAt N S R m) (hj : j < 16) : rI (N, SL, S, R, I, J) .int (m + 44) (nI j) k = k (I (m + 44) j) := rI_mk (md_sideFrom h).2.2.1 (md_sideFrom h).2.1 hj (by decide)
theorem md_w44 {k : Mem → Option β} {x : Int32} (h : MdAt N S R m) (hj : j < 16) : wI (N, SL, S, R, I, J) .int (m + 44) (nI j) x k = k (N, SL, S, R, u2 I (m + 44) j x, J) := by rw [wI_mk (md_sideFrom h).2.2.1 (md_sideFrom h).2.2.2 (md_sideFrom h).2.1 hj (by decide), vp_narI]
theorem md_f59 {k : Nat → Option β} (h : MdAt N S R m) : gR (N, SL, S, R, I, J) 9 59 m k = k (m + 45) := gR_mk h.1 (md_sideTo h).1
theorem md_r45 {k : Int32 → Option β} (h : MdAt N S R m) (hj : j < 16) : rI (N, SL, S, R, I, J) .int (m + 45) (nI j) k = k (I (m + 45) j) := rI_mk (md_sideTo h).2.2.1 (md_sideTo h).2.1 hj (by decide)
theorem md_w45 {k : Mem → Option β} {x : Int32} (h : MdAt N S R m) (hj : j < 16) : wI (N, SL, S, R, I, J) .int (m + 45) (nI j) x k = k (N, SL, S, R, u2 I (m + 45) j x, J) := by rw [wI_mk (md_sideTo h).2.2.1 (md_sideTo h).2.2.2 (md_sideTo h).2.1 hj (by decide), vp_narI]
theorem md_f64 {k : Nat → Option β} (h : MdAt N S R m) : gR (N, SL, S, R, I, J) 9 64 m k = k (m + 46) := gR_mk h.1 (md_older h).1
theorem md_r46 {k : Int32 → Option β} (h : MdAt N S R m) (hj : j < 32) : rI (N, SL, S, R, I, J) .int (m + 46) (nI j) k = k (I (m + 46) j) := rI_mk (md_older h).2.2.1 (md_older h).2.1 hj (by decide)
theorem md_w46 {k : Mem → Option β} {x : Int32} (h : MdAt N S R m) (hj : j < 32) : wI (N, SL, S, R, I, J) .int (m + 46) (nI j) x k = k (N, SL, S, R, u2 I (m + 46) j x, J) := by rw [wI_mk (md_older h).2.2.1 (md_older h).2.2.2 (md_older h).2.1 hj (by decide), vp_narI]
theorem md_f65 {k : Nat → Option β} (h : MdAt N S R m) : gR (N, SL, S, R, I, J) 9 65 m k = k (m + 47) := gR_mk h.1 (md_newer h).1
theorem md_r47 {k : Int32 → Option β} (h : MdAt N S R m) (hj : j < 32) : rI (N, SL, S, R, I, J) .int (m + 47) (nI j) k = k (I (m + 47) j) := rI_mk (md_newer h).2.2.1 (md_newer h).2.1 hj (by decide)
theorem md_w47 {k : Mem → Option β} {x : Int32} (h : MdAt N S R m) (hj : j < 32) : wI (N, SL, S, R, I, J) .int (m + 47) (nI j) x k = k (N, SL, S, R, u2 I (m + 47) j x, J) := by rw [wI_mk (md_newer h).2.2.1 (md_newer h).2.2.2 (md_newer h).2.1 hj (by decide), vp_narI]
end Rules
