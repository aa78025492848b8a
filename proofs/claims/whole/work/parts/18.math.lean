/-! the mathematics: numbers, places, memories -/
theorem zm_nn {k : Nat} (h : k < 2 ^ 31) : ¬ Int32.ofNat k < 0 := Int32.not_lt.mpr (Int32.zero_le_ofNat_of_lt h)
theorem zm_ix {n k : Nat} (h : k < n) (hk : k < 2 ^ 31) : zx_ix n (Int32.ofNat k) = some k := by
  unfold zx_ix
  rw [Int32.toNatClampNeg_ofNat_of_lt hk, if_neg]
  rintro (h1 | h1)
  · exact zm_nn hk h1
  · omega
theorem zm_ex {v : Int32} (h0 : 0 ≤ v) : ∃ k, k < 2 ^ 31 ∧ v = Int32.ofNat k := ⟨v.toNatClampNeg, v.toNatClampNeg_lt, (Int32.ofNat_toNatClampNeg v h0).symm⟩
theorem zm_beq {r q : Nat} (h : ¬ r = q) : Nat.beq r q = false := Bool.eq_false_iff.mpr (fun h2 => h (Nat.eq_of_beq_eq_true h2))
theorem zm_u11 (m : zx_M) (q k : Nat) (x : Int32) (r : Nat) : (zx_u1 m q k x).1 r = if r = q then upd (m.1 q) k x else m.1 r := by
  by_cases h : r = q
  · subst h; simp [zx_u1, zx_w1, Nat.beq_refl]
  · simp [zx_u1, zx_w1, h, zm_beq h]
theorem zm_u12 (m : zx_M) (q k : Nat) (x : Int32) : (zx_u1 m q k x).2 = m.2 := rfl
theorem zm_u21 (m : zx_M) (q k : Nat) (x : Int64) : (zx_u2 m q k x).1 = m.1 := rfl
theorem zm_u22 (m : zx_M) (q k : Nat) (x : Int64) (r : Nat) : (zx_u2 m q k x).2 r = if r = q then vp_updL (m.2 q) k x else m.2 r := by
  by_cases h : r = q
  · subst h; simp [zx_u2, zx_w2, Nat.beq_refl]
  · simp [zx_u2, zx_w2, h, zm_beq h]
theorem zm_w11 (m : zx_M) (q : Nat) (f : Nat → Int32) (r : Nat) : (zx_w1 m q f).1 r = if r = q then f else m.1 r := by
  by_cases h : r = q
  · subst h; simp [zx_w1, Nat.beq_refl]
  · simp [zx_w1, h, zm_beq h]
theorem zm_w12 (m : zx_M) (q : Nat) (f : Nat → Int32) : (zx_w1 m q f).2 = m.2 := rfl
theorem zm_w21 (m : zx_M) (q : Nat) (f : Nat → Int64) : (zx_w2 m q f).1 = m.1 := rfl
theorem zm_w22 (m : zx_M) (q : Nat) (f : Nat → Int64) (r : Nat) : (zx_w2 m q f).2 r = if r = q then f else m.2 r := by
  by_cases h : r = q
  · subst h; simp [zx_w2, Nat.beq_refl]
  · simp [zx_w2, h, zm_beq h]
theorem zm_upd (f : Nat → Int32) (k : Nat) (x : Int32) (j : Nat) : upd f k x j = if j = k then x else f j := rfl
theorem zm_updL (f : Nat → Int64) (k : Nat) (x : Int64) (j : Nat) : vp_updL f k x j = if j = k then x else f j := rfl
theorem zm_g {k : Nat} (h : k < 2147483648) : Lean.Grind.ToInt.toInt (Int32.ofNat k) = (k : Int) := Int32.toInt_ofNat_of_lt h
theorem zm_gl (v : Int32) : Lean.Grind.ToInt.toInt v.toInt64 = Lean.Grind.ToInt.toInt v := Int32.toInt_toInt64 v
theorem zm_in {v : Int32} {n : Nat} (hn : n < 2147483648) (h : ¬ v < 0) (h1 : ¬ Int32.ofNat n ≤ v) : ∃ k, k < n ∧ v = Int32.ofNat k := by
  obtain ⟨k, hk, rfl⟩ := zm_ex (v := v) (by grind)
  exact ⟨k, by grind [zm_g], rfl⟩
theorem zm_le64 {a b : Int32} : a.toInt64 ≤ b.toInt64 ↔ a ≤ b := by grind [zm_gl]
theorem zm_within (v l h : Int32) (m : zx_M) : f_M_within v.toInt64 l.toInt64 h.toInt64 m = some (if l ≤ v ∧ v ≤ h then 1 else 0) := by
  unfold f_M_within lg_cmp
  grind [zm_gl]
/-- the numbers' ranges, in the reference's places -/
def zm_rng (n : Int32) (f : Nat → Int32) : Prop := (∀ j < 7, Int32.ofNat j < n → (1 ≤ f j ∧ f j ≤ 9) ∧ (0 ≤ f (7 + j) ∧ f (7 + j) ≤ 9) ∧ (0 ≤ f (14 + j) ∧ f (14 + j) ≤ 1) ∧ 0 ≤ f (21 + j) ∧ f (21 + j) ≤ 12) ∧ (∀ j < 7, ¬ Int32.ofNat j < n → f (21 + j) = 0) ∧ -999 ≤ f 28 ∧ f 28 ≤ f 29 ∧ f 29 ≤ 999
/-- numbers: class's fields against the reference's -/
def zm_RN (n : Int32) (t : Nat → Int32) (s : Nat → Int32) (n' : Int32) (f : Nat → Int32) : Prop := (∃ k : Nat, k ≤ 7 ∧ n = Int32.ofNat k ∧ n' = Int32.ofNat k) ∧ zm_rng n' f ∧ (∀ k < 8, t k = f (28 + k)) ∧ ∀ j < 7, ∀ w < 4, s (4 * j + w) = f (7 * w + j)
/-- the kept changes, and that going back and forth among them stays among numbers that may be -/
def zm_RK (d k : Int32) (wo wt ws bc : Nat → Int32) (d' k' : Int32) (at' ws' is' : Nat → Int32) (nj : Int32) (f : Nat → Int32) : Prop := ∃ (x y : Nat) (p : Nat → Nat) (F : Nat → Nat → Int32), x ≤ y ∧ y ≤ 40 ∧ d = Int32.ofNat x ∧ k = Int32.ofNat y ∧ d' = Int32.ofNat x ∧ k' = Int32.ofNat y ∧ (∀ i ≤ y, zm_rng nj (F i)) ∧ (∀ q < 36, F x q = f q) ∧ ∀ i < y, ws i = ws' i ∧ bc i = is' i ∧ at' i = Int32.ofNat (p i) ∧ (∀ q < 36, F (i + 1) q = if q = p i then is' i else F i q) ∧ F i (p i) = ws' i ∧ ((28 ≤ p i ∧ p i < 36 ∧ wo i = 0 ∧ wt i = Int32.ofNat (p i - 24)) ∨ ∃ j w : Nat, j < 7 ∧ w < 4 ∧ Int32.ofNat j < nj ∧ p i = 7 * w + j ∧ wo i = Int32.ofNat j ∧ wt i = Int32.ofNat w)
def zm_RT (n : Int32) (b : Nat → Int32) (n' : Int32) (b' : Nat → Int32) : Prop := ∃ k : Nat, k ≤ 120 ∧ n = Int32.ofNat k ∧ n' = Int32.ofNat k ∧ ∀ i < k, b i = b' i ∧ 0 ≤ b' i ∧ b' i ≤ 255
def zm_RL (V : Nat → (Nat → Int32) → Prop) (n : Int32) (b : Nat → Int32) (n' : Int32) (b' : Nat → Int32) : Prop := (n = 0 ∧ n' = -1) ∨ ∃ k : Nat, 0 < k ∧ k ≤ 120 ∧ n = Int32.ofNat k ∧ n' = Int32.ofNat k ∧ V k b' ∧ ∀ i < k, b i = b' i ∧ 0 ≤ b' i ∧ b' i ≤ 255
def zm_RS (h s : Nat → Int32) (it : Nat → Int64) (h' s' : Nat → Int32) (it' : Nat → Int64) (nb : Int32) : Prop := ∀ d < 6, (h d = -1 ∧ s d = 0 ∧ h' d = -1 ∧ s' d = 0) ∨ (∃ w : Nat, w < 50 ∧ Int32.ofNat w < nb ∧ h d = -2 ∧ s d = Int32.ofNat w ∧ h' d = Int32.ofNat w ∧ s' d = 0) ∨ ∃ t n : Nat, t < 5 ∧ n ≤ 60 ∧ h d = Int32.ofNat t ∧ s d = Int32.ofNat n ∧ h' d = Int32.ofNat (50 + t) ∧ s' d = Int32.ofNat n ∧ ∀ i < n, it (60 * d + i) = it' (60 * d + i) ∧ (t = 0 → -128 ≤ it' (60 * d + i) ∧ it' (60 * d + i) ≤ 127)
/-- those gone: who meets whom -/
def zm_meets (n : Nat) (se dw : Nat → Int32) (k : Nat) : Prop := ∃ o < n, ¬ o = k ∧ zx_abs (dw o - dw k) ≤ 10 ∧ zx_abs (se o - se k) ≤ 4
def zm_RD (o gone : Nat → Int32) (jn : Int32) (js jy jm : Nat → Int32) (isOn onM onY onS ld lj lg lf lw : Int32) (ow os od : Nat → Int32) : Prop := o 3 = isOn ∧ (isOn = 0 ∨ isOn = 1) ∧ o 4 = onY ∧ o 5 = onS ∧ o 6 = ld ∧ o 7 = lj ∧ o 8 = lg ∧ o 9 = lf ∧ o 10 = lw ∧ (lw = -2 ∨ 0 ≤ lw) ∧ (∀ j < 7, gone j = 0 ∨ gone j = 1) ∧ (∀ k < 7, jm k = 0 ∨ jm k = 1) ∧ ∃ (n : Nat) (g : Nat → Nat), n ≤ 7 ∧ jn = Int32.ofNat n ∧ onM = Int32.ofNat n ∧ (∀ k < n, js k = os k ∧ jy k = od k ∧ (jm k = 1 ↔ zm_meets n os od k) ∧ g k < 7 ∧ ow k = Int32.ofNat (g k) ∧ ∀ o < n, g o = g k → o = k) ∧ ∀ j < 7, gone j = 1 ↔ ∃ k < n, g k = j
def zm_RP (pc : Int32) (o gone : Nat → Int32) (jn : Int32) (js jy jm : Nat → Int32) (kept imOn : Int32) (im : Nat → Int32) : Prop := pc = kept ∧ (kept = 0 ∨ kept = 1) ∧ (kept = 1 → zm_RD o gone jn js jy jm imOn (im 26) (im 27) (im 28) (im 21) (im 22) (im 23) (im 24) (im 25) (fun k => im (3 * k)) (fun k => im (3 * k + 1)) (fun k => im (3 * k + 2)))
def zm_RB (n r : Int32) (kd tr : Nat → Int32) (n' r' : Int32) (kd' tr' : Nat → Int32) : Prop := ∃ k : Nat, k ≤ 50 ∧ n = Int32.ofNat k ∧ n' = Int32.ofNat k ∧ r = r' ∧ 0 ≤ r' ∧ (∀ i < k, kd i = kd' i ∧ 0 ≤ kd' i ∧ kd' i ≤ 7) ∧ ∀ i < 24, Int32.ofNat i < r' → tr i = tr' i
/-- class and reference say the same -/
def zm_R (V : Nat → (Nat → Int32) → Prop) (c m : zx_M) : Prop :=
  zm_RN (c.1 1 2) (c.1 2) (c.1 3) (m.1 0 6) (m.1 1) ∧
  zm_RK (c.1 4 5) (c.1 4 6) (c.1 5) (c.1 6) (c.1 7) (c.1 8) (m.1 0 5) (m.1 0 4) (m.1 2) (m.1 3) (m.1 4) (m.1 0 6) (m.1 1) ∧
  zm_RT (c.1 9 2) (c.1 10) (m.1 0 8) (m.1 5) ∧
  zm_RL V (c.1 12 2) (c.1 13) (m.1 0 10) (m.1 6) ∧
  zm_RS (c.1 16) (c.1 17) (c.2 18) (m.1 19) (m.1 20) (m.2 21) (m.1 0 43) ∧
  zm_RD (c.1 26) (c.1 27) (c.1 28 4) (c.1 29) (c.1 30) (c.1 31) (m.1 0 28) (m.1 0 29) (m.1 0 30) (m.1 0 31) (m.1 0 35) (m.1 0 36) (m.1 0 37) (m.1 0 38) (m.1 0 39) (m.1 13) (m.1 14) (m.1 15) ∧
  zm_RP (c.1 0 10) (c.1 32) (c.1 33) (c.1 34 4) (c.1 35) (c.1 36) (c.1 37) (m.1 0 40) (m.1 0 41) (m.1 16) ∧
  zm_RB (c.1 38 1) (c.1 38 3) (c.1 39) (c.1 40) (m.1 0 43) (m.1 0 46) (m.1 17) (m.1 18)
theorem t_bodies {c m : zx_M} (h : zm_RB (c.1 38 1) (c.1 38 3) (c.1 39) (c.1 40) (m.1 0 43) (m.1 0 46) (m.1 17) (m.1 18)) (v : Int32) : ∃ r, f_C_trace v c = some r ∧ f_M_trace v m = some r := by
  obtain ⟨k, hk, h1, h2, h3, h4, h5, h6⟩ := h
  unfold f_C_trace f_Acts_tracedAt f_M_trace
  rw [h3]
  by_cases a : v < 0
  · simp [a]
  by_cases b : m.1 0 46 ≤ v
  · simp [a, b]
  by_cases e : 24 ≤ v
  · simp [a, b, e]
  obtain ⟨i, hi, rfl⟩ := zm_in (n := 24) (by omega) a e
  simp only [if_neg a, if_neg b, if_neg e, zm_ix hi (by omega), Option.bind_some, h6 i hi (by grind)]
  exact ⟨_, rfl, rfl⟩
