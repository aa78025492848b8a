/-! who meets whom, who comes down well: counting -/
def zj_any : Nat → (Nat → Bool) → Bool
  | 0, _ => false
  | n + 1, p => zj_any n p || p n
def zj_cnt : Nat → (Nat → Bool) → Nat
  | 0, _ => 0
  | n + 1, p => zj_cnt n p + (if p n then 1 else 0)
theorem zj_any_iff {p : Nat → Bool} : ∀ {n : Nat}, zj_any n p = true ↔ ∃ o < n, p o = true := by
  intro n
  induction n with
  | zero =>
    constructor
    · intro h; exact absurd (show false = true from h) (by decide)
    · rintro ⟨o, h, -⟩; omega
  | succ n ih =>
    show (zj_any n p || p n) = true ↔ _
    rw [Bool.or_eq_true, ih]
    constructor
    · rintro (⟨o, h1, h2⟩ | h)
      · exact ⟨o, by omega, h2⟩
      · exact ⟨n, by omega, h⟩
    · rintro ⟨o, h1, h2⟩
      by_cases g : o = n
      · subst g; exact Or.inr h2
      · exact Or.inl ⟨o, by omega, h2⟩
theorem zj_any_congr {p q : Nat → Bool} : ∀ {n : Nat}, (∀ k < n, p k = q k) → zj_any n p = zj_any n q := by
  intro n
  induction n with
  | zero => intro _; rfl
  | succ n ih =>
    intro h
    show (zj_any n p || p n) = (zj_any n q || q n)
    rw [ih (fun k hk => h k (by omega)), h n (by omega)]
theorem zj_cnt_congr {p q : Nat → Bool} : ∀ {n : Nat}, (∀ k < n, p k = q k) → zj_cnt n p = zj_cnt n q := by
  intro n
  induction n with
  | zero => intro _; rfl
  | succ n ih =>
    intro h
    show zj_cnt n p + _ = zj_cnt n q + _
    rw [ih (fun k hk => h k (by omega)), h n (by omega)]
theorem zj_cnt_le (p : Nat → Bool) : ∀ n : Nat, zj_cnt n p ≤ n := by
  intro n
  induction n with
  | zero => exact Nat.le_refl _
  | succ n ih =>
    show zj_cnt n p + _ ≤ _
    by_cases h : p n = true
    · rw [if_pos h]; omega
    · rw [if_neg h]; omega
theorem zj_lpS {σ τ : Type} {f : σ → Option (σ ⊕ τ)} {s t : σ} {N : Nat} (h : f s = some (.inl t)) : zx_lp (N + 1) f s = zx_lp N f t := by
  conv => lhs; unfold zx_lp
  rw [h]
theorem zj_lpE {σ τ : Type} {f : σ → Option (σ ⊕ τ)} {s : σ} {t : τ} {N : Nat} (h : f s = some (.inr t)) : zx_lp (N + 1) f s = some t := by
  unfold zx_lp
  rw [h]
/-- a loop that counts -/
theorem zj_cntLoop {B : Int32 × Int32 → Option ((Int32 × Int32) ⊕ Int32)} {n : Nat} {p : Nat → Bool} (stop : ∀ v, B (v, Int32.ofNat n) = some (.inr v)) (go : ∀ v i, i < n → B (v, Int32.ofNat i) = some (.inl (v + (if p i then 1 else 0), Int32.ofNat (i + 1)))) : ∀ (j i : Nat), i + j = n → ∀ N, j + 1 ≤ N → zx_lp N B (Int32.ofNat (zj_cnt i p), Int32.ofNat i) = some (Int32.ofNat (zj_cnt n p)) := by
  intro j
  induction j with
  | zero =>
    intro i hi N hN
    obtain ⟨N1, rfl⟩ : ∃ N1, N = N1 + 1 := ⟨N - 1, by omega⟩
    have : i = n := by omega
    subst this
    exact zj_lpE (stop _)
  | succ j ih =>
    intro i hi N hN
    obtain ⟨N1, rfl⟩ : ∃ N1, N = N1 + 1 := ⟨N - 1, by omega⟩
    rw [zj_lpS (go _ i (by omega))]
    have e : Int32.ofNat (zj_cnt i p) + (if p i then 1 else 0) = Int32.ofNat (zj_cnt (i + 1) p) := by
      show _ = Int32.ofNat (zj_cnt i p + (if p i then 1 else 0))
      by_cases h : p i = true
      · rw [if_pos h, if_pos h]; simp
      · rw [if_neg h, if_neg h]; simp
    rw [e]
    exact ih (i + 1) (by omega) N1 (by omega)
theorem zj_cntN {B : Int32 × Int32 → Option ((Int32 × Int32) ⊕ Int32)} {n : Nat} {p : Nat → Bool} (hn : n ≤ 7) (stop : ∀ v, B (v, Int32.ofNat n) = some (.inr v)) (go : ∀ v i, i < n → B (v, Int32.ofNat i) = some (.inl (v + (if p i then 1 else 0), Int32.ofNat (i + 1)))) : zx_lp zx_N B (0, 0) = some (Int32.ofNat (zj_cnt n p)) := zj_cntLoop stop go n 0 (by omega) zx_N (by have : zx_N = 100000 := rfl; omega)
/-- a loop that looks for one -/
theorem zj_anyLoop {B : Int32 → Option (Int32 ⊕ Int32)} {n : Nat} {p : Nat → Bool} (stop : B (Int32.ofNat n) = some (.inr 0)) (go : ∀ i, i < n → p i = false → B (Int32.ofNat i) = some (.inl (Int32.ofNat (i + 1)))) (hit : ∀ i, i < n → p i = true → B (Int32.ofNat i) = some (.inr 1)) : ∀ (j i : Nat), i + j = n → zj_any i p = false → ∀ N, j + 1 ≤ N → zx_lp N B (Int32.ofNat i) = some (if zj_any n p then 1 else 0) := by
  intro j
  induction j with
  | zero =>
    intro i hi hp N hN
    obtain ⟨N1, rfl⟩ : ∃ N1, N = N1 + 1 := ⟨N - 1, by omega⟩
    have : i = n := by omega
    subst this
    rw [zj_lpE stop, hp]
    rfl
  | succ j ih =>
    intro i hi hp N hN
    obtain ⟨N1, rfl⟩ : ∃ N1, N = N1 + 1 := ⟨N - 1, by omega⟩
    cases h : p i
    · rw [zj_lpS (go i (by omega) h)]
      refine ih (i + 1) (by omega) ?_ N1 (by omega)
      show (zj_any i p || p i) = false
      rw [hp, h]
      rfl
    · rw [zj_lpE (hit i (by omega) h)]
      have : zj_any n p = true := zj_any_iff.mpr ⟨i, by omega, h⟩
      rw [this]
      rfl
theorem zj_anyN {B : Int32 → Option (Int32 ⊕ Int32)} {n : Nat} {p : Nat → Bool} (hn : n ≤ 7) (stop : B (Int32.ofNat n) = some (.inr 0)) (go : ∀ i, i < n → p i = false → B (Int32.ofNat i) = some (.inl (Int32.ofNat (i + 1)))) (hit : ∀ i, i < n → p i = true → B (Int32.ofNat i) = some (.inr 1)) : zx_lp zx_N B 0 = some (if zj_any n p then 1 else 0) := zj_anyLoop stop go hit n 0 (by omega) rfl zx_N (by have : zx_N = 100000 := rfl; omega)
def zj_near (se dw : Nat → Int32) (o k : Nat) : Bool := decide (zx_abs (dw o - dw k) ≤ 10) && decide (zx_abs (se o - se k) ≤ 4)
def zj_mB (n : Nat) (se dw : Nat → Int32) (k : Nat) : Bool := zj_any n (fun o => decide (¬ o = k) && zj_near se dw o k)
theorem zj_mB_iff {n : Nat} {se dw : Nat → Int32} {k : Nat} : zj_mB n se dw k = true ↔ zm_meets n se dw k := by
  unfold zj_mB zm_meets zj_near
  rw [zj_any_iff]
  constructor
  · rintro ⟨o, h1, h2⟩
    simp only [Bool.and_eq_true, decide_eq_true_eq] at h2
    exact ⟨o, h1, h2⟩
  · rintro ⟨o, h1, h2⟩
    refine ⟨o, h1, ?_⟩
    simp only [Bool.and_eq_true, decide_eq_true_eq]
    exact h2
theorem zj_mB_congr {n : Nat} {se dw se' dw' : Nat → Int32} {k : Nat} (hk : k < n) (h1 : ∀ o < n, se o = se' o) (h2 : ∀ o < n, dw o - dw k = dw' o - dw' k) : zj_mB n se dw k = zj_mB n se' dw' k := by
  unfold zj_mB zj_near
  refine zj_any_congr (fun o ho => ?_)
  rw [h1 o ho, h1 k hk, h2 o ho]
def zj_wB (fr to wi d : Int32) : Bool := decide (fr ≤ d) && decide (d ≤ to) && (decide (wi = -2000000000) || decide (5 < zx_abs (d - wi)))
def zj_well (n : Nat) (fr to wi : Int32) (dw : Nat → Int32) : Nat := zj_cnt n (fun k => zj_wB fr to wi (dw k))
def zj_meetn (n : Nat) (se dw : Nat → Int32) : Nat := zj_cnt n (fun k => zj_mB n se dw k)
def zj_good (n : Nat) (fr to wi : Int32) (se dw : Nat → Int32) : Nat := zj_cnt n (fun k => zj_wB fr to wi (dw k) && !zj_mB n se dw k)
theorem zj_good_congr {n : Nat} {fr to wi : Int32} {se dw se' dw' : Nat → Int32} (h1 : ∀ o < n, se o = se' o) (h2 : ∀ o < n, dw o = dw' o) : zj_good n fr to wi se dw = zj_good n fr to wi se' dw' := zj_cnt_congr (fun k hk => by
  show (_ && !_) = (_ && !_)
  rw [h2 k hk, zj_mB_congr hk h1 (fun o ho => by rw [h2 o ho, h2 k hk])])
/-! the reference counts -/
theorem zj_isWell (v : Int32) (m : zx_M) : f_M_isWell v m = some (if zj_wB (m.1 1 28) (m.1 1 29) (m.1 1 30) v then 1 else 0) := by
  have i28 : zx_ix 36 28 = some 28 := zm_ix (k := 28) (by omega) (by omega)
  have i29 : zx_ix 36 29 = some 29 := zm_ix (k := 29) (by omega) (by omega)
  have i30 : zx_ix 36 30 = some 30 := zm_ix (k := 30) (by omega) (by omega)
  unfold f_M_isWell zj_wB
  simp only [i28, i29, i30, zm_bs, zm_within, zm_abs]
  by_cases a : m.1 1 28 ≤ v ∧ v ≤ m.1 1 29
  · have z1 : ¬ ((1 : Int32) = 0) := by decide
    have ha : (decide (m.1 1 28 ≤ v) && decide (v ≤ m.1 1 29)) = true := by rw [decide_eq_true a.1, decide_eq_true a.2]; rfl
    simp only [if_pos a, if_neg z1, ha, Bool.true_and]
    by_cases b : m.1 1 30 = -2000000000
    · simp only [if_pos b, decide_eq_true b, Bool.true_or, ↓reduceIte]
    · simp only [if_neg b, decide_eq_false b, Bool.false_or]
      by_cases e : zx_abs (v - m.1 1 30) ≤ 5
      · have e' : ¬ 5 < zx_abs (v - m.1 1 30) := Int32.not_lt.mpr e
        simp only [if_pos e, decide_eq_false e', Bool.false_eq_true, ↓reduceIte]
      · have e' : 5 < zx_abs (v - m.1 1 30) := Int32.not_le.mp e
        simp only [if_neg e, decide_eq_true e', ↓reduceIte]
  · simp only [if_neg a, ↓reduceIte]
    have : (decide (m.1 1 28 ≤ v) && decide (v ≤ m.1 1 29)) = false := by
      by_cases b : m.1 1 28 ≤ v
      · have c : ¬ v ≤ m.1 1 29 := fun h => a ⟨b, h⟩
        simp [c]
      · simp [b]
    rw [this]
    simp
theorem zj_meetsM {m : zx_M} {n k : Nat} (hn : n ≤ 7) (h : m.1 0 20 = Int32.ofNat n) (hk : k < n) : f_M_meets (Int32.ofNat k) m = some (if zj_mB n (m.1 9) (m.1 10) k then 1 else 0) := by
  have key : l_M_meets_l2 (Int32.ofNat k) m 0 = some (if zj_mB n (m.1 9) (m.1 10) k then 1 else 0) := by
    unfold l_M_meets_l2 zj_mB
    have hb : ∀ o, o < n → b_M_meets_l2 (Int32.ofNat k) (Int32.ofNat o) m = (if (decide (¬ o = k) && zj_near (m.1 9) (m.1 10) o k) = true then some (.inr 1) else some (.inl (Int32.ofNat (o + 1)))) := by
      intro o ho
      have g1 : ¬ m.1 0 20 ≤ Int32.ofNat o := by rw [h]; grind [zm_g]
      have a1 : Int32.ofNat o + 1 = Int32.ofNat (o + 1) := by simp
      unfold b_M_meets_l2 n_M_meets_b2_58 zj_near
      by_cases q : o = k
      · subst q
        simp only [if_neg g1, ↓reduceIte, zm_let, a1, not_true_eq_false, decide_false, Bool.false_and, Bool.false_eq_true]
      · have q' : ¬ Int32.ofNat o = Int32.ofNat k := by grind [zm_g]
        simp only [if_neg g1, if_neg q', zm_let, a1, zm_ix (show o < 7 by omega) (by omega), zm_ix (show k < 7 by omega) (by omega), zm_bs, zm_abs, decide_eq_true q, Bool.true_and]
        by_cases e : zx_abs (m.1 10 o - m.1 10 k) ≤ 10
        · have e' : ¬ 10 < zx_abs (m.1 10 o - m.1 10 k) := Int32.not_lt.mpr e
          simp only [if_neg e', decide_eq_true e, Bool.true_and, decide_eq_true_eq]
          by_cases f : zx_abs (m.1 9 o - m.1 9 k) ≤ 4
          · have f' : ¬ 4 < zx_abs (m.1 9 o - m.1 9 k) := Int32.not_lt.mpr f
            simp only [if_neg f', if_pos f]
          · have f' : 4 < zx_abs (m.1 9 o - m.1 9 k) := Int32.not_le.mp f
            simp only [if_pos f', if_neg f]
        · have e' : 10 < zx_abs (m.1 10 o - m.1 10 k) := Int32.not_le.mp e
          simp only [if_pos e', decide_eq_false e, Bool.false_and, Bool.false_eq_true, ↓reduceIte]
    refine zj_anyN hn ?_ ?_ ?_
    · show b_M_meets_l2 (Int32.ofNat k) (Int32.ofNat n) m = _
      have g1 : m.1 0 20 ≤ Int32.ofNat n := by rw [h]; exact Int32.le_refl _
      unfold b_M_meets_l2
      rw [if_pos g1]
    · intro i hi hp
      exact (hb i hi).trans (if_neg (by rw [hp]; decide))
    · intro i hi hp
      exact (hb i hi).trans (if_pos hp)
  unfold f_M_meets
  rw [key]
  rfl
theorem zj_goodMany {m : zx_M} {n : Nat} (hn : n ≤ 7) (h : m.1 0 20 = Int32.ofNat n) : f_M_goodMany m = some (Int32.ofNat (zj_good n (m.1 1 28) (m.1 1 29) (m.1 1 30) (m.1 9) (m.1 10))) := by
  have key : l_M_goodMany_l4 m (0, 0) = some (Int32.ofNat (zj_good n (m.1 1 28) (m.1 1 29) (m.1 1 30) (m.1 9) (m.1 10))) := by
    unfold l_M_goodMany_l4 zj_good
    refine zj_cntN hn (fun v => ?_) (fun v i hi => ?_)
    · show b_M_goodMany_l4 v (Int32.ofNat n) m = _
      have g1 : m.1 0 20 ≤ Int32.ofNat n := by rw [h]; exact Int32.le_refl _
      unfold b_M_goodMany_l4
      rw [if_pos g1]
    · show b_M_goodMany_l4 v (Int32.ofNat i) m = _
      have g1 : ¬ m.1 0 20 ≤ Int32.ofNat i := by rw [h]; grind [zm_g]
      have a1 : Int32.ofNat i + 1 = Int32.ofNat (i + 1) := by simp
      have z1 : ¬ ((1 : Int32) = 0) := by decide
      unfold b_M_goodMany_l4 n_M_goodMany_b4_38 n_M_goodMany_b4_39
      simp only [if_neg g1, zm_ix (show i < 7 by omega) (by omega), zm_bs, zj_isWell, zj_meetsM hn h hi, zm_let, a1]
      cases zj_wB (m.1 1 28) (m.1 1 29) (m.1 1 30) (m.1 10 i) <;> cases zj_mB n (m.1 9) (m.1 10) i <;> simp
  unfold f_M_goodMany
  rw [key]
  rfl
theorem zj_wellMany {m : zx_M} {n : Nat} (hn : n ≤ 7) (h : m.1 0 20 = Int32.ofNat n) : f_M_wellMany m = some (Int32.ofNat (zj_well n (m.1 1 28) (m.1 1 29) (m.1 1 30) (m.1 10))) := by
  have key : l_M_wellMany_l4 m (0, 0) = some (Int32.ofNat (zj_well n (m.1 1 28) (m.1 1 29) (m.1 1 30) (m.1 10))) := by
    unfold l_M_wellMany_l4 zj_well
    refine zj_cntN hn (fun v => ?_) (fun v i hi => ?_)
    · show b_M_wellMany_l4 v (Int32.ofNat n) m = _
      have g1 : m.1 0 20 ≤ Int32.ofNat n := by rw [h]; exact Int32.le_refl _
      unfold b_M_wellMany_l4
      rw [if_pos g1]
    · show b_M_wellMany_l4 v (Int32.ofNat i) m = _
      have g1 : ¬ m.1 0 20 ≤ Int32.ofNat i := by rw [h]; grind [zm_g]
      have a1 : Int32.ofNat i + 1 = Int32.ofNat (i + 1) := by simp
      unfold b_M_wellMany_l4 n_M_wellMany_b4_31
      simp only [if_neg g1, zm_ix (show i < 7 by omega) (by omega), zm_bs, zj_isWell, zm_let, a1]
      cases zj_wB (m.1 1 28) (m.1 1 29) (m.1 1 30) (m.1 10 i) <;> simp
  unfold f_M_wellMany
  rw [key]
  rfl
theorem zj_meetMany {m : zx_M} {n : Nat} (hn : n ≤ 7) (h : m.1 0 20 = Int32.ofNat n) : f_M_meetMany m = some (Int32.ofNat (zj_meetn n (m.1 9) (m.1 10))) := by
  have key : l_M_meetMany_l4 m (0, 0) = some (Int32.ofNat (zj_meetn n (m.1 9) (m.1 10))) := by
    unfold l_M_meetMany_l4 zj_meetn
    refine zj_cntN hn (fun v => ?_) (fun v i hi => ?_)
    · show b_M_meetMany_l4 v (Int32.ofNat n) m = _
      have g1 : m.1 0 20 ≤ Int32.ofNat n := by rw [h]; exact Int32.le_refl _
      unfold b_M_meetMany_l4
      rw [if_pos g1]
    · show b_M_meetMany_l4 v (Int32.ofNat i) m = _
      have g1 : ¬ m.1 0 20 ≤ Int32.ofNat i := by rw [h]; grind [zm_g]
      have a1 : Int32.ofNat i + 1 = Int32.ofNat (i + 1) := by simp
      unfold b_M_meetMany_l4 n_M_meetMany_b4_26
      simp only [if_neg g1, zj_meetsM hn h hi, zm_bs, zm_let, a1]
      cases zj_mB n (m.1 9) (m.1 10) i <;> simp
  unfold f_M_meetMany
  rw [key]
  rfl
