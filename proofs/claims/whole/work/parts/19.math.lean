/-! the small questions of both sides -/
theorem zm_let {α β : Type} (a : α) (f : α → β) : zx_let a f = f a := id rfl
theorem zm_bs {α β : Type} (a : α) (f : α → Option β) : (some a).bind f = f a := id rfl
theorem zm_wt (x l h : Int64) (m : zx_M) : f_M_within x l h m = some (if l ≤ x ∧ x ≤ h then 1 else 0) := by
  unfold f_M_within lg_cmp
  grind
theorem zm_if01 {p : Prop} [Decidable p] : ((if p then 1 else 0 : Int32) = 0 ∨ (if p then 1 else 0 : Int32) = 1) := by grind
theorem zm_isShelfC (v : Int32) (c : zx_M) : f_Shelves_isThere v c = some (if 0 ≤ v ∧ v ≤ 5 then 1 else 0) := by
  unfold f_Shelves_isThere; grind
theorem zm_isShelfM (v : Int32) (m : zx_M) : f_M_isShelf v m = some (if 0 ≤ v ∧ v ≤ 5 then 1 else 0) := by
  unfold f_M_isShelf; simp only [zm_wt, zm_bs]; grind [zm_gl]
theorem zm_isYardC (v : Int32) (c : zx_M) : f_C_isYard v c = some (if -999 ≤ v ∧ v ≤ 999 then 1 else 0) := by
  unfold f_C_isYard; grind
theorem zm_isYardM (v : Int32) (m : zx_M) : f_M_isYard v m = some (if -999 ≤ v ∧ v ≤ 999 then 1 else 0) := by
  unfold f_M_isYard; simp only [zm_wt, zm_bs]; grind [zm_gl]
theorem zm_isCountC (v : Int32) (c : zx_M) : f_C_isCount v c = some (if 1 ≤ v ∧ v ≤ 20 then 1 else 0) := by
  unfold f_C_isCount; grind
theorem zm_isCountM (v : Int32) (m : zx_M) : f_M_isCount v m = some (if 1 ≤ v ∧ v ≤ 20 then 1 else 0) := by
  unfold f_M_isCount; simp only [zm_wt, zm_bs]; grind [zm_gl]
theorem zm_isPartC (v : Int32) (c : zx_M) : f_C_isPart v c = some (if 0 ≤ v ∧ v ≤ 1 then 1 else 0) := by
  unfold f_C_isPart; grind
def zm_yc (v : Int32) : Prop := 0 ≤ v ∧ v / 100 ≤ 1998 ∧ 1 ≤ zx_rem v 100 ∧ zx_rem v 100 ≤ 20
theorem zm_isYcC (v : Int32) (c : zx_M) [Decidable (zm_yc v)] : f_C_isSpotAndCount v c = some (if zm_yc v then 1 else 0) := by
  unfold f_C_isSpotAndCount zm_yc; simp only [zm_isCountC, zm_bs]; grind
theorem zm_isYcM (v : Int32) (m : zx_M) [Decidable (zm_yc v)] : f_M_isYc v m = some (if zm_yc v then 1 else 0) := by
  unfold f_M_isYc zm_yc; simp only [zm_isCountM, zm_bs]; grind
theorem zm_spotC (v : Int32) (c : zx_M) : f_C_spotOf v c = some (v / 100 - 999) := rfl
theorem zm_spotM (v : Int32) (m : zx_M) : f_M_spotOf v m = some (v / 100 - 999) := rfl
theorem zm_countOfC (v : Int32) (c : zx_M) : f_C_countOf v c = some (zx_rem v 100) := rfl
theorem zm_isBodyM (v : Int32) (m : zx_M) {k : Nat} (hk : k ≤ 50) (h : m.1 0 43 = Int32.ofNat k) : f_M_isBody v m = some (if 0 ≤ v ∧ v < Int32.ofNat k then 1 else 0) := by
  have : (0 : Int32) ≤ Int32.ofNat k - 1 ∨ Int32.ofNat k - 1 = -1 := by grind [zm_g]
  have hv : v.toInt64 ≤ (m.1 0 43 - 1).toInt64 ↔ v ≤ m.1 0 43 - 1 := zm_le64
  unfold f_M_isBody; simp only [zm_wt, zm_bs, hv]; grind [zm_gl, zm_g]
theorem zm_isBodyC (v : Int32) (c : zx_M) {k : Nat} (h : c.1 38 1 = Int32.ofNat k) : f_Acts_isBody v c = some (if 0 ≤ v ∧ v < Int32.ofNat k then 1 else 0) := by
  unfold f_Acts_isBody; rw [h]; grind
theorem zm_isJumperM (v : Int32) (m : zx_M) {k : Nat} (hk : k ≤ 7) (h : m.1 0 6 = Int32.ofNat k) : f_M_isJumper v.toInt64 m = some (if 0 ≤ v ∧ v < Int32.ofNat k then 1 else 0) := by
  have : (0 : Int32) ≤ Int32.ofNat k - 1 ∨ Int32.ofNat k - 1 = -1 := by grind [zm_g]
  have hv : v.toInt64 ≤ (m.1 0 6 - 1).toInt64 ↔ v ≤ m.1 0 6 - 1 := zm_le64
  unfold f_M_isJumper; simp only [zm_wt, zm_bs, hv]; grind [zm_gl, zm_g]
theorem zm_isJumperC (v : Int32) (c : zx_M) {k : Nat} (h : c.1 1 2 = Int32.ofNat k) : f_Numbers_isJumper v c = some (if 0 ≤ v ∧ v < Int32.ofNat k then 1 else 0) := by
  unfold f_Numbers_isJumper; rw [h]; grind
theorem zm_told_f {v : Int32} {c : zx_M} {k : Nat} (hk : k < 8) {w : Int32} (hw : w = Int32.ofNat (4 + k)) : f_Numbers_told v w c = some (c.1 2 k) := by
  have h1 : w - 4 = Int32.ofNat k := by subst hw; grind [zm_g]
  simp only [f_Numbers_told, zm_let]
  rw [h1, if_neg (zm_nn (by omega)), if_neg (by grind [zm_g]), zm_ix hk (by omega)]
  rfl
theorem zm_told_j {c : zx_M} {j w : Nat} (hj : j < 7) (hw : w < 4) {jj ww : Int32} (h1 : jj = Int32.ofNat j) (h2 : ww = Int32.ofNat w) : f_Numbers_told jj ww c = some (c.1 3 (4 * j + w)) := by
  have e : jj * 4 + ww = Int32.ofNat (4 * j + w) := by subst h1; subst h2; grind [zm_g]
  simp only [f_Numbers_told, n_Numbers_told_n24, zm_let]
  rw [if_pos (by subst h2; grind [zm_g]), e, if_neg (zm_nn (by omega)), if_neg (by grind [zm_g]), zm_ix (by omega) (by omega)]
  rfl
def zm_O (fC fM : zx_M → Option Int32) (c m : zx_M) : Prop := ∃ r, fC c = some r ∧ fM m = some r
theorem t_paper {c m : zx_M} (h : zm_RN (c.1 1 2) (c.1 2) (c.1 3) (m.1 0 6) (m.1 1)) (v : Int32) : zm_O (f_C_paper v) (f_M_paper v) c m := by
  obtain ⟨-, -, h2, -⟩ := h
  unfold zm_O f_C_paper f_M_paper
  rw [zm_isYardC, zm_isYardM]
  simp only [zm_bs]
  by_cases a : -999 ≤ v ∧ v ≤ 999
  · have e1 : f_Numbers_told 0 10 c = _ := zm_told_f (k := 6) (by omega) rfl
    have e2 : f_Numbers_told 0 8 c = _ := zm_told_f (k := 4) (by omega) rfl
    have e3 : f_Numbers_told 0 9 c = _ := zm_told_f (k := 5) (by omega) rfl
    have i1 : zx_ix 36 34 = some 34 := zm_ix (k := 34) (by omega) (by omega)
    have i2 : zx_ix 36 32 = some 32 := zm_ix (k := 32) (by omega) (by omega)
    have i3 : zx_ix 36 33 = some 33 := zm_ix (k := 33) (by omega) (by omega)
    simp [a, e1, e2, e3, i1, i2, i3, h2]
  · simp [a]
theorem zm_abs (v : Int32) (m : zx_M) : f_M_sizeOf v m = some (zx_abs v) := by
  have : (0 : Int32) - v = -v := by grind
  unfold f_M_sizeOf zx_abs; rw [this]; grind
theorem zm_lp1 {σ τ : Type} {f : σ → Option (σ ⊕ τ)} (μ : σ → Nat) (I : σ → Prop) (Q : τ → Prop) (step : ∀ s, I s → (∃ t, f s = some (.inl t) ∧ I t ∧ μ t < μ s) ∨ ∃ t, f s = some (.inr t) ∧ Q t) : ∀ (n : Nat) (s : σ), I s → μ s < n → ∃ t, zx_lp n f s = some t ∧ Q t := by
  intro n
  induction n with
  | zero => intro s _ h; omega
  | succ n ih =>
    intro s hs h
    unfold zx_lp
    rcases step s hs with ⟨t, h1, h2, h3⟩ | ⟨t, h1, h2⟩
    · rw [h1]; exact ih t h2 (by omega)
    · rw [h1]; exact ⟨t, rfl, h2⟩
theorem zm_lp2 {σ σ' τ τ' : Type} {f : σ → Option (σ ⊕ τ)} {f' : σ' → Option (σ' ⊕ τ')} (μ : σ → Nat) (I : σ → σ' → Prop) (Q : τ → τ' → Prop) (step : ∀ s s', I s s' → (∃ t t', f s = some (.inl t) ∧ f' s' = some (.inl t') ∧ I t t' ∧ μ t < μ s) ∨ ∃ t t', f s = some (.inr t) ∧ f' s' = some (.inr t') ∧ Q t t') : ∀ (n : Nat) (s : σ) (s' : σ'), I s s' → μ s < n → ∃ t t', zx_lp n f s = some t ∧ zx_lp n f' s' = some t' ∧ Q t t' := by
  intro n
  induction n with
  | zero => intro s _ _ h; omega
  | succ n ih =>
    intro s s' hs h
    unfold zx_lp
    rcases step s s' hs with ⟨t, t', h1, h2, h3, h4⟩ | ⟨t, t', h1, h2, h3⟩
    · rw [h1, h2]; exact ih t t' h3 (by omega)
    · rw [h1, h2]; exact ⟨t, t', rfl, rfl, h3⟩
/-- steps left of a counter that goes up to an end -/
def zm_up (e v : Int32) : Nat := (e.toInt - v.toInt).toNat
theorem zm_up1 {e v : Int32} (h : v < e) : zm_up e (v + 1) < zm_up e v := by
  have h1 : v.toInt < e.toInt := Int32.lt_iff_toInt_lt.mp h
  have h2 : (v + 1).toInt = v.toInt + 1 := by
    have : Lean.Grind.ToInt.toInt (v + 1) = Lean.Grind.ToInt.toInt v + 1 := by grind
    exact this
  unfold zm_up; omega
theorem zm_upN {e v : Int32} (h : -30000 ≤ v) (h2 : e ≤ 30000) : zm_up e v < zx_N := by
  have h1 : (-30000 : Int32).toInt ≤ v.toInt := Int32.le_iff_toInt_le.mp h
  have h3 : e.toInt ≤ (30000 : Int32).toInt := Int32.le_iff_toInt_le.mp h2
  have e1 : (-30000 : Int32).toInt = -30000 := rfl
  have e2 : (30000 : Int32).toInt = 30000 := rfl
  have e3 : zx_N = 100000 := rfl
  unfold zm_up; omega
