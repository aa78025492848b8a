/-! the constructors: both sides new, and they say the same -/
def zi_M : zx_M := (fun _ _ => 0, fun _ _ => 0)
def zi_P (C M : zx_M) : Prop := (C.1 1 2 = 0 ∧ M.1 0 6 = 0) ∧ (∀ j < 7, M.1 1 (21 + j) = 0) ∧ (-999 ≤ M.1 1 28 ∧ M.1 1 28 ≤ M.1 1 29 ∧ M.1 1 29 ≤ 999) ∧ (∀ k < 8, C.1 2 k = M.1 1 (28 + k)) ∧ (∀ j < 7, ∀ w < 4, C.1 3 (4 * j + w) = M.1 1 (7 * w + j)) ∧ (C.1 4 5 = 0 ∧ C.1 4 6 = 0 ∧ M.1 0 5 = 0 ∧ M.1 0 4 = 0) ∧ (C.1 9 2 = 0 ∧ M.1 0 8 = 0) ∧ (C.1 12 2 = 0 ∧ M.1 0 10 = -1) ∧ (∀ d < 6, C.1 16 d = -1 ∧ C.1 17 d = 0 ∧ M.1 19 d = -1 ∧ M.1 20 d = 0) ∧
  (C.1 26 3 = 0 ∧ M.1 0 28 = 0) ∧ (C.1 26 4 = M.1 0 30 ∧ C.1 26 5 = M.1 0 31 ∧ C.1 26 6 = M.1 0 35 ∧ C.1 26 7 = M.1 0 36 ∧ C.1 26 8 = M.1 0 37 ∧ C.1 26 9 = M.1 0 38 ∧ C.1 26 10 = M.1 0 39) ∧ (M.1 0 39 = -2 ∨ 0 ≤ M.1 0 39) ∧ (∀ j < 7, C.1 27 j = 0) ∧ (∀ k < 7, C.1 31 k = 0) ∧ (C.1 28 4 = 0 ∧ M.1 0 29 = 0) ∧ (C.1 0 10 = 0 ∧ M.1 0 40 = 0) ∧ (C.1 38 1 = 0 ∧ M.1 0 43 = 0 ∧ C.1 38 3 = 0 ∧ M.1 0 46 = 0)
def zi_dec (C M : zx_M) : Decidable (zi_P C M) := by unfold zi_P; infer_instance
def zi_ck : Option (Option Value × zx_H) → Option (Option Value × zx_H) → Bool
  | some (none, (S, C)), some (none, (S', M)) => decide (S = zx_SC) && (decide (S' = zx_SM) && @decide (zi_P C M) (zi_dec C M))
  | _, _ => false
theorem zi_c : zi_ck (zx_run 400 78 86 0 (zx_en zr_86.2.2.1 [.ref 0]) [] ([.inl (8, zx_df 8)], zi_M)) (zx_run 400 78 160 0 (zx_en zr_160.2.2.1 [.ref 0]) [] ([.inl (9, zx_df 9)], zi_M)) = true := by decide +kernel
