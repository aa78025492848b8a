/-! which numbers may be; a new jumper -/
def zm_fit (f : Nat → Int32) (w : Nat) (v : Int32) : Prop := match w with
  | 0 => 1 ≤ v ∧ v ≤ 9
  | 1 => 0 ≤ v ∧ v ≤ 9
  | 2 => 0 ≤ v ∧ v ≤ 1
  | 3 => 0 ≤ v ∧ v ≤ 12
  | 4 => -999 ≤ v ∧ v ≤ f 29
  | 5 => f 28 ≤ v ∧ v ≤ 999
  | 6 => v = -2000000000 ∨ (-999 ≤ v ∧ v ≤ 999)
  | 7 => 1 ≤ v ∧ v ≤ 99
  | 8 => -30 ≤ v ∧ v ≤ 30
  | 9 => -30 ≤ v ∧ v ≤ 30
  | 10 => 1 ≤ v ∧ v ≤ 9
  | _ => 0 ≤ v ∧ v ≤ 1
theorem zm_fitsC {c m : zx_M} (h : zm_RN (c.1 1 2) (c.1 2) (c.1 3) (m.1 0 6) (m.1 1)) {w : Nat} (hw : w < 12) (v : Int32) [Decidable (zm_fit (m.1 1) w v)] : f_Numbers_fits (Int32.ofNat w) v c = some (if zm_fit (m.1 1) w v then 1 else 0) := by
  obtain ⟨-, ⟨-, -, g1, g2, g3⟩, h2, -⟩ := h
  have e4 : f_Numbers_told 0 4 c = some (m.1 1 28) := by rw [zm_told_f (c := c) (v := 0) (k := 0) (w := 4) (by omega) rfl, h2 0 (by omega)]
  have e5 : f_Numbers_told 0 5 c = some (m.1 1 29) := by rw [zm_told_f (c := c) (v := 0) (k := 1) (w := 5) (by omega) rfl, h2 1 (by omega)]
  have ix : zx_ix 12 (Int32.ofNat w) = some w := zm_ix hw (by omega)
  unfold f_Numbers_fits n_Numbers_fits_n36 n_Numbers_fits_n71
  simp only [e4, e5, ix, zm_bs]
  have hc : w = 0 ∨ w = 1 ∨ w = 2 ∨ w = 3 ∨ w = 4 ∨ w = 5 ∨ w = 6 ∨ w = 7 ∨ w = 8 ∨ w = 9 ∨ w = 10 ∨ w = 11 := by omega
  rcases hc with rfl | rfl | rfl | rfl | rfl | rfl | rfl | rfl | rfl | rfl | rfl | rfl <;> simp [zx_sA0, zx_sA1, zm_fit] <;> grind
theorem zm_mayM {m : zx_M} {w : Nat} (hw : w < 12) (v : Int32) [Decidable (zm_fit (m.1 1) w v)] : f_M_mayBecome (Int32.ofNat w) v m = some (if zm_fit (m.1 1) w v then 1 else 0) := by
  have i1 : zx_ix 36 29 = some 29 := zm_ix (k := 29) (by omega) (by omega)
  have i2 : zx_ix 36 28 = some 28 := zm_ix (k := 28) (by omega) (by omega)
  unfold f_M_mayBecome
  simp only [i1, i2, zm_bs, zm_wt, zm_isYardM]
  have hc : w = 0 ∨ w = 1 ∨ w = 2 ∨ w = 3 ∨ w = 4 ∨ w = 5 ∨ w = 6 ∨ w = 7 ∨ w = 8 ∨ w = 9 ∨ w = 10 ∨ w = 11 := by omega
  rcases hc with rfl | rfl | rfl | rfl | rfl | rfl | rfl | rfl | rfl | rfl | rfl | rfl <;> simp [zm_fit] <;> grind [zm_gl]
