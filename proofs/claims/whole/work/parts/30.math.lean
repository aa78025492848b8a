/-! mend, whole -/
theorem zm_mend {V : Nat → (Nat → Int32) → Prop} {c m : zx_M} (H : zm_R V c m) {p w : Nat} {a b v : Int32} (hw : w < 12) (hb : b = Int32.ofNat w) (hp : (28 ≤ p ∧ p < 36 ∧ a = 0 ∧ b = Int32.ofNat (p - 24)) ∨ ∃ j w : Nat, j < 7 ∧ w < 4 ∧ Int32.ofNat j < m.1 0 6 ∧ p = 7 * w + j ∧ a = Int32.ofNat j ∧ b = Int32.ofNat w) (hq : (28 ≤ p ∧ p = 24 + w) ∨ (w < 4 ∧ ∃ j < 7, Int32.ofNat j < m.1 0 6 ∧ p = 7 * w + j)) (ht : ∀ c1 : zx_M, c1.1 2 = c.1 2 → c1.1 3 = c.1 3 → f_Numbers_told a b c1 = some (m.1 1 p)) : ∃ r c' m', ((f_Numbers_fits b v c).bind fun r5 => if ¬ r5 = 0 then (f_Numbers_told a b c).bind fun r8 => if r8 = v then some (r8, c) else (f_Changes_note a b v c).bind fun m11 => (f_Numbers_tell a b v m11).bind fun m13 => some (r8, m13) else some ((-3000), c)) = some (r, c') ∧ ((f_M_mayBecome b v m).bind fun r5 => if r5 = 0 then some ((-3000), m) else (f_M_becomes (Int32.ofNat p) v m).bind fun x => match x with | (r8, m9) => some (r8, m9)) = some (r, m') ∧ zm_R V c' m' := by
  have hp36 := zm_p36 hp
  have hp31 : p < 2 ^ 31 := Nat.lt_of_lt_of_le hp36 (by decide)
  obtain ⟨hN, hK, -⟩ := id H
  haveI := Classical.propDecidable (zm_fit (m.1 1) w v)
  have z0 : (0 : Int32) = 0 := rfl
  have z1 : ¬ ((1 : Int32) = 0) := by decide
  have z2 : ¬ ¬ ((0 : Int32) = 0) := fun h => h rfl
  have e1 : f_Numbers_fits b v c = some (if zm_fit (m.1 1) w v then 1 else 0) := by rw [hb]; exact zm_fitsC hN hw v
  have e2 : f_M_mayBecome b v m = some (if zm_fit (m.1 1) w v then 1 else 0) := by rw [hb]; exact zm_mayM hw v
  simp only [e1, e2, zm_bs]
  by_cases g : zm_fit (m.1 1) w v
  · have hr := zm_rng_fit hN.2.1 hw hq g
    simp only [if_pos g, if_pos z1, if_neg z1, ht c rfl rfl, zm_bs]
    unfold f_M_becomes
    simp only [zm_ix hp36 hp31, zm_bs, zm_let]
    by_cases e : m.1 1 p = v
    · have e' : ¬ ¬ m.1 1 p = v := fun h => h e
      simp only [if_pos e, if_neg e']
      exact zm_e3 rfl rfl rfl H
    · simp only [if_neg e, if_pos e]
      have hK1 := zm_RK_cut hK
      obtain ⟨x, y, P, F, q1, q2, q3, -, q5, -⟩ := hK
      unfold f_Changes_note
      by_cases f : x = 40
      · subst f
        obtain ⟨c0, f1, f2, f3, f4, f5, f6, f7, f8⟩ := zm_forgetC c
        obtain ⟨m0, g1, g2, g3, g4, g5, g6⟩ := zm_forgetM (Int32.ofNat p) v (m.1 1 p) m
        have n1 : ¬ c.1 4 5 < 40 := by rw [q3]; decide
        have n2 : ¬ ¬ m.1 0 5 = 40 := by rw [q5]; decide
        have n3 : m0.1 0 5 - 1 = Int32.ofNat 39 := by rw [g2 0 (by omega) (by omega) (by omega), q5]; decide
        obtain ⟨c1, c2, m2, k1, k2, k3, k4⟩ := zm_note (c0 := c0) (m0 := zx_u1 m0 0 5 (Int32.ofNat 39)) H (x := 39) (by omega) f2 f3 f4 (fun r r0 r2 r3 r4 => by simp [zm_u11, r0, g2 r r2 r3 r4]) (by rw [zm_u12, g3]) (fun k hk => by simp [zm_u11, zm_upd, hk, g2]) (by simp [zm_u11, zm_upd]) (zm_RK_forget q3 hK1 f5 f6 f7 f8 (fun j hj => by simpa [zm_u11] using g4 j hj) (fun j hj => by simpa [zm_u11] using g5 j hj) (fun j hj => by simpa [zm_u11] using g6 j hj)) hp hr ht
        simp only [if_neg n1, if_neg n2, f1, g1, zm_bs, n3, k1, k2, k3]
        exact zm_e3 rfl rfl rfl k4
      · have n1 : c.1 4 5 < 40 := by rw [q3]; grind [zm_g]
        have n2 : ¬ m.1 0 5 = 40 := by rw [q5]; grind [zm_g]
        rw [q3, q5] at hK1
        obtain ⟨c1, c2, m2, k1, k2, k3, k4⟩ := zm_note (c0 := c) (m0 := m) H (x := x) (by omega) (fun _ _ _ _ _ _ => rfl) rfl q3 (fun _ _ _ _ _ => rfl) rfl (fun _ _ => rfl) q5 hK1 hp hr ht
        simp only [if_pos n1, if_pos n2, zm_bs, k1, k2, k3]
        exact zm_e3 rfl rfl rfl k4
  · simp only [if_neg g, if_neg z2, if_pos z0]
    exact zm_e3 rfl rfl rfl H
theorem t_mend {V : Nat → (Nat → Int32) → Prop} {c m : zx_M} (H : zm_R V c m) (a b v : Int32) : zm_ok V (f_C_mend a b v) (f_M_mend a b v) c m := by
  obtain ⟨hN, -⟩ := id H
  obtain ⟨⟨k, hk, n1, n2⟩, -, r3, r4⟩ := id hN
  have z0 : (0 : Int32) = 0 := rfl
  have z1 : ¬ ((1 : Int32) = 0) := by decide
  unfold zm_ok f_C_mend f_M_mend
  rw [zm_isThere a b n1, zm_placeOf a b hk n2]
  simp only [zm_bs]
  by_cases A : 0 ≤ b ∧ b < 4 ∧ 0 ≤ a ∧ a < Int32.ofNat k
  · obtain ⟨w, hw, eb⟩ := zm_in (v := b) (n := 4) (by omega) (by grind) (by grind)
    obtain ⟨j, hj, ea⟩ := zm_in (v := a) (n := k) (by omega) (by grind) (by grind)
    have e : 7 * b + a = Int32.ofNat (7 * w + j) := by subst eb; subst ea; grind [zm_g]
    have e0 : ¬ Int32.ofNat (7 * w + j) < 0 := zm_nn (by omega)
    have hjn : Int32.ofNat j < m.1 0 6 := by rw [n2]; grind [zm_g]
    have A1 : (0 ≤ b ∧ b < 4 ∧ 0 ≤ a ∧ a < Int32.ofNat k) ∨ (4 ≤ b ∧ b ≤ 11 ∧ a = 0) := Or.inl A
    simp only [if_pos A1, if_pos A, if_neg z1, e, if_neg e0]
    refine zm_mend H (w := w) (by omega) eb (Or.inr ⟨j, w, by omega, hw, hjn, rfl, ea, eb⟩) (Or.inr ⟨hw, j, by omega, hjn, rfl⟩) (fun c1 u2 u3 => ?_)
    rw [zm_told_j (by omega) hw ea eb, u3, r4 j (by omega) w hw]
  by_cases B : 4 ≤ b ∧ b ≤ 11 ∧ a = 0
  · obtain ⟨i, hi, e⟩ := zm_in (v := b - 4) (n := 8) (by omega) (by grind) (by grind)
    have e1 : b = Int32.ofNat (4 + i) := by grind [zm_g]
    have e2 : 24 + b = Int32.ofNat (28 + i) := by grind [zm_g]
    have e0 : ¬ Int32.ofNat (28 + i) < 0 := zm_nn (by omega)
    have A1 : (0 ≤ b ∧ b < 4 ∧ 0 ≤ a ∧ a < Int32.ofNat k) ∨ (4 ≤ b ∧ b ≤ 11 ∧ a = 0) := Or.inr B
    simp only [if_pos A1, if_neg A, if_pos B, if_neg z1, e2, if_neg e0]
    refine zm_mend H (w := 4 + i) (by omega) e1 (Or.inl ⟨by omega, by omega, B.2.2, by rw [e1, show 28 + i - 24 = 4 + i by omega]⟩) (Or.inl ⟨by omega, by omega⟩) (fun c1 u2 u3 => ?_)
    rw [zm_told_f hi e1, u2, r3 i hi]
  · have n : ¬ ((0 ≤ b ∧ b < 4 ∧ 0 ≤ a ∧ a < Int32.ofNat k) ∨ (4 ≤ b ∧ b ≤ 11 ∧ a = 0)) := fun q => q.elim A B
    have nm : (-1 : Int32) < 0 := by decide
    simp only [if_neg n, if_neg A, if_neg B, if_pos z0, if_pos nm]
    exact zm_e3 rfl rfl rfl H
