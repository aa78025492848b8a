/-! shift, whole -/
theorem t_shift {V : Nat → (Nat → Int32) → Prop} {c m : zx_M} (H : zm_R V c m) (v i e j n : Int32) : zm_ok V (f_C_shift v i e j n) (f_M_shift v i e j n) c m := by
  obtain ⟨hN, hK, hT, hL, hS, hD, hP, hB⟩ := id H
  have z0 : (0 : Int32) = 0 := rfl
  have z1 : ¬ ((1 : Int32) = 0) := by decide
  have z2 : ¬ ¬ ((0 : Int32) = 0) := fun h => h rfl
  unfold zm_ok f_C_shift f_M_shift f_Shelves_holds f_Shelves_copy
  simp only [zm_isShelfC, zm_isShelfM, zm_bs]
  by_cases a : 0 ≤ v ∧ v ≤ 5
  rotate_left
  · simp only [if_neg a, if_pos z0]
    exact zm_e3 rfl rfl rfl H
  obtain ⟨d, hd, rfl⟩ := zm_in (v := v) (n := 6) (by omega) (by grind) (by grind)
  by_cases b : 0 ≤ e ∧ e ≤ 5
  rotate_left
  · simp only [if_pos a, if_neg z1, if_neg b, if_neg z2]
    exact zm_e3 rfl rfl rfl H
  obtain ⟨f, hf, rfl⟩ := zm_in (v := e) (n := 6) (by omega) (by grind) (by grind)
  simp only [if_pos a, if_pos b, if_neg z1, if_pos z1, zm_ix hd (by omega), zm_ix hf (by omega), zm_bs]
  have nn : (-1 : Int32) < 0 := by decide
  have ee : (-1 : Int32) = -1 := rfl
  have e2 : ¬ ((-2 : Int32) = -1) := by decide
  have e3 : (-2 : Int32) = -2 := rfl
  rcases hS d hd with ⟨q1, q2, q3, q4⟩ | ⟨w, hw, hwn, q1, q2, q3, q4⟩ | ⟨t, nd, ht, hn, q1, q2, q3, q4, q5⟩
  · simp only [q1, q3, if_pos nn, if_pos ee]
    exact zm_e3 rfl rfl rfl H
  · have w0 : ¬ Int32.ofNat w < 0 := zm_nn (by omega)
    have w5 : Int32.ofNat w < 50 := by grind [zm_g]
    simp only [q1, q3, if_neg w0, if_neg e2, if_pos e3, if_pos w5]
    rcases hS f hf with ⟨u1, u2, u3, u4⟩ | ⟨x, hx, hxn, u1, u2, u3, u4⟩ | ⟨y, ny, hy, hny, u1, u2, u3, u4, u5⟩
    · have r1 : ¬ ¬ ((-1 : Int32) = -1) := fun h => h rfl
      have r2 : ¬ (0 : Int32) ≤ -1 := by decide
      simp only [u1, u3, if_neg r1, if_neg r2]
      exact zm_e3 rfl rfl rfl H
    · have r2 : (0 : Int32) ≤ Int32.ofNat x := Int32.zero_le_ofNat_of_lt (by omega)
      simp only [u1, u3, if_pos e2, if_pos r2]
      exact zm_e3 rfl rfl rfl H
    · have r1 : ¬ (Int32.ofNat y = -1) := by grind [zm_g]
      have r2 : (0 : Int32) ≤ Int32.ofNat (50 + y) := Int32.zero_le_ofNat_of_lt (by omega)
      simp only [u1, u3, if_pos r1, if_pos r2]
      exact zm_e3 rfl rfl rfl H
  · have w0 : ¬ Int32.ofNat (50 + t) < 0 := zm_nn (by omega)
    have w5 : ¬ Int32.ofNat (50 + t) < 50 := by grind [zm_g]
    have w1 : ¬ (Int32.ofNat t = -1) := by grind [zm_g]
    have w2 : ¬ (Int32.ofNat t = -2) := by grind [zm_g]
    simp only [q1, q2, q3, q4, if_neg w0, if_neg w1, if_neg w2, if_neg w5]
    rcases hS f hf with ⟨u1, u2, u3, u4⟩ | ⟨x, hx, hxn, u1, u2, u3, u4⟩ | ⟨y, ny, hy, hny, u1, u2, u3, u4, u5⟩
    · have r1 : ¬ ¬ ((-1 : Int32) = -1) := fun h => h rfl
      have r2 : ¬ (0 : Int32) ≤ -1 := by decide
      simp only [u1, u3, if_neg r1, if_neg r2]
      exact zm_e3 rfl rfl rfl H
    · have r2 : (0 : Int32) ≤ Int32.ofNat x := Int32.zero_le_ofNat_of_lt (by omega)
      have r3 : ¬ (Int32.ofNat (50 + t) = Int32.ofNat x) := by grind [zm_g]
      simp only [u1, u3, if_pos e2, if_pos r2, if_neg w2, if_neg r3]
      exact zm_e3 rfl rfl rfl H
    · have r1 : ¬ (Int32.ofNat y = -1) := by grind [zm_g]
      have r2 : (0 : Int32) ≤ Int32.ofNat (50 + y) := Int32.zero_le_ofNat_of_lt (by omega)
      by_cases g : t = y
      rotate_left
      · have r3 : ¬ (Int32.ofNat t = Int32.ofNat y) := by grind [zm_g]
        have r4 : ¬ (Int32.ofNat (50 + t) = Int32.ofNat (50 + y)) := by grind [zm_g]
        simp only [u1, u3, if_pos r1, if_pos r2, if_neg r3, if_neg r4]
        exact zm_e3 rfl rfl rfl H
      subst g
      simp only [u1, u2, u3, u4, if_pos r1, if_pos r2, ↓reduceIte, zm_stretch hn, zm_stretch hny, zm_bs]
      by_cases A : 0 ≤ n ∧ 0 ≤ i ∧ i ≤ Int32.ofNat nd - n
      rotate_left
      · simp only [if_neg A, if_pos z0, zm_bs]
        by_cases c1 : n < 0
        · simp only [if_pos c1]; exact zm_e3 rfl rfl rfl H
        by_cases c2 : i < 0
        · simp only [if_neg c1, if_pos c2]; exact zm_e3 rfl rfl rfl H
        by_cases c3 : j < 0
        · simp only [if_neg c1, if_neg c2, if_pos c3]; exact zm_e3 rfl rfl rfl H
        have c4 : Int32.ofNat nd - n < i := by
          apply Int32.not_le.mp
          intro h
          exact A ⟨Int32.not_lt.mp c1, Int32.not_lt.mp c2, h⟩
        simp only [if_neg c1, if_neg c2, if_neg c3, if_pos c4]; exact zm_e3 rfl rfl rfl H
      have c1 : ¬ n < 0 := Int32.not_lt.mpr A.1
      have c2 : ¬ i < 0 := Int32.not_lt.mpr A.2.1
      have c4 : ¬ Int32.ofNat nd - n < i := Int32.not_lt.mpr A.2.2
      by_cases B : 0 ≤ n ∧ 0 ≤ j ∧ j ≤ Int32.ofNat ny - n
      rotate_left
      · simp only [if_pos A, if_neg z1, if_neg B, if_neg z2, zm_bs, if_neg c1, if_neg c2]
        by_cases c3 : j < 0
        · simp only [if_pos c3]; exact zm_e3 rfl rfl rfl H
        have c5 : ¬ j ≤ Int32.ofNat ny - n := fun h => B ⟨A.1, Int32.not_lt.mp c3, h⟩
        simp only [if_neg c3, if_neg c4, if_neg c5]; exact zm_e3 rfl rfl rfl H
      have c3 : ¬ j < 0 := Int32.not_lt.mpr B.2.1
      obtain ⟨n', hn', rfl⟩ := zm_ex A.1
      obtain ⟨i', hi', rfl⟩ := zm_ex A.2.1
      obtain ⟨j', hj', rfl⟩ := zm_ex B.2.1
      have f1 : i' + n' ≤ nd := by
        have := zm_g (k := i') (by omega)
        have := zm_g (k := n') (by omega)
        have := zm_g (k := nd) (by omega)
        have := A.2.2
        grind
      have f2 : j' + n' ≤ ny := by
        have := zm_g (k := j') (by omega)
        have := zm_g (k := n') (by omega)
        have := zm_g (k := ny) (by omega)
        have := B.2.2
        grind
      have g1 : Int32.ofNat d * 60 + Int32.ofNat i' = Int32.ofNat (60 * d + i') := by grind [zm_g]
      have g2 : Int32.ofNat f * 60 + Int32.ofNat j' = Int32.ofNat (60 * f + j') := by grind [zm_g]
      have k1 : (Int32.ofNat (60 * d + i')).toNatClampNeg = 60 * d + i' := Int32.toNatClampNeg_ofNat_of_lt (by omega)
      have k2 : (Int32.ofNat (60 * f + j')).toNatClampNeg = 60 * f + j' := Int32.toNatClampNeg_ofNat_of_lt (by omega)
      have k3 : (Int32.ofNat n').toNatClampNeg = n' := Int32.toNatClampNeg_ofNat_of_lt hn'
      have ck : zx_ck 360 360 (Int32.ofNat (60 * d + i')) (Int32.ofNat (60 * f + j')) (Int32.ofNat n') = some n' := by
        unfold zx_ck
        rw [k1, k2, k3, if_neg]
        rintro (h | h | h | h | h)
        · exact zm_nn (by omega) h
        · exact zm_nn (by omega) h
        · exact zm_nn hn' h
        · omega
        · omega
      obtain ⟨ma, m', p1, p2, p3, p4⟩ := zm_shiftM hd hf (i := i') (j := j') (n := n') (by omega) (by omega) m
      simp only [if_pos A, if_pos B, if_neg z1, if_pos z1, if_neg c1, if_neg c2, if_neg c3, if_neg c4, if_pos B.2.2, g1, g2, ck, zm_bs, zm_let, p1, p2, k1, k2]
      refine zm_e3 rfl rfl rfl ?_
      unfold zm_R
      rw [p3]
      refine ⟨?_, ?_, ?_, ?_, ?_, ?_, ?_, ?_⟩
      · simpa [zm_w21] using hN
      · simpa [zm_w21] using hK
      · simpa [zm_w21] using hT
      · simpa [zm_w21] using hL
      · have := zm_rs_shift hS hd ht q1 u1 q2 hn f1 (by omega : j' + n' ≤ 60) p4
        simpa [zm_w21, zm_w22] using this
      · simpa [zm_w21] using hD
      · simpa [zm_w21] using hP
      · simpa [zm_w21] using hB
