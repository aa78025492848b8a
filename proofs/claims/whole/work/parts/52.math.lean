theorem t_go {c m : zx_M} (H : zm_R zq_V c m) (v1 v2 : Int32) : zm_ok zq_V (f_C_go v1 v2) (f_M_go v1 v2) c m := by
  obtain ⟨hN, hK, hT, hL, hS, hD, hP, hB⟩ := id H
  obtain ⟨⟨k, hk, k1, k2⟩, -, hf, -⟩ := id hN
  obtain ⟨n, g, n7, n1, n2, r, r2⟩ := zj_ofRD hD
  obtain ⟨d1, d2, d3, d4, d5, d6, d7, d8, d9, d10, d11, d12, -⟩ := id hD
  have z1 : ¬ ((1 : Int32) = 0) := by decide
  have z2 : ¬ ¬ ((0 : Int32) = 0) := fun h => h rfl
  unfold zm_ok f_C_go f_M_go
  rw [zm_isJumperC v1 c k1, zm_isJumperM v1 m hk k2]
  simp only [zm_wt, zm_bs]
  by_cases b : 0 ≤ v2 ∧ v2 ≤ 20
  rotate_left
  · have b' : ¬ (0 ≤ v2.toInt64 ∧ v2.toInt64 ≤ 20) := by grind [zm_gl]
    have hM : (if (if 0 ≤ v1 ∧ v1 < Int32.ofNat k then (1 : Int32) else 0) = 0 then (some ((-2000000000 : Int32), m) : Option (Int32 × zx_M)) else some (-2000000000, m)) = some (-2000000000, m) := by
      by_cases a : (if 0 ≤ v1 ∧ v1 < Int32.ofNat k then (1 : Int32) else 0) = 0
      · rw [if_pos a]
      · rw [if_neg a]
    simp only [if_neg b', ↓reduceIte, hM]
    by_cases b1 : v2 < 0
    · simp only [if_pos b1]; exact zm_e3 rfl rfl rfl H
    · have b2 : 20 < v2 := by grind
      simp only [if_neg b1, if_pos b2]; exact zm_e3 rfl rfl rfl H
  have b' : 0 ≤ v2.toInt64 ∧ v2.toInt64 ≤ 20 := by grind [zm_gl]
  have b1 : ¬ v2 < 0 := Int32.not_lt.mpr b.1
  have b2 : ¬ 20 < v2 := Int32.not_lt.mpr b.2
  simp only [if_pos b', if_neg b1, if_neg b2, if_neg z1]
  by_cases a : 0 ≤ v1 ∧ v1 < Int32.ofNat k
  rotate_left
  · simp only [if_neg a, ↓reduceIte]
    exact zm_e3 rfl rfl rfl H
  obtain ⟨j, hj, rfl⟩ := zm_in (v := v1) (n := k) (by omega) (by grind) (by grind)
  have hj7 : j < 7 := by omega
  simp only [if_pos a, if_neg z1, zm_mayGo hj7 (d11 j hj7), zm_bs, d1, zm_hasGone n7 n2 hj7 (fun q hq => ⟨(r q hq).2.2.2.1, (r q hq).2.2.2.2.1⟩)]
  by_cases e : m.1 0 28 = 0
  · have e' : ¬ (¬ m.1 0 28 = 0 ∧ c.1 27 j = 0) := fun h => h.1 e
    simp only [if_pos e, if_neg e', if_neg z2]
    exact zm_e3 rfl rfl rfl H
  by_cases hgo : ∃ q < n, g q = j
  · have g1 := (r2 j hj7).mpr hgo
    have e' : ¬ (¬ m.1 0 28 = 0 ∧ c.1 27 j = 0) := fun h => by rw [g1] at h; exact z1 h.2
    have hany : zj_any n (fun q => decide (g q = j)) = true := zj_any_iff.mpr (by obtain ⟨q, q1, q2⟩ := hgo; exact ⟨q, q1, decide_eq_true q2⟩)
    simp only [if_neg e, if_neg e', if_neg z2, hany, ↓reduceIte, if_neg z1]
    exact zm_e3 rfl rfl rfl H
  have hno : ∀ q < n, ¬ g q = j := fun q hq h => hgo ⟨q, hq, h⟩
  have g0 : c.1 27 j = 0 := (d11 j hj7).resolve_right (fun h => hgo ((r2 j hj7).mp h))
  have e' : ¬ m.1 0 28 = 0 ∧ c.1 27 j = 0 := ⟨e, g0⟩
  have hany : zj_any n (fun q => decide (g q = j)) = false := by
    cases h : zj_any n (fun q => decide (g q = j))
    · rfl
    · obtain ⟨q, q1, q2⟩ := zj_any_iff.mp h
      exact absurd (of_decide_eq_true q2) (hno q q1)
  have hn : n < 7 := zm_full n7 hj7 (fun q hq => (r q hq).2.2.2.1) (fun q hq => (r q hq).2.2.2.2.2) hno
  have t11 : f_Numbers_told 0 11 c = _ := zm_told_f (k := 7) (by omega) rfl
  have t7 : f_Numbers_told 0 7 c = _ := zm_told_f (k := 3) (by omega) rfl
  rw [hf 7 (by omega)] at t11
  rw [hf 3 (by omega)] at t7
  have i28 : zx_ix 36 28 = some 28 := zm_ix (k := 28) (by omega) (by omega)
  have i29 : zx_ix 36 29 = some 29 := zm_ix (k := 29) (by omega) (by omega)
  have i31 : zx_ix 36 31 = some 31 := zm_ix (k := 31) (by omega) (by omega)
  have i35 : zx_ix 36 35 = some 35 := zm_ix (k := 35) (by omega) (by omega)
  have hway : f_C_way c = some (m.1 1 35) := by unfold f_C_way; rw [t11]; rfl
  have hah : f_C_ahead v2 (m.1 1 35) c = some ((if ¬ m.1 1 35 = 0 then -v2 else v2) * m.1 1 31) := by
    unfold f_C_ahead
    simp only [t7, zm_bs, zm_let]
    by_cases w : m.1 1 35 = 0
    · have w' : ¬ ¬ m.1 1 35 = 0 := fun h => h w
      rw [if_neg w', if_neg w']
      congr 1
      grind
    · rw [if_pos w, if_pos w]
      congr 1
      grind
  have u31 : (zx_u1 m 0 31 (m.1 0 31 + v2)).1 1 = m.1 1 := by rw [zm_u11, if_neg (by omega)]
  have u30 : (zx_u1 m 0 31 (m.1 0 31 + v2)).1 0 30 = m.1 0 30 := by rw [zm_u11, if_pos rfl, zm_upd, if_neg (by omega)]
  have h70 : (if ¬ m.1 1 35 = 0 then n_M_go_n70 (Int32.ofNat j) (m.1 0 30) (-v2) (zx_u1 m 0 31 (m.1 0 31 + v2)) else n_M_go_n70 (Int32.ofNat j) (m.1 0 30) v2 (zx_u1 m 0 31 (m.1 0 31 + v2))) = n_M_go_n70 (Int32.ofNat j) (m.1 0 30) (if ¬ m.1 1 35 = 0 then -v2 else v2) (zx_u1 m 0 31 (m.1 0 31 + v2)) := by
    by_cases w : m.1 1 35 = 0
    · have w' : ¬ ¬ m.1 1 35 = 0 := fun h => h w
      rw [if_neg w', if_neg w']
    · rw [if_pos w, if_pos w]
  simp only [if_neg e, if_pos e', if_pos z1, hany, Bool.false_eq_true, ↓reduceIte, hway, hah, zm_bs, zm_let, i35, u31, u30, h70]
  generalize (if ¬ m.1 1 35 = 0 then -v2 else v2) = T
  -- the reference till it is carried
  unfold n_M_go_n70
  simp only [i31, zm_bs, zm_let, u31]
  generalize hm15 : zx_u1 (zx_u1 m 0 31 (m.1 0 31 + v2)) 0 30 (m.1 0 30 + T * m.1 1 31) = m15
  have a15 : ∀ q, ¬ q = 0 → m15.1 q = m.1 q := fun q hq => by rw [← hm15, zm_u11, if_neg hq, zm_u11, if_neg hq]
  have b15 : ∀ q, ¬ q = 30 → ¬ q = 31 → m15.1 0 q = m.1 0 q := fun q h0 h1 => by rw [← hm15]; simp [zm_u11, zm_upd, h0, h1]
  have c15 : m15.1 0 30 = m.1 0 30 + T * m.1 1 31 := by rw [← hm15]; simp [zm_u11, zm_upd]
  have d15 : m15.1 0 31 = m.1 0 31 + v2 := by rw [← hm15]; simp [zm_u11, zm_upd]
  have e15 : m15.2 = m.2 := by rw [← hm15]; simp only [zm_u12]
  obtain ⟨y, c1, m18, f1, f2, f3, f4, -⟩ := zm_yards (c := c) (m := m15) (by rw [b15 6 (by omega) (by omega), a15 1 (by omega)]; exact hN) (by rw [b15 10 (by omega) (by omega), a15 6 (by omega)]; exact hL) (by rw [b15 6 (by omega) (by omega)]; exact k2) hk hj
  obtain ⟨y1, y2, y3⟩ := f3
  obtain ⟨x1, x2, x3⟩ := f4
  simp only [f1, f2, zm_bs]
  -- the class
  have mg : f_Deed_mayGo_26 (Int32.ofNat j) c1 = some 1 := by
    have h26 := y2 26 (by omega) (by omega)
    have h27 := y2 27 (by omega) (by omega)
    rw [zm_mayGo hj7 (by rw [h27]; exact d11 j hj7), h26, h27, d1, if_pos e']
  unfold f_Deed_sendOut_26
  simp only [mg, zm_bs, if_pos z1, zm_let, zm_ix hj7 (by omega)]
  generalize hc8 : zx_u1 (zx_u1 (zx_u1 (zx_u1 c1 26 4 (c1.1 26 4 + T * m.1 1 31)) 26 5 ((zx_u1 c1 26 4 (c1.1 26 4 + T * m.1 1 31)).1 26 5 + v2)) 27 j 1) 26 7 ((zx_u1 (zx_u1 (zx_u1 c1 26 4 (c1.1 26 4 + T * m.1 1 31)) 26 5 ((zx_u1 c1 26 4 (c1.1 26 4 + T * m.1 1 31)).1 26 5 + v2)) 27 j 1).1 26 7 + 1) = c8
  have h26 := y2 26 (by omega) (by omega)
  have p8 : ∀ q, ¬ q = 26 → ¬ q = 27 → c8.1 q = c1.1 q := fun q q6 q7 => by
    rw [← hc8, zm_u11, if_neg q6, zm_u11, if_neg q7, zm_u11, if_neg q6, zm_u11, if_neg q6]
  have q8 : c8.2 = c.2 := by rw [← hc8]; simp only [zm_u12]; exact y1
  have r84 : c8.1 26 4 = m.1 0 30 + T * m.1 1 31 := by rw [← hc8]; simp [zm_u11, zm_upd, h26, d3]
  have r85 : c8.1 26 5 = m.1 0 31 + v2 := by rw [← hc8]; simp [zm_u11, zm_upd, h26, d4]
  have r87 : c8.1 26 7 = c.1 26 7 + 1 := by rw [← hc8]; simp [zm_u11, zm_upd, h26]
  have r8k : ∀ q, ¬ q = 4 → ¬ q = 5 → ¬ q = 7 → c8.1 26 q = c.1 26 q := fun q q4 q5 q7 => by rw [← hc8]; simp [zm_u11, zm_upd, h26, q4, q5, q7]
  have s8 : c8.1 27 j = 1 := by rw [← hc8]; simp [zm_u11, zm_upd]
  have t8 : ∀ q, ¬ q = j → c8.1 27 q = c.1 27 q := fun q hq => by rw [← hc8]; simp [zm_u11, zm_upd, hq, y2 27 (by omega) (by omega)]
  have J8 : zj_JC28 c8 n (m.1 14) (m.1 15) := by
    refine ⟨n7, by rw [p8 28 (by omega) (by omega), y2 28 (by omega) (by omega)]; exact n1, fun q hq => ?_⟩
    rw [p8 29 (by omega) (by omega), p8 30 (by omega) (by omega), p8 31 (by omega) (by omega), y2 29 (by omega) (by omega), y2 30 (by omega) (by omega), y2 31 (by omega) (by omega)]
    exact ⟨(r q hq).1, (r q hq).2.1, (r q hq).2.2.1⟩
  rw [r84, r85]
  obtain ⟨c9, e9, J9, F9⟩ := zj_join28 J8 hn (m.1 0 31 + v2) (m.1 0 30 + T * m.1 1 31 + y)
  obtain ⟨F91, F92, F93, F94⟩ := F9
  have tt4 : f_Numbers_told 0 4 c9 = _ := zm_told_f (k := 0) (by omega) rfl
  have tt5 : f_Numbers_told 0 5 c9 = _ := zm_told_f (k := 1) (by omega) rfl
  have h92 : c9.1 2 = c.1 2 := by rw [F92 2 (by omega) (by omega) (by omega) (by omega), p8 2 (by omega) (by omega), y2 2 (by omega) (by omega)]
  rw [h92, hf 0 (by omega)] at tt4
  rw [h92, hf 1 (by omega)] at tt5
  have h926 : c9.1 26 = c8.1 26 := F92 26 (by omega) (by omega) (by omega) (by omega)
  have w10 : c9.1 26 10 = m.1 0 39 := by rw [h926, r8k 10 (by omega) (by omega) (by omega)]; exact d9
  have w9 : c9.1 26 9 = m.1 0 38 := by rw [h926, r8k 9 (by omega) (by omega) (by omega)]; exact d8
  unfold f_Numbers_fromMiddle n_Deed_sendOut_26_n99
  simp only [e9, zm_bs, tt4, tt5, w10, w9, zm_let]
  -- the reference, to its end
  have x29 : m18.1 0 29 = Int32.ofNat n := by rw [x3 29 (by omega), b15 29 (by omega) (by omega)]; exact n2
  have v13 : (zx_u1 m18 13 n (Int32.ofNat j)).1 0 29 = Int32.ofNat n := by rw [zm_u11, if_neg (by omega)]; exact x29
  have v31 : (zx_u1 m18 13 n (Int32.ofNat j)).1 0 31 = m.1 0 31 + v2 := by rw [zm_u11, if_neg (by omega), x3 31 (by omega)]; exact d15
  have v14 : (zx_u1 (zx_u1 m18 13 n (Int32.ofNat j)) 14 n (m.1 0 31 + v2)).1 0 29 = Int32.ofNat n := by rw [zm_u11, if_neg (by omega)]; exact v13
  simp only [x29, zm_ix hn (by omega), zm_bs, zm_let, v13, v31, v14, c15, i28, i29, zm_abs]
  generalize hm27 : zx_u1 (zx_u1 (zx_u1 (zx_u1 (zx_u1 m18 13 n (Int32.ofNat j)) 14 n (m.1 0 31 + v2)) 15 n (m.1 0 30 + T * m.1 1 31 + y)) 0 29 ((zx_u1 (zx_u1 (zx_u1 m18 13 n (Int32.ofNat j)) 14 n (m.1 0 31 + v2)) 15 n (m.1 0 30 + T * m.1 1 31 + y)).1 0 29 + 1)) 0 36 ((zx_u1 (zx_u1 (zx_u1 (zx_u1 m18 13 n (Int32.ofNat j)) 14 n (m.1 0 31 + v2)) 15 n (m.1 0 30 + T * m.1 1 31 + y)) 0 29 ((zx_u1 (zx_u1 (zx_u1 m18 13 n (Int32.ofNat j)) 14 n (m.1 0 31 + v2)) 15 n (m.1 0 30 + T * m.1 1 31 + y)).1 0 29 + 1)).1 0 36 + 1) = m27
  have a27 : ∀ q, ¬ q = 0 → ¬ q = 7 → ¬ q = 13 → ¬ q = 14 → ¬ q = 15 → m27.1 q = m.1 q := fun q q0 q7 q13 q14 q15 => by
    rw [← hm27, zm_u11, if_neg q0, zm_u11, if_neg q0, zm_u11, if_neg q15, zm_u11, if_neg q14, zm_u11, if_neg q13, x2 q q0 q7, a15 q q0]
  have b27 : ∀ q, (q < 11 ∨ 15 < q) → ¬ q = 29 → ¬ q = 30 → ¬ q = 31 → ¬ q = 36 → m27.1 0 q = m.1 0 q := fun q hq q29 q30 q31 q36 => by
    rw [← hm27]
    simp [zm_u11, zm_upd, q29, q36, x3 q hq, b15 q q30 q31]
  have c27 : m27.1 0 29 = m.1 0 29 + 1 := by rw [← hm27]; simp [zm_u11, zm_upd, x3 29 (by omega), b15 29 (by omega) (by omega)]
  have d27 : m27.1 0 30 = m.1 0 30 + T * m.1 1 31 := by rw [← hm27]; simp [zm_u11, zm_upd, x3 30 (by omega), c15]
  have e27 : m27.1 0 31 = m.1 0 31 + v2 := by rw [← hm27]; simp [zm_u11, zm_upd, x3 31 (by omega), d15]
  have f27 : m27.1 0 36 = m.1 0 36 + 1 := by rw [← hm27]; simp [zm_u11, zm_upd, x3 36 (by omega), b15 36 (by omega) (by omega)]
  have g27 : ∀ q, m27.1 13 q = upd (m.1 13) n (Int32.ofNat j) q := fun q => by rw [← hm27]; simp [zm_u11, zm_upd, x2 13 (by omega) (by omega), a15 13 (by omega)]
  have h27 : ∀ q, m27.1 14 q = upd (m.1 14) n (m.1 0 31 + v2) q := fun q => by rw [← hm27]; simp [zm_u11, zm_upd, x2 14 (by omega) (by omega), a15 14 (by omega)]
  have i27 : ∀ q, m27.1 15 q = upd (m.1 15) n (m.1 0 30 + T * m.1 1 31 + y) q := fun q => by rw [← hm27]; simp [zm_u11, zm_upd, x2 15 (by omega) (by omega), a15 15 (by omega)]
  have j27 : m27.2 = m.2 := by rw [← hm27]; simp only [zm_u12]; rw [x1, e15]
  rw [b27 38 (by omega) (by omega) (by omega) (by omega) (by omega), b27 39 (by omega) (by omega) (by omega) (by omega) (by omega), a27 1 (by omega) (by omega) (by omega) (by omega) (by omega)]
  generalize hfar : zx_abs (m.1 0 30 + T * m.1 1 31 + y - (m.1 1 28 + m.1 1 29) / 2) = far
  -- what both are afterwards
  have after : ∀ (c' m' : zx_M) (lf lw : Int32), c'.2 = c9.2 → (∀ q, ¬ q = 26 → c'.1 q = c9.1 q) → (∀ q, ¬ q = 9 → ¬ q = 10 → c'.1 26 q = c9.1 26 q) → c'.1 26 9 = lf → c'.1 26 10 = lw → m'.2 = m27.2 → (∀ q, ¬ q = 0 → m'.1 q = m27.1 q) → (∀ q, ¬ q = 38 → ¬ q = 39 → m'.1 0 q = m27.1 0 q) → m'.1 0 38 = lf → m'.1 0 39 = lw → (lw = -2 ∨ 0 ≤ lw) → zm_R zq_V c' m' := by
    intro c' m' lf lw o1 o2 o3 o4 o5 o6 o7 o8 o9 o10 hlw
    have cc : ∀ q, ¬ q = 12 → ¬ q = 14 → ¬ (26 ≤ q ∧ q ≤ 31) → c'.1 q = c.1 q := fun q q12 q14 h => by
      rw [o2 q (by omega), F92 q (by omega) (by omega) (by omega) (by omega), p8 q (by omega) (by omega), y2 q q12 q14]
    have mm : ∀ q, ¬ q = 0 → ¬ q = 7 → ¬ (13 ≤ q ∧ q ≤ 15) → m'.1 q = m.1 q := fun q q0 q7 h => by
      rw [o7 q q0, a27 q q0 q7 (by omega) (by omega) (by omega)]
    have m0 : ∀ q, (q < 11 ∨ 15 < q) → ¬ (29 ≤ q ∧ q ≤ 31) → ¬ q = 36 → ¬ q = 38 → ¬ q = 39 → m'.1 0 q = m.1 0 q := fun q hq h36 h h38 h39 => by
      rw [o8 q h38 h39, b27 q hq (by omega) (by omega) (by omega) h]
    have cl : c'.2 = c.2 := by rw [o1, F91, q8]
    have ml : m'.2 = m.2 := by rw [o6, j27]
    have c12 : c'.1 12 2 = c.1 12 2 := by rw [o2 12 (by omega), F92 12 (by omega) (by omega) (by omega) (by omega), p8 12 (by omega) (by omega), y3]
    refine ⟨?_, ?_, ?_, ?_, ?_, ?_, ?_, ?_⟩
    · rw [cc 1 (by omega) (by omega) (by omega), cc 2 (by omega) (by omega) (by omega), cc 3 (by omega) (by omega) (by omega), m0 6 (by omega) (by omega) (by omega) (by omega) (by omega), mm 1 (by omega) (by omega) (by omega)]; exact hN
    · rw [cc 4 (by omega) (by omega) (by omega), cc 5 (by omega) (by omega) (by omega), cc 6 (by omega) (by omega) (by omega), cc 7 (by omega) (by omega) (by omega), cc 8 (by omega) (by omega) (by omega), m0 5 (by omega) (by omega) (by omega) (by omega) (by omega), m0 4 (by omega) (by omega) (by omega) (by omega) (by omega), m0 6 (by omega) (by omega) (by omega) (by omega) (by omega), mm 1 (by omega) (by omega) (by omega), mm 2 (by omega) (by omega) (by omega), mm 3 (by omega) (by omega) (by omega), mm 4 (by omega) (by omega) (by omega)]; exact hK
    · rw [cc 9 (by omega) (by omega) (by omega), cc 10 (by omega) (by omega) (by omega), m0 8 (by omega) (by omega) (by omega) (by omega) (by omega), mm 5 (by omega) (by omega) (by omega)]; exact hT
    · rw [c12, cc 13 (by omega) (by omega) (by omega), m0 10 (by omega) (by omega) (by omega) (by omega) (by omega), mm 6 (by omega) (by omega) (by omega)]; exact hL
    · rw [cl, ml, cc 16 (by omega) (by omega) (by omega), cc 17 (by omega) (by omega) (by omega), m0 43 (by omega) (by omega) (by omega) (by omega) (by omega), mm 19 (by omega) (by omega) (by omega), mm 20 (by omega) (by omega) (by omega)]; exact hS
    · have hR := zm_RD_go (o2 := c'.1 26) (gone2 := c'.1 27) (js2 := c'.1 29) (jy2 := c'.1 30) (jm2 := c'.1 31) (lf2 := lf) (lw2 := lw) (yd := m.1 0 30 + T * m.1 1 31) (sc := m.1 0 31 + v2) (dn := m.1 0 30 + T * m.1 1 31 + y) (ow2 := m'.1 13) (os2 := m'.1 14) (od2 := m'.1 15) hD hj7 hn n2 (fun q hq => (r q hq).2.2.2) r2 hno (by rw [o3 3 (by omega) (by omega), h926, r8k 3 (by omega) (by omega) (by omega)]) (by rw [o3 4 (by omega) (by omega), h926, r84]) (by rw [o3 5 (by omega) (by omega), h926, r85]) (by rw [o3 6 (by omega) (by omega), h926, r8k 6 (by omega) (by omega) (by omega)]) (by rw [o3 7 (by omega) (by omega), h926, r87]) (by rw [o3 8 (by omega) (by omega), h926, r8k 8 (by omega) (by omega) (by omega)]) o4 o5 hlw (by rw [o2 27 (by omega), F92 27 (by omega) (by omega) (by omega) (by omega), s8]) (fun q hq hqj => by rw [o2 27 (by omega), F92 27 (by omega) (by omega) (by omega) (by omega), t8 q hqj]) (fun q hq => by
        rw [o2 31 (by omega)]
        rcases F94 q with h | h | h
        · rw [h, p8 31 (by omega) (by omega), y2 31 (by omega) (by omega)]; exact d12 q hq
        · exact Or.inl h
        · exact Or.inr h) (fun q hq => by
        rw [o2 29 (by omega), o2 30 (by omega), o2 31 (by omega)]
        exact J9.2.2 q hq) (fun q => by rw [o7 13 (by omega)]; exact g27 q) (fun q => by rw [o7 14 (by omega)]; exact h27 q) (fun q => by rw [o7 15 (by omega)]; exact i27 q)
      have j9 := J9.2.1
      rw [o2 28 (by omega), j9, o9, o10, m0 28 (by omega) (by omega) (by omega) (by omega) (by omega), o8 29 (by omega) (by omega), c27, o8 30 (by omega) (by omega), d27, o8 31 (by omega) (by omega), e27, m0 35 (by omega) (by omega) (by omega) (by omega) (by omega), o8 36 (by omega) (by omega), f27, m0 37 (by omega) (by omega) (by omega) (by omega) (by omega)]
      exact hR
    · rw [cc 0 (by omega) (by omega) (by omega), cc 32 (by omega) (by omega) (by omega), cc 33 (by omega) (by omega) (by omega), cc 34 (by omega) (by omega) (by omega), cc 35 (by omega) (by omega) (by omega), cc 36 (by omega) (by omega) (by omega), cc 37 (by omega) (by omega) (by omega), m0 40 (by omega) (by omega) (by omega) (by omega) (by omega), m0 41 (by omega) (by omega) (by omega) (by omega) (by omega), mm 16 (by omega) (by omega) (by omega)]; exact hP
    · rw [cc 38 (by omega) (by omega) (by omega), cc 39 (by omega) (by omega) (by omega), cc 40 (by omega) (by omega) (by omega), m0 43 (by omega) (by omega) (by omega) (by omega) (by omega), m0 46 (by omega) (by omega) (by omega) (by omega) (by omega), mm 17 (by omega) (by omega) (by omega), mm 18 (by omega) (by omega) (by omega)]; exact hB
  -- and whether this is the farthest
  have noted : zm_R zq_V (zx_u1 (zx_u1 c9 26 9 far) 26 10 (Int32.ofNat j)) (zx_u1 (zx_u1 m27 0 38 far) 0 39 (Int32.ofNat j)) := by
    refine after _ _ far (Int32.ofNat j) rfl (fun q hq => ?_) (fun q q9 q10 => ?_) ?_ ?_ rfl (fun q hq => ?_) (fun q q38 q39 => ?_) ?_ ?_ (Or.inr (Int32.not_lt.mp (zm_nn (by omega))))
    · rw [zm_u11, if_neg hq, zm_u11, if_neg hq]
    · simp [zm_u11, zm_upd, q9, q10]
    · simp [zm_u11, zm_upd]
    · simp [zm_u11, zm_upd]
    · rw [zm_u11, if_neg hq, zm_u11, if_neg hq]
    · simp [zm_u11, zm_upd, q38, q39]
    · simp [zm_u11, zm_upd]
    · simp [zm_u11, zm_upd]
  have kept : zm_R zq_V c9 m27 := after c9 m27 (m.1 0 38) (m.1 0 39) rfl (fun _ _ => rfl) (fun _ _ _ => rfl) w9 w10 rfl (fun _ _ => rfl) (fun _ _ _ => rfl) (b27 38 (by omega) (by omega) (by omega) (by omega) (by omega)) (b27 39 (by omega) (by omega) (by omega) (by omega) (by omega)) d10
  unfold n_M_go_n186
  simp only [zm_let]
  by_cases w : m.1 0 39 = -2
  · have w' : ¬ 0 ≤ m.1 0 39 := by rw [w]; decide
    simp only [if_pos w, if_neg w']
    by_cases x : m.1 0 38 < far
    · simp only [if_pos x]; exact zm_e3 rfl rfl rfl noted
    · simp only [if_neg x]; exact zm_e3 rfl rfl rfl noted
  · have w' : 0 ≤ m.1 0 39 := d10.resolve_left w
    simp only [if_neg w, if_pos w']
    by_cases x : m.1 0 38 < far
    · have x' : ¬ far ≤ m.1 0 38 := Int32.not_le.mpr x
      simp only [if_pos x, if_neg x']; exact zm_e3 rfl rfl rfl noted
    · have x' : far ≤ m.1 0 38 := Int32.not_lt.mp x
      simp only [if_neg x, if_pos x']; exact zm_e3 rfl rfl rfl kept
