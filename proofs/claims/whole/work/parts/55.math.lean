theorem za_R {V : Nat → (Nat → Int32) → Prop} {c m c' m' : zx_M} (H : zm_R V c m) {r : Nat} (c1 : c'.2 = c.2) (c2 : ∀ q, ¬ q = 38 → ¬ q = 40 → c'.1 q = c.1 q) (c3 : ∀ k, ¬ k = 3 → ¬ k = 4 → ¬ k = 5 → c'.1 38 k = c.1 38 k) (c4 : c'.1 38 3 = Int32.ofNat r) (m1 : m'.2 = m.2) (m2 : ∀ q, ¬ q = 0 → ¬ q = 18 → m'.1 q = m.1 q) (m3 : ∀ k, ¬ k = 46 → ¬ k = 47 → ¬ k = 48 → m'.1 0 k = m.1 0 k) (m4 : m'.1 0 46 = Int32.ofNat r) (hr : r ≤ 1000) (h : ∀ i < 24, i < r → c'.1 40 i = m'.1 18 i) : zm_R V c' m' := by
  obtain ⟨hN, hK, hT, hL, hS, hD, hP, hB⟩ := H
  have k : ∀ q, ¬ q = 38 → ¬ q = 40 → c'.1 q = c.1 q := c2
  have l : ∀ q, ¬ q = 0 → ¬ q = 18 → m'.1 q = m.1 q := m2
  have w : ∀ q, ¬ q = 46 → ¬ q = 47 → ¬ q = 48 → m'.1 0 q = m.1 0 q := m3
  refine ⟨?_, ?_, ?_, ?_, ?_, ?_, ?_, ?_⟩
  · rw [k 1 (by omega) (by omega), k 2 (by omega) (by omega), k 3 (by omega) (by omega), w 6 (by omega) (by omega) (by omega), l 1 (by omega) (by omega)]; exact hN
  · rw [k 4 (by omega) (by omega), k 5 (by omega) (by omega), k 6 (by omega) (by omega), k 7 (by omega) (by omega), k 8 (by omega) (by omega), w 5 (by omega) (by omega) (by omega), w 4 (by omega) (by omega) (by omega), w 6 (by omega) (by omega) (by omega), l 1 (by omega) (by omega), l 2 (by omega) (by omega), l 3 (by omega) (by omega), l 4 (by omega) (by omega)]; exact hK
  · rw [k 9 (by omega) (by omega), k 10 (by omega) (by omega), w 8 (by omega) (by omega) (by omega), l 5 (by omega) (by omega)]; exact hT
  · rw [k 12 (by omega) (by omega), k 13 (by omega) (by omega), w 10 (by omega) (by omega) (by omega), l 6 (by omega) (by omega)]; exact hL
  · rw [c1, m1, k 16 (by omega) (by omega), k 17 (by omega) (by omega), w 43 (by omega) (by omega) (by omega), l 19 (by omega) (by omega), l 20 (by omega) (by omega)]; exact hS
  · rw [k 26 (by omega) (by omega), k 27 (by omega) (by omega), k 28 (by omega) (by omega), k 29 (by omega) (by omega), k 30 (by omega) (by omega), k 31 (by omega) (by omega), w 28 (by omega) (by omega) (by omega), w 29 (by omega) (by omega) (by omega), w 30 (by omega) (by omega) (by omega), w 31 (by omega) (by omega) (by omega), w 35 (by omega) (by omega) (by omega), w 36 (by omega) (by omega) (by omega), w 37 (by omega) (by omega) (by omega), w 38 (by omega) (by omega) (by omega), w 39 (by omega) (by omega) (by omega), l 13 (by omega) (by omega), l 14 (by omega) (by omega), l 15 (by omega) (by omega)]; exact hD
  · rw [k 0 (by omega) (by omega), k 32 (by omega) (by omega), k 33 (by omega) (by omega), k 34 (by omega) (by omega), k 35 (by omega) (by omega), k 36 (by omega) (by omega), k 37 (by omega) (by omega), w 40 (by omega) (by omega) (by omega), w 41 (by omega) (by omega) (by omega), l 16 (by omega) (by omega)]; exact hP
  · obtain ⟨n, b0, b1, b2, b3, b4, b5, b6⟩ := hB
    refine ⟨n, b0, by rw [c3 1 (by omega) (by omega) (by omega)]; exact b1, by rw [w 43 (by omega) (by omega) (by omega)]; exact b2, by rw [c4, m4], by rw [m4]; exact Int32.not_lt.mp (zm_nn (by omega)), fun i hi => by rw [k 39 (by omega) (by omega), l 17 (by omega) (by omega)]; exact b5 i hi, fun i hi hir => h i hi ?_⟩
    rw [m4] at hir
    have e1 := zm_g (k := i) (by omega)
    have e2 := zm_g (k := r) (by omega)
    grind
theorem t_act {V : Nat → (Nat → Int32) → Prop} {c m : zx_M} (H : zm_R V c m) (v w x : Int32) : zm_ok V (f_C_act v w x) (f_M_act v w x) c m := by
  obtain ⟨hN, hK, hT, hL, hS, hD, hP, hB⟩ := id H
  obtain ⟨n, b0, b1, b2, b3, b4, b5, b6⟩ := id hB
  have z1 : ¬ ((1 : Int32) = 0) := by decide
  have z2 : ¬ ¬ ((0 : Int32) = 0) := fun h => h rfl
  have u1 : (zx_u1 c 38 3 0).1 38 1 = Int32.ofNat n := by simp [zm_u11, zm_upd, b1]
  have u2 : (zx_u1 m 0 46 0).1 0 43 = Int32.ofNat n := by simp [zm_u11, zm_upd, b2]
  unfold zm_ok f_C_act f_M_act f_Acts_play
  simp only [zm_let, zm_isBodyC v _ u1, zm_isBodyM v _ b0 u2, zm_bs]
  by_cases a : 0 ≤ v ∧ v < Int32.ofNat n
  rotate_left
  · simp only [if_neg a, ↓reduceIte, if_neg z2, zm_bs]
    refine zm_e3 rfl rfl rfl (za_R H (r := 0) rfl (fun q h1 h2 => ?_) (fun q h1 _ _ => ?_) ?_ rfl (fun q h1 h2 => ?_) (fun q h1 _ _ => ?_) ?_ (by omega) (fun i _ h => absurd h (by omega)))
    · rw [zm_u11, if_neg h1]
    · rw [zm_u11, if_pos rfl, zm_upd, if_neg h1]
    · simp [zm_u11, zm_upd]
    · rw [zm_u11, if_neg h1]
    · rw [zm_u11, if_pos rfl, zm_upd, if_neg h1]
    · simp [zm_u11, zm_upd]
  obtain ⟨b, hb, rfl⟩ := zm_in (v := v) (n := n) (by omega) (by grind) (by grind)
  obtain ⟨k1, k2, k3⟩ := b5 b hb
  obtain ⟨K, hK8, hKe⟩ := zm_in (v := m.1 17 b) (n := 8) (by omega) (by grind) (by grind)
  have u17 : (zx_u1 m 0 46 0).1 17 b = Int32.ofNat K := by rw [zm_u11, if_neg (by omega)]; exact hKe
  simp only [if_pos a, if_neg z1, if_pos z1, zm_ix (show b < 50 by omega) (by omega), zm_bs, u17]
  generalize hm7 : zx_u1 (zx_u1 (zx_u1 m 0 46 0) 0 47 (Int32.ofNat K)) 0 48 (Int32.ofNat b) = m7
  have p1 : m7.2 = m.2 := by rw [← hm7]; simp only [zm_u12]
  have p2 : ∀ q, ¬ q = 0 → m7.1 q = m.1 q := fun q h => by rw [← hm7, zm_u11, if_neg h, zm_u11, if_neg h, zm_u11, if_neg h]
  have p3 : ∀ k, ¬ k = 46 → ¬ k = 47 → ¬ k = 48 → m7.1 0 k = m.1 0 k := fun k h1 h2 h3 => by rw [← hm7]; simp [zm_u11, zm_upd, h1, h2, h3]
  have p4 : m7.1 0 46 = 0 := by rw [← hm7]; simp [zm_u11, zm_upd]
  have p5 : m7.1 0 47 = Int32.ofNat K := by rw [← hm7]; simp [zm_u11, zm_upd]
  have p6 : m7.1 0 48 = Int32.ofNat b := by rw [← hm7]; simp [zm_u11, zm_upd]
  by_cases g : 0 ≤ w ∧ w ≤ 3
  rotate_left
  · have e0 : ¬ w = 0 := by grind
    have e1 : ¬ w = 1 := by grind
    have e2 : ¬ w = 2 := by grind
    have e3 : ¬ w = 3 := by grind
    have hC : (if w < 0 then (some ((0 : Int32), zx_u1 c 38 3 0) : Option (Int32 × zx_M)) else if w ≤ 3 then (f_Acts_kindOf (Int32.ofNat b) (zx_u1 (zx_u1 c 38 3 0) 38 4 (Int32.ofNat b))).bind fun r9 => ((g_from_more_own_plain 64).2.1 ((zx_u1 (zx_u1 (zx_u1 c 38 3 0) 38 4 (Int32.ofNat b)) 38 5 r9).1 38 5) w x 0 (zx_u1 (zx_u1 (zx_u1 c 38 3 0) 38 4 (Int32.ofNat b)) 38 5 r9)).bind fun p => some (p.1, p.2) else some (0, zx_u1 c 38 3 0)) = some (0, zx_u1 c 38 3 0) := by
      by_cases q : w < 0
      · rw [if_pos q]
      · have q' : ¬ w ≤ 3 := fun h => g ⟨Int32.not_lt.mp q, h⟩
        rw [if_neg q, if_neg q']
    simp only [if_neg e0, if_neg e1, if_neg e2, if_neg e3, hC, zm_bs]
    refine zm_e3 rfl rfl rfl (za_R H (r := 0) rfl (fun q h1 h2 => ?_) (fun q h1 _ _ => ?_) ?_ p1 (fun q h1 h2 => p2 q h1) (fun q h1 h2 h3 => p3 q h1 h2 h3) p4 (by omega) (fun i _ h => absurd h (by omega)))
    · rw [zm_u11, if_neg h1]
    · rw [zm_u11, if_pos rfl, zm_upd, if_neg h1]
    · simp [zm_u11, zm_upd]
  have g1 : ¬ w < 0 := Int32.not_lt.mpr g.1
  have kind : f_Acts_kindOf (Int32.ofNat b) (zx_u1 (zx_u1 c 38 3 0) 38 4 (Int32.ofNat b)) = some (Int32.ofNat K) := by
    have v1 : (zx_u1 (zx_u1 c 38 3 0) 38 4 (Int32.ofNat b)).1 38 1 = Int32.ofNat n := by simp [zm_u11, zm_upd, b1]
    have v2 : ¬ 50 ≤ Int32.ofNat b := by grind [zm_g]
    unfold f_Acts_kindOf
    rw [zm_isBodyC _ _ v1, zm_bs, if_pos a, if_neg z1, if_neg v2, zm_ix (by omega) (by omega), zm_bs, zm_u11, if_neg (by omega), zm_u11, if_neg (by omega), k1, hKe]
  simp only [if_neg g1, if_pos g.2, kind, zm_bs]
  generalize hc5 : zx_u1 (zx_u1 (zx_u1 c 38 3 0) 38 4 (Int32.ofNat b)) 38 5 (Int32.ofNat K) = c5
  have q1 : c5.2 = c.2 := by rw [← hc5]; simp only [zm_u12]
  have q2 : ∀ q, ¬ q = 38 → c5.1 q = c.1 q := fun q h => by rw [← hc5, zm_u11, if_neg h, zm_u11, if_neg h, zm_u11, if_neg h]
  have q3 : ∀ k, ¬ k = 3 → ¬ k = 4 → ¬ k = 5 → c5.1 38 k = c.1 38 k := fun k h1 h2 h3 => by rw [← hc5]; simp [zm_u11, zm_upd, h1, h2, h3]
  have q4 : c5.1 38 3 = 0 := by rw [← hc5]; simp [zm_u11, zm_upd]
  have q5 : c5.1 38 4 = Int32.ofNat b := by rw [← hc5]; simp [zm_u11, zm_upd]
  have q6 : c5.1 38 5 = Int32.ofNat K := by rw [← hc5]; simp [zm_u11, zm_upd]
  have hn : c5.1 38 4 = m7.1 0 48 := by rw [q5, p6]
  have T0 : za_T c5 m7 c5 m7 0 := ⟨rfl, fun _ _ _ => rfl, fun _ _ => rfl, q4, rfl, fun _ _ _ => rfl, fun _ _ => rfl, p4, fun i _ h => absurd h (by omega)⟩
  have fin : ∀ {L : Nat} {hc hm : zx_M → Option (Int32 × zx_M)}, L ≤ 20 → za_S c5 m7 L hc hm → ∃ r c' m', ((hc c5).bind fun p => some (p.1, p.2)) = some (r, c') ∧ ((hm m7).bind fun p => some (p.1, p.2)) = some (r, m') ∧ zm_R V c' m' := by
    intro L hc hm hL S
    obtain ⟨y, c', m', r, f1, f2, T, hr⟩ := S c5 m7 0 (by omega) T0
    obtain ⟨t1, t2, t3, t4, t5, t6, t7, t8, t9⟩ := T
    refine ⟨y, c', m', by rw [f1, zm_bs], by rw [f2, zm_bs], za_R H (r := r) (by rw [t1, q1]) (fun q h1 h2 => by rw [t2 q h1 h2, q2 q h1]) (fun k h1 h2 h3 => by rw [t3 k h1, q3 k h1 h2 h3]) t4 (by rw [t5, p1]) (fun q h1 h2 => by rw [t6 q h1 h2, p2 q h1]) (fun k h1 h2 h3 => by rw [t7 k h1, p3 k h1 h2 h3]) t8 (by omega) t9⟩
  have pb : ∀ (o : Option (Int32 × zx_M)), (o.bind fun p => (some (p.1, p.2) : Option (Int32 × zx_M))) = o := fun o => by cases o <;> rfl
  rw [p5, q6]
  obtain ⟨w', hw', rfl⟩ := zm_in (v := w) (n := 4) (by omega) (by grind) (by grind)
  have hc : w' = 0 ∨ w' = 1 ∨ w' = 2 ∨ w' = 3 := by omega
  rcases hc with rfl | rfl | rfl | rfl
  · have S := za_goes hn (k := K) (j := 64) (j2 := 12) (d := 0) hK8 (by omega) (by omega) (by omega) x
    obtain ⟨r, c', m', f1, f2, f3⟩ := fin (by omega) S
    rw [pb] at f1 f2
    refine ⟨r, c', m', ?_, ?_, f3⟩
    · rw [show Int32.ofNat 0 = 0 by rfl] at *
      simp only [f1, zm_bs]
    · rw [if_pos (show Int32.ofNat 0 = 0 by rfl)]
      simp only [f2, zm_bs]
  · have S := za_falls hn q6 p5 hK8 (k := K) (j := 64) (j2 := 12) (d := 0) hK8 (by omega) (by omega) (by omega) x
    obtain ⟨r, c', m', f1, f2, f3⟩ := fin (by omega) S
    rw [pb] at f1 f2
    refine ⟨r, c', m', ?_, ?_, f3⟩
    · rw [show Int32.ofNat 1 = 1 by rfl, show Int32.ofNat 0 = 0 by rfl] at *
      simp only [f1, zm_bs]
    · rw [if_neg (show ¬ Int32.ofNat 1 = 0 by decide), if_pos (show Int32.ofNat 1 = 1 by rfl)]
      simp only [f2, zm_bs]
  · have S := za_steers hn q6 p5 hK8 (k := K) (j := 64) (j2 := 12) (d := 0) hK8 (by omega) (by omega) (by omega) x
    obtain ⟨r, c', m', f1, f2, f3⟩ := fin (by omega) S
    rw [pb] at f1 f2
    refine ⟨r, c', m', ?_, ?_, f3⟩
    · rw [show Int32.ofNat 2 = 2 by rfl, show Int32.ofNat 0 = 0 by rfl] at *
      simp only [f1, zm_bs]
    · rw [if_neg (show ¬ Int32.ofNat 2 = 0 by decide), if_neg (show ¬ Int32.ofNat 2 = 1 by decide), if_pos (show Int32.ofNat 2 = 2 by rfl)]
      simp only [f2, zm_bs]
  · have S := za_tells hn q6 p5 hK8 (k := K) (j := 64) (j2 := 12) (d := 0) hK8 (by omega) (by omega) (by omega) x
    obtain ⟨r, c', m', f1, f2, f3⟩ := fin (by omega) S
    rw [pb] at f1 f2
    refine ⟨r, c', m', ?_, ?_, f3⟩
    · rw [show Int32.ofNat 3 = 3 by rfl, show Int32.ofNat 0 = 0 by rfl] at *
      simp only [f1, zm_bs]
    · rw [if_neg (show ¬ Int32.ofNat 3 = 0 by decide), if_neg (show ¬ Int32.ofNat 3 = 1 by decide), if_neg (show ¬ Int32.ofNat 3 = 2 by decide), if_pos (show Int32.ofNat 3 = 3 by rfl)]
      simp only [f2, zm_bs]
