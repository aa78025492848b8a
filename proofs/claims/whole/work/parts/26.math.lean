/-! a new jumper -/
def zm_new (k : Nat) (a b e : Int32) (f : Nat → Int32) : Nat → Int32 := fun q => if q = 21 + k then 0 else if q = 14 + k then e else if q = 7 + k then b else if q = k then a else f q
theorem zm_new_o {k : Nat} {a b e : Int32} {f : Nat → Int32} {q : Nat} (h : ¬ q = 21 + k ∧ ¬ q = 14 + k ∧ ¬ q = 7 + k ∧ ¬ q = k) : zm_new k a b e f q = f q := by
  unfold zm_new; rw [if_neg h.1, if_neg h.2.1, if_neg h.2.2.1, if_neg h.2.2.2]
theorem zm_rng_new {k : Nat} (hk : k < 7) {a b e : Int32} (ha : 1 ≤ a ∧ a ≤ 9) (hb : 0 ≤ b ∧ b ≤ 9) (he : 0 ≤ e ∧ e ≤ 1) {f : Nat → Int32} (R : zm_rng (Int32.ofNat k) f) : zm_rng (Int32.ofNat (k + 1)) (zm_new k a b e f) := by
  obtain ⟨r1, r2, r3, r4, r5⟩ := R
  refine ⟨fun j hj hn => ?_, fun j hj hn => ?_, ?_, ?_, ?_⟩
  · by_cases g : j = k
    · subst g
      have e1 : zm_new j a b e f j = a := by
        unfold zm_new; rw [if_neg (by omega), if_neg (by omega), if_neg (by omega), if_pos rfl]
      have e2 : zm_new j a b e f (7 + j) = b := by
        unfold zm_new; rw [if_neg (by omega), if_neg (by omega), if_pos rfl]
      have e3 : zm_new j a b e f (14 + j) = e := by
        unfold zm_new; rw [if_neg (by omega), if_pos rfl]
      have e4 : zm_new j a b e f (21 + j) = 0 := by
        unfold zm_new; rw [if_pos rfl]
      rw [e1, e2, e3, e4]
      exact ⟨ha, hb, he, by decide, by decide⟩
    · have g1 : Int32.ofNat j < Int32.ofNat k := by grind [zm_g]
      rw [zm_new_o (q := j) (by omega), zm_new_o (q := 7 + j) (by omega), zm_new_o (q := 14 + j) (by omega), zm_new_o (q := 21 + j) (by omega)]
      exact r1 j hj g1
  · have g1 : ¬ Int32.ofNat j < Int32.ofNat k := by grind [zm_g]
    have g2 : ¬ j = k := by rintro rfl; exact hn (by grind [zm_g])
    rw [zm_new_o (q := 21 + j) (by omega)]
    exact r2 j hj g1
  · rw [zm_new_o (by omega)]; exact r3
  · rw [zm_new_o (by omega), zm_new_o (by omega)]; exact r4
  · rw [zm_new_o (by omega)]; exact r5
theorem zm_welcome {V : Nat → (Nat → Int32) → Prop} {c m : zx_M} (H : zm_R V c m) {k : Nat} (hk : k < 7) (hn : m.1 0 6 = Int32.ofNat k) {a b e : Int32} (ha : 1 ≤ a ∧ a ≤ 9) (hb : 0 ≤ b ∧ b ≤ 9) (he : 0 ≤ e ∧ e ≤ 1) : ∃ c' m', f_Numbers_welcome a b e c = some (Int32.ofNat k, c') ∧ f_M_adds a b e m = some m' ∧ m'.1 0 6 = Int32.ofNat (k + 1) ∧ (∀ r, ¬ r = 1 → ¬ r = 3 → c'.1 r = c.1 r) ∧ c'.2 = c.2 ∧ (∀ r, ¬ r = 0 → ¬ r = 1 → m'.1 r = m.1 r) ∧ m'.2 = m.2 ∧ zm_R V c' m' := by
  obtain ⟨hN, hK, hT, hL, hS, hD, hP, hB⟩ := id H
  obtain ⟨⟨k', hk', n1, n2⟩, r2, r3, r4⟩ := hN
  have ek : k' = k := by rw [hn] at n2; grind [zm_g]
  subst ek
  have c7 : Int32.ofNat k' < 7 := by grind [zm_g]
  have s1 : Int32.ofNat k' + 1 = Int32.ofNat (k' + 1) := by simp
  have i0 : zx_ix 36 (Int32.ofNat k') = some k' := zm_ix (by omega) (by omega)
  have i1 : zx_ix 36 (7 + Int32.ofNat k') = some (7 + k') := by
    rw [show 7 + Int32.ofNat k' = Int32.ofNat (7 + k') by simp]; exact zm_ix (by omega) (by omega)
  have i2 : zx_ix 36 (14 + Int32.ofNat k') = some (14 + k') := by
    rw [show 14 + Int32.ofNat k' = Int32.ofNat (14 + k') by simp]; exact zm_ix (by omega) (by omega)
  have i3 : zx_ix 36 (21 + Int32.ofNat k') = some (21 + k') := by
    rw [show 21 + Int32.ofNat k' = Int32.ofNat (21 + k') by simp]; exact zm_ix (by omega) (by omega)
  have t0 : ∀ c0 x, f_Numbers_tell (Int32.ofNat k') 0 x c0 = some (zx_u1 c0 3 (4 * k' + 0) x) := fun c0 x => zm_tell_j c0 hk (w := 0) (by omega) x
  have t1 : ∀ c0 x, f_Numbers_tell (Int32.ofNat k') 1 x c0 = some (zx_u1 c0 3 (4 * k' + 1) x) := fun c0 x => zm_tell_j c0 hk (w := 1) (by omega) x
  have t2 : ∀ c0 x, f_Numbers_tell (Int32.ofNat k') 2 x c0 = some (zx_u1 c0 3 (4 * k' + 2) x) := fun c0 x => zm_tell_j c0 hk (w := 2) (by omega) x
  have hF : (zx_u1 (zx_u1 (zx_u1 (zx_u1 (zx_u1 m 1 k' a) 1 (7 + k') b) 1 (14 + k') e) 1 (21 + k') 0) 0 6 (Int32.ofNat (k' + 1))).1 1 = zm_new k' a b e (m.1 1) := by
    funext q
    simp [zm_u11, zm_upd, zm_new]
  refine ⟨zx_u1 (zx_u1 (zx_u1 (zx_u1 c 1 2 (Int32.ofNat (k' + 1))) 3 (4 * k' + 0) a) 3 (4 * k' + 1) b) 3 (4 * k' + 2) e, zx_u1 (zx_u1 (zx_u1 (zx_u1 (zx_u1 m 1 k' a) 1 (7 + k') b) 1 (14 + k') e) 1 (21 + k') 0) 0 6 (Int32.ofNat (k' + 1)), ?_, ?_, ?_, ?_, rfl, ?_, rfl, ?_⟩
  · unfold f_Numbers_welcome
    simp only [n1, if_pos c7, zm_let, t0, t1, t2, zm_bs, s1]
  · unfold f_M_adds
    have x1 : ∀ (m0 : zx_M) (q : Nat) (x : Int32), (zx_u1 m0 1 q x).1 0 6 = m0.1 0 6 := fun m0 q x => by simp [zm_u11]
    simp only [hn, i0, i1, i2, i3, zm_bs, zm_let, x1, s1]
  · simp [zm_u11, zm_upd]
  · intro r h1 h3; simp [zm_u11, h1, h3]
  · intro r h0 h1; simp [zm_u11, h0, h1]
  · have key : zm_RK (c.1 4 5) (c.1 4 6) (c.1 5) (c.1 6) (c.1 7) (c.1 8) (m.1 0 5) (m.1 0 4) (m.1 2) (m.1 3) (m.1 4) (Int32.ofNat (k' + 1)) (zm_new k' a b e (m.1 1)) := by
      obtain ⟨x, y, p, F, q1, q2, q3, q4, q5, q6, q7, q8, q9⟩ := hK
      rw [hn] at q7 q9
      refine ⟨x, y, p, fun i => zm_new k' a b e (F i), q1, q2, q3, q4, q5, q6, fun i hi => zm_rng_new hk ha hb he (q7 i hi), fun q hq => ?_, fun i hi => ?_⟩
      · show zm_new k' a b e (F x) q = zm_new k' a b e (m.1 1) q
        unfold zm_new
        rw [q8 q hq]
      · obtain ⟨w1, w2, w3, w4, w5, w6⟩ := q9 i hi
        have hp : ¬ p i = 21 + k' ∧ ¬ p i = 14 + k' ∧ ¬ p i = 7 + k' ∧ ¬ p i = k' := by
          rcases w6 with ⟨u1, u2, -⟩ | ⟨j, w, u1, u2, u3, u4, -⟩
          · omega
          · have : j < k' := by grind [zm_g]
            omega
        refine ⟨w1, w2, w3, fun q hq => ?_, ?_, ?_⟩
        · show zm_new k' a b e (F (i + 1)) q = if q = p i then m.1 4 i else zm_new k' a b e (F i) q
          by_cases g : q = p i
          · rw [if_pos g, g, zm_new_o hp, w4 (p i) (by rw [← g]; exact hq), if_pos rfl]
          · rw [if_neg g]
            unfold zm_new
            rw [w4 q hq, if_neg g]
        · show zm_new k' a b e (F i) (p i) = m.1 3 i
          rw [zm_new_o hp]; exact w5
        · rcases w6 with u | ⟨j, w, u1, u2, u3, u4⟩
          · exact Or.inl u
          · exact Or.inr ⟨j, w, u1, u2, by grind [zm_g], u4⟩
    refine ⟨?_, ?_, ?_, ?_, ?_, ?_, ?_, ?_⟩
    · rw [hF]
      refine ⟨⟨k' + 1, by omega, by simp [zm_u11, zm_upd], by simp [zm_u11, zm_upd]⟩, ?_, fun q hq => ?_, fun j hj w hw => ?_⟩
      · have : (zx_u1 (zx_u1 (zx_u1 (zx_u1 (zx_u1 m 1 k' a) 1 (7 + k') b) 1 (14 + k') e) 1 (21 + k') 0) 0 6 (Int32.ofNat (k' + 1))).1 0 6 = Int32.ofNat (k' + 1) := by simp [zm_u11, zm_upd]
        rw [this]
        rw [hn] at r2
        exact zm_rng_new hk ha hb he r2
      · rw [zm_new_o (by omega)]
        simpa [zm_u11] using r3 q hq
      · have r43 := r4 k' hk 3 (by omega)
        have hz : m.1 1 (21 + k') = 0 := r2.2.1 k' hk (by rw [hn]; grind)
        by_cases g : j = k'
        · subst g
          have hw' : w = 0 ∨ w = 1 ∨ w = 2 ∨ w = 3 := by omega
          rcases hw' with rfl | rfl | rfl | rfl
          · simp [zm_u11, zm_upd, zm_new]
          · simp [zm_u11, zm_upd, zm_new]
          · simp [zm_u11, zm_upd, zm_new]
          · simp [zm_u11, zm_upd, zm_new]
            rw [r43]; exact hz
        · have := r4 j hj w hw
          rw [zm_new_o (by omega)]
          simp only [zm_u11, zm_upd, ↓reduceIte]
          rw [if_neg (by omega), if_neg (by omega), if_neg (by omega)]
          exact this
    · rw [hF]; simpa [zm_u11, zm_upd] using key
    · simpa [zm_u11, zm_upd] using hT
    · simpa [zm_u11, zm_upd] using hL
    · simpa [zm_u11, zm_upd, zm_u12] using hS
    · simpa [zm_u11, zm_upd] using hD
    · simpa [zm_u11, zm_upd] using hP
    · simpa [zm_u11, zm_upd] using hB
theorem zm_isOneM (a b e : Int32) (m : zx_M) {z : Int64} (hz : z = e.toInt64) : f_M_isOne a.toInt64 b.toInt64 z m = some (if (1 ≤ a ∧ a ≤ 9) ∧ (0 ≤ b ∧ b ≤ 9) ∧ (0 ≤ e ∧ e ≤ 1) then 1 else 0) := by
  subst hz
  unfold f_M_isOne
  simp only [zm_wt, zm_bs]
  have h1 : (1 ≤ a.toInt64 ∧ a.toInt64 ≤ 9) ↔ 1 ≤ a ∧ a ≤ 9 := by grind [zm_gl]
  have h2 : (0 ≤ b.toInt64 ∧ b.toInt64 ≤ 9) ↔ 0 ≤ b ∧ b ≤ 9 := by grind [zm_gl]
  have h3 : (0 ≤ e.toInt64 ∧ e.toInt64 ≤ 1) ↔ 0 ≤ e ∧ e ≤ 1 := by grind [zm_gl]
  simp only [h1, h2, h3]
  by_cases q1 : 1 ≤ a ∧ a ≤ 9
  · by_cases q2 : 0 ≤ b ∧ b ≤ 9
    · by_cases q3 : 0 ≤ e ∧ e ≤ 1
      · simp [q1, q2, q3]
      · simp [q1, q2, q3]
    · simp [q1, q2]
  · simp [q1]
theorem zm_fit0 {c m : zx_M} (h : zm_RN (c.1 1 2) (c.1 2) (c.1 3) (m.1 0 6) (m.1 1)) (v : Int32) : f_Numbers_fits 0 v c = some (if 1 ≤ v ∧ v ≤ 9 then 1 else 0) := @zm_fitsC c m h 0 (by omega) v (inferInstanceAs (Decidable (1 ≤ v ∧ v ≤ 9)))
theorem zm_fit1 {c m : zx_M} (h : zm_RN (c.1 1 2) (c.1 2) (c.1 3) (m.1 0 6) (m.1 1)) (v : Int32) : f_Numbers_fits 1 v c = some (if 0 ≤ v ∧ v ≤ 9 then 1 else 0) := @zm_fitsC c m h 1 (by omega) v (inferInstanceAs (Decidable (0 ≤ v ∧ v ≤ 9)))
theorem zm_fit2 {c m : zx_M} (h : zm_RN (c.1 1 2) (c.1 2) (c.1 3) (m.1 0 6) (m.1 1)) (v : Int32) : f_Numbers_fits 2 v c = some (if 0 ≤ v ∧ v ≤ 1 then 1 else 0) := @zm_fitsC c m h 2 (by omega) v (inferInstanceAs (Decidable (0 ≤ v ∧ v ≤ 1)))
theorem t_jumper {V : Nat → (Nat → Int32) → Prop} {c m : zx_M} (H : zm_R V c m) (a b : Int32) : zm_ok V (f_C_jumper a b) (f_M_jumper a b) c m := by
  obtain ⟨hN, -⟩ := id H
  obtain ⟨⟨k, hk, n1, n2⟩, -⟩ := id hN
  unfold zm_ok f_C_jumper f_M_jumper
  rw [zm_isOneM a b 0 m (z := 0) rfl]
  simp only [zm_fit0 hN, zm_fit1 hN, zm_bs]
  have z0 : (0 : Int32) = 0 := rfl
  have z1 : ¬ ((1 : Int32) = 0) := by decide
  have z2 : ¬ ¬ ((0 : Int32) = 0) := fun h => h rfl
  have z3 : (0 : Int32) ≤ 0 ∧ (0 : Int32) ≤ 1 := by decide
  by_cases q1 : 1 ≤ a ∧ a ≤ 9
  · by_cases q2 : 0 ≤ b ∧ b ≤ 9
    · simp only [if_pos q1, if_pos q2, if_neg z1, if_pos z1, if_pos (And.intro q1 (And.intro q2 z3)), n2]
      by_cases g : k = 7
      · subst g
        have g1 : ¬ ¬ (Int32.ofNat 7 = 7) := fun h => h rfl
        have g2 : ¬ c.1 1 2 < 7 := by rw [n1]; decide
        unfold f_Numbers_welcome
        simp only [if_neg g1, if_neg g2, zm_bs]
        exact zm_e3 rfl rfl rfl H
      · have g1 : ¬ (Int32.ofNat k = 7) := by grind [zm_g]
        obtain ⟨c', m', f1, f2, f3, -, -, -, -, f8⟩ := zm_welcome H (k := k) (by omega) n2 q1 q2 z3
        simp only [if_pos g1, f1, f2, zm_bs]
        refine zm_e3 rfl rfl ?_ f8
        rw [f3]; grind [zm_g]
    · have n : ¬ ((1 ≤ a ∧ a ≤ 9) ∧ (0 ≤ b ∧ b ≤ 9) ∧ (0 : Int32) ≤ 0 ∧ (0 : Int32) ≤ 1) := fun h => q2 h.2.1
      simp only [if_pos q1, if_neg q2, if_neg z1, if_neg z2, if_neg n]
      exact zm_e3 rfl rfl rfl H
  · have n : ¬ ((1 ≤ a ∧ a ≤ 9) ∧ (0 ≤ b ∧ b ≤ 9) ∧ (0 : Int32) ≤ 0 ∧ (0 : Int32) ≤ 1) := fun h => q1 h.1
    simp only [if_neg q1, if_pos z0, if_neg n, if_neg z2]
    exact zm_e3 rfl rfl rfl H
