/-! jumpers, whole -/
theorem zm_jumEnd {d i n k : Int32} {m : zx_M} {N : Nat} (hN : 1 ≤ N) : zx_lp N (fun st : Int32 × Int32 × zx_M => b_M_jumpers_l69 d i n st.1 st.2.1 st.2.2) (k, 0, m) = some (k, m) := by
  obtain ⟨N', rfl⟩ : ∃ N', N = N' + 1 := ⟨N - 1, by omega⟩
  unfold zx_lp b_M_jumpers_l69
  simp
theorem zm_jumNo (d i n k : Int32) (m : zx_M) : n_M_jumpers_b69_110 d i n k m = some (.inl (k, 0, m)) := by
  unfold n_M_jumpers_b69_110 n_M_jumpers_b69_111 n_M_jumpers_b69_166 n_M_jumpers_b69_167 n_M_jumpers_b69_209
  simp [zm_let]
theorem zm_jumLt {s k i : Nat} (hs : s ≤ 60) (hk : k ≤ 7) (hi : i < 2 ^ 31) : Int32.ofNat s - 3 - 3 * Int32.ofNat k < Int32.ofNat i ↔ s < i + 3 * k + 3 := by
  have e3 : 3 * Int32.ofNat k = Int32.ofNat (3 * k) := by simp
  have g3 := zm_g (k := 3 * k) (by omega)
  have g4 := zm_g (k := s) (by omega)
  have g5 := zm_g (k := i) hi
  rw [e3]
  generalize Int32.ofNat (3 * k) = y at *
  generalize Int32.ofNat s = x at *
  generalize Int32.ofNat i = z at *
  grind
theorem zm_jumLe {s i : Nat} (hs : s ≤ 60) (hi : i < 2 ^ 31) (h : s < i + 3) : ¬ Int32.ofNat i ≤ Int32.ofNat s - 3 := by
  have g4 := zm_g (k := s) (by omega)
  have g5 := zm_g (k := i) hi
  grind
theorem zm_jumLoop {V : Nat → (Nat → Int32) → Prop} {d s i n : Nat} (hd : d < 6) (hs : s ≤ 60) (hi : i < 2 ^ 31) (hn : n ≤ 7) : ∀ (j k : Nat), k + j = n → ∀ c m : zx_M, zm_R V c m → c.1 16 d = 0 → c.1 17 d = Int32.ofNat s → m.1 19 d = 50 → m.1 20 d = Int32.ofNat s → (k = 0 ∨ i ≤ 60) → ∀ N N' : Nat, j + 1 ≤ N → j + 2 ≤ N' → ∃ r c2 m2, zx_lp N (fun st : Int32 × zx_M => b_C_jumpers_l51 (Int32.ofNat d) (Int32.ofNat i) (Int32.ofNat n) st.1 st.2) (Int32.ofNat k, c) = some (r, c2) ∧ zx_lp N' (fun st : Int32 × Int32 × zx_M => b_M_jumpers_l69 (Int32.ofNat d) (Int32.ofNat i) (Int32.ofNat n) st.1 st.2.1 st.2.2) (Int32.ofNat k, 1, m) = some (r, m2) ∧ zm_R V c2 m2 := by
  intro j
  induction j with
  | zero =>
    intro k hk c m H h1 h2 h3 h4 hki N N' hN hN'
    obtain ⟨N1, rfl⟩ : ∃ N1, N = N1 + 1 := ⟨N - 1, by omega⟩
    obtain ⟨N2, rfl⟩ : ∃ N2, N' = N2 + 1 := ⟨N' - 1, by omega⟩
    have hk' : k = n := by omega
    subst hk'
    have z1 : ¬ ((1 : Int32) = 0) := by decide
    unfold zx_lp b_C_jumpers_l51 b_M_jumpers_l69
    simp only [if_pos (Int32.le_refl _), if_neg z1]
    exact ⟨_, c, m, rfl, rfl, H⟩
  | succ j ih =>
    intro k hk c m H h1 h2 h3 h4 hki N N' hN hN'
    obtain ⟨N1, rfl⟩ : ∃ N1, N = N1 + 1 := ⟨N - 1, by omega⟩
    obtain ⟨N2, rfl⟩ : ∃ N2, N' = N2 + 1 := ⟨N' - 1, by omega⟩
    have z0 : (0 : Int32) = 0 := rfl
    have z1 : ¬ ((1 : Int32) = 0) := by decide
    have g1 : ¬ Int32.ofNat n ≤ Int32.ofNat k := by grind [zm_g]
    have a1 : Int32.ofNat k + 1 = Int32.ofNat (k + 1) := by simp
    have e3 : 3 * Int32.ofNat k = Int32.ofNat (3 * k) := by simp
    have bb : Int32.ofNat s - 3 - 3 * Int32.ofNat k < Int32.ofNat i ↔ s < i + 3 * k + 3 := zm_jumLt hs (by omega) hi
    -- both stop
    have stop : f_C_comesFromRow (Int32.ofNat d) (Int32.ofNat i + 3 * Int32.ofNat k) c = some (0, c) → b_M_jumpers_l69 (Int32.ofNat d) (Int32.ofNat i) (Int32.ofNat n) (Int32.ofNat k) 1 m = some (.inl (Int32.ofNat k, 0, m)) → ∃ r c2 m2, zx_lp (N1 + 1) (fun st : Int32 × zx_M => b_C_jumpers_l51 (Int32.ofNat d) (Int32.ofNat i) (Int32.ofNat n) st.1 st.2) (Int32.ofNat k, c) = some (r, c2) ∧ zx_lp (N2 + 1) (fun st : Int32 × Int32 × zx_M => b_M_jumpers_l69 (Int32.ofNat d) (Int32.ofNat i) (Int32.ofNat n) st.1 st.2.1 st.2.2) (Int32.ofNat k, 1, m) = some (r, m2) ∧ zm_R V c2 m2 := by
      intro s1 s2
      refine ⟨Int32.ofNat k, c, m, ?_, ?_, H⟩
      · unfold zx_lp b_C_jumpers_l51
        simp only [if_neg g1, s1, zm_bs, if_pos z0]
        rfl
      · unfold zx_lp
        simp only [s2]
        exact zm_jumEnd (by omega)
    by_cases f : i + 3 * k + 3 ≤ s
    · have e : Int32.ofNat i + 3 * Int32.ofNat k = Int32.ofNat (i + 3 * k) := by simp
      have b1 : ¬ Int32.ofNat s - 3 - 3 * Int32.ofNat k < Int32.ofNat i := fun h => absurd (bb.mp h) (by omega)
      have b2 : 60 * Int32.ofNat d + Int32.ofNat i + 3 * Int32.ofNat k = Int32.ofNat (60 * d + (i + 3 * k)) := by
        rw [show 60 * d + (i + 3 * k) = 60 * d + i + 3 * k by omega]; simp
      have b3 : Int32.ofNat (60 * d + (i + 3 * k)) + 1 = Int32.ofNat (60 * d + (i + 3 * k) + 1) := by simp
      have b4 : Int32.ofNat (60 * d + (i + 3 * k)) + 2 = Int32.ofNat (60 * d + (i + 3 * k) + 2) := by simp
      have x0 : zx_ix 360 (Int32.ofNat (60 * d + (i + 3 * k))) = some (60 * d + (i + 3 * k)) := zm_ix (by omega) (by omega)
      have x1 : zx_ix 360 (Int32.ofNat (60 * d + (i + 3 * k) + 1)) = some (60 * d + (i + 3 * k) + 1) := zm_ix (by omega) (by omega)
      have x2 : zx_ix 360 (Int32.ofNat (60 * d + (i + 3 * k) + 2)) = some (60 * d + (i + 3 * k) + 2) := zm_ix (by omega) (by omega)
      rcases zm_oneMore H hd hs (p := i + 3 * k) f h1 h2 h3 h4 with ⟨c', m', r1, r2, r3, r4, r5, r6, r7⟩ | ⟨r1, r2⟩
      · obtain ⟨r, c2, m2, y1, y2, y3⟩ := ih (k + 1) (by omega) c' m' r7 (by rw [r5 16 (by omega) (by omega)]; exact h1) (by rw [r5 17 (by omega) (by omega)]; exact h2) (by rw [r6 19 (by omega) (by omega)]; exact h3) (by rw [r6 20 (by omega) (by omega)]; exact h4) (Or.inr (by omega)) N1 N2 (by omega) (by omega)
        refine ⟨r, c2, m2, ?_, ?_, y3⟩
        · unfold zx_lp
          have : b_C_jumpers_l51 (Int32.ofNat d) (Int32.ofNat i) (Int32.ofNat n) (Int32.ofNat k) c = some (.inl (Int32.ofNat (k + 1), c')) := by
            unfold b_C_jumpers_l51
            simp only [if_neg g1, e, r1, zm_bs, if_neg z1, zm_let, a1]
          simp only [this]
          exact y1
        · unfold zx_lp
          have : b_M_jumpers_l69 (Int32.ofNat d) (Int32.ofNat i) (Int32.ofNat n) (Int32.ofNat k) 1 m = some (.inl (Int32.ofNat (k + 1), 1, m')) := by
            unfold b_M_jumpers_l69 n_M_jumpers_b69_111 n_M_jumpers_b69_167 n_M_jumpers_b69_209
            simp only [if_neg z1, if_neg g1, zm_ix hd (by omega), zm_bs, h4, if_neg b1, if_neg r2, zm_let, b2, b3, b4, x0, x1, x2, r3, r4, a1]
          simp only [this]
          exact y2
      · refine stop (by rw [e]; exact r1) ?_
        unfold b_M_jumpers_l69
        simp only [if_neg z1, if_neg g1, zm_ix hd (by omega), zm_bs, h4, if_neg b1]
        rcases r2 with r2 | r2
        · rw [if_pos r2]; exact zm_jumNo _ _ _ _ _
        · by_cases q : 7 ≤ m.1 0 6
          · rw [if_pos q]; exact zm_jumNo _ _ _ _ _
          · rw [if_neg q]
            unfold n_M_jumpers_b69_111 n_M_jumpers_b69_166 n_M_jumpers_b69_167 n_M_jumpers_b69_209
            simp only [if_neg z1, zm_let, b2, b3, b4, x0, x1, x2, zm_bs, r2, if_pos z0, ↓reduceIte]
    · refine stop ?_ ?_
      · unfold f_C_comesFromRow
        by_cases q : Int32.ofNat i + 3 * Int32.ofNat k < 0
        · rw [if_pos q]
        · have q2 : ¬ Int32.ofNat i + 3 * Int32.ofNat k ≤ Int32.ofNat s - 3 := by
            rcases hki with rfl | h
            · rw [show Int32.ofNat i + 3 * Int32.ofNat 0 = Int32.ofNat i by simp]
              exact zm_jumLe hs hi (by omega)
            · rw [show Int32.ofNat i + 3 * Int32.ofNat k = Int32.ofNat (i + 3 * k) by simp]
              exact zm_jumLe hs (by omega) (by omega)
          rw [if_neg q, zm_sizeC hd, h2, zm_bs, if_neg q2]
      · unfold b_M_jumpers_l69
        have b1 : Int32.ofNat s - 3 - 3 * Int32.ofNat k < Int32.ofNat i := bb.mpr (by omega)
        simp only [if_neg z1, if_neg g1, zm_ix hd (by omega), zm_bs, h4, if_pos b1]
        exact zm_jumNo _ _ _ _ _
theorem t_jumpers {V : Nat → (Nat → Int32) → Prop} {c m : zx_M} (H : zm_R V c m) (v i n : Int32) : zm_ok V (f_C_jumpers v i n) (f_M_jumpers v i n) c m := by
  obtain ⟨hN, hK, hT, hL, hS, hD, hP, hB⟩ := id H
  have z0 : (0 : Int32) = 0 := rfl
  have z1 : ¬ ((1 : Int32) = 0) := by decide
  have z2 : ¬ ¬ ((0 : Int32) = 0) := fun h => h rfl
  unfold zm_ok f_C_jumpers f_M_jumpers f_Shelves_holds
  simp only [zm_isShelfC, zm_isShelfM, zm_wt, zm_bs]
  by_cases a : 0 ≤ v ∧ v ≤ 5
  rotate_left
  · simp only [if_neg a, if_pos z0]
    exact zm_e3 rfl rfl rfl H
  obtain ⟨d, hd, rfl⟩ := zm_in (v := v) (n := 6) (by omega) (by grind) (by grind)
  simp only [if_pos a, if_neg z1, zm_ix hd (by omega), zm_bs]
  by_cases b : 1 ≤ n ∧ n ≤ 7
  rotate_left
  · have b' : ¬ (1 ≤ n.toInt64 ∧ n.toInt64 ≤ 7) := by grind [zm_gl]
    simp only [if_neg b', if_neg z2]
    by_cases b1 : n < 1
    · simp only [if_pos b1]; exact zm_e3 rfl rfl rfl H
    · have b2 : ¬ n ≤ 7 := fun h => b ⟨Int32.not_lt.mp b1, h⟩
      simp only [if_neg b1, if_neg b2]; exact zm_e3 rfl rfl rfl H
  have b' : 1 ≤ n.toInt64 ∧ n.toInt64 ≤ 7 := by grind [zm_gl]
  have b1 : ¬ n < 1 := Int32.not_lt.mpr b.1
  simp only [if_neg b1, if_pos b.2, if_pos b', if_pos z1]
  obtain ⟨n', hn', rfl⟩ := zm_in (v := n) (n := 8) (by omega) (by grind) (by grind)
  have hn0 : 1 ≤ n' := by grind [zm_g]
  have s0 : ∀ (m0 : zx_M), n_M_jumpers_n66 (Int32.ofNat d) i (Int32.ofNat n') 0 m0 = some (0, m0) := by
    intro m0
    unfold n_M_jumpers_n66 n_M_jumpers_n67 l_M_jumpers_l69
    rw [zm_jumEnd (by decide +kernel)]
    simp only [zm_bs, zm_let]
  have l0 : f_C_comesFromRow (Int32.ofNat d) (i + 3 * 0) c = some (0, c) → n_C_jumpers_n48 (Int32.ofNat d) i (Int32.ofNat n') c = some (0, c) := by
    intro h
    have g1 : ¬ Int32.ofNat n' ≤ 0 := by grind [zm_g]
    have : l_C_jumpers_l51 (Int32.ofNat d) i (Int32.ofNat n') (0, c) = some (0, c) := by
      obtain ⟨t, h1, h2⟩ := zm_lp1 (f := fun s : Int32 × zx_M => b_C_jumpers_l51 (Int32.ofNat d) i (Int32.ofNat n') s.1 s.2) (fun _ => 0) (fun s => s = (0, c)) (fun t => t = (0, c)) (by
        rintro _ rfl
        right
        refine ⟨(0, c), ?_, rfl⟩
        show b_C_jumpers_l51 (Int32.ofNat d) i (Int32.ofNat n') 0 c = _
        unfold b_C_jumpers_l51
        simp only [if_neg g1, h, zm_bs, if_pos z0, ↓reduceIte]) zx_N (0, c) rfl (by decide +kernel)
      unfold l_C_jumpers_l51
      rw [h1, h2]
    unfold n_C_jumpers_n48
    rw [this]
    simp only [zm_bs, zm_let]
  have m0 : i + 3 * 0 = i := by grind
  rw [m0] at l0
  rcases hS d hd with ⟨q1, q2, q3, q4⟩ | ⟨w, hw, hwn, q1, q2, q3, q4⟩ | ⟨t, s, ht, hs, q1, q2, q3, q4, q5⟩
  · have e1 : (-1 : Int32) = -1 := rfl
    have e2 : (-1 : Int32) < 0 := by decide
    have e3 : ¬ ((-1 : Int32) = 50) := by decide
    have stop : f_C_comesFromRow (Int32.ofNat d) i c = some (0, c) := by
      unfold f_C_comesFromRow
      by_cases q : i < 0
      · rw [if_pos q]
      · have q2' : ¬ i ≤ (0 : Int32) - 3 := by grind
        rw [if_neg q, zm_sizeC hd, q2, zm_bs, if_neg q2']
    unfold n_M_jumpers_n44
    simp only [q1, q3, if_pos e1, if_pos e2, zm_ix hd (by omega), zm_bs, if_pos e3, s0, l0 stop]
    exact zm_e3 rfl rfl rfl H
  · have e1 : ¬ ((-2 : Int32) = -1) := by decide
    have e2 : ¬ ((-2 : Int32) = 0) := by decide
    have e3 : ¬ Int32.ofNat w < 0 := zm_nn (by omega)
    have e4 : ¬ Int32.ofNat w = 50 := by grind [zm_g]
    simp only [q1, q3, if_neg e1, if_neg e2, if_neg e3, if_neg e4]
    exact zm_e3 rfl rfl rfl H
  · have e1 : ¬ (Int32.ofNat t = -1) := by grind [zm_g]
    have e3 : ¬ Int32.ofNat (50 + t) < 0 := zm_nn (by omega)
    by_cases g : t = 0
    rotate_left
    · have e2 : ¬ (Int32.ofNat t = 0) := by grind [zm_g]
      have e4 : ¬ Int32.ofNat (50 + t) = 50 := by grind [zm_g]
      simp only [q1, q3, if_neg e1, if_neg e2, if_neg e3, if_neg e4]
      exact zm_e3 rfl rfl rfl H
    subst g
    have e2 : Int32.ofNat 0 = 0 := rfl
    have e4 : Int32.ofNat (50 + 0) = 50 := rfl
    have e5 : ¬ ¬ ((50 : Int32) = 50) := fun h => h rfl
    have e6 : ¬ (50 : Int32) < 0 := by decide
    have e7 : ¬ ((0 : Int32) = -1) := by decide
    rw [e4] at q3
    rw [e2] at q1
    unfold n_M_jumpers_n44
    simp only [q1, q3, if_neg e7, ↓reduceIte, if_neg e6, if_neg e5, zm_ix hd (by omega), zm_bs]
    by_cases f : i < 0
    · have stop : f_C_comesFromRow (Int32.ofNat d) i c = some (0, c) := by
        unfold f_C_comesFromRow
        rw [if_pos f]
      simp only [if_pos f, s0, l0 stop]
      exact zm_e3 rfl rfl rfl H
    · obtain ⟨i', hi', rfl⟩ := zm_ex (v := i) (Int32.not_lt.mp f)
      have big : n' + 2 ≤ zx_N := by
        have : zx_N = 100000 := rfl
        omega
      obtain ⟨r, c2, m2, y1, y2, y3⟩ := zm_jumLoop (n := n') hd hs hi' (by omega) n' 0 (by omega) c m H q1 q2 q3 q4 (Or.inl rfl) zx_N zx_N (by omega) big
      have y1' : l_C_jumpers_l51 (Int32.ofNat d) (Int32.ofNat i') (Int32.ofNat n') (0, c) = some (r, c2) := by
        unfold l_C_jumpers_l51; exact y1
      have y2' : l_M_jumpers_l69 (Int32.ofNat d) (Int32.ofNat i') (Int32.ofNat n') (0, 1, m) = some (r, m2) := by
        unfold l_M_jumpers_l69; exact y2
      unfold n_C_jumpers_n48 n_M_jumpers_n67
      simp only [if_neg f, y1', y2', zm_bs, zm_let]
      exact zm_e3 rfl rfl rfl y3
