/-! the reference reads a text, on -/
theorem zq_comparedM {m0 : zx_M} {b : Nat → Int32} {n o : Nat} (A : zq_AM m0 b n) {g : GT_both_compared_either_one_produ_m} {f : Nat → Bool → ((Nat → Int32) → Int32) × Nat × Bool} (hf : zq_CM m0 n o g.2.2.2.1 f) : zq_CM m0 n o (F_M_compared g) (zq_J (zq_nx b n) 2 f) := by
  intro m p st P
  obtain ⟨v1, m1, e1, P1, ev⟩ := hf m p st P
  obtain ⟨w, e2, ew⟩ := zq_byteAt A P1
  have ft := (zq_fault A.1.1 P1).1
  have t2 : (2 : Int32) = 2 := rfl
  unfold F_M_compared zq_J
  rw [show (120 : Nat) = 119 + 1 by rfl]
  unfold zq_join
  simp only [e1, zm_bs, e2, if_pos t2]
  generalize (f p st).2.1 = p1 at *
  generalize (f p st).2.2 = s1 at *
  cases s1
  rotate_left
  · have f1 : 0 ≤ m1.1 0 14 := ft.mpr rfl
    have q : ¬ zq_rank (zq_nx b n p1 true) = 2 := by rw [zq_nx_t]; decide
    simp only [if_pos f1, if_neg q]
    exact ⟨v1, m1, rfl, P1, ev⟩
  have f1 : ¬ 0 ≤ m1.1 0 14 := fun h => absurd (ft.mp h) (by decide)
  have ew' := ew rfl
  have w60 : w = 60 ↔ zq_nx b n p1 false = 60 := by rw [ew']; exact zq_y_eq (by decide)
  have w61 : w = 61 ↔ zq_nx b n p1 false = 61 := by rw [ew']; exact zq_y_eq (by decide)
  have w62 : w = 62 ↔ zq_nx b n p1 false = 62 := by rw [ew']; exact zq_y_eq (by decide)
  simp only [if_neg f1]
  by_cases q : zq_rank (zq_nx b n p1 false) = 2
  rotate_left
  · have q0 := fun h => q (zq_rank2.mpr (Or.inl h))
    have q1 := fun h => q (zq_rank2.mpr (Or.inr (Or.inl h)))
    have q2 := fun h => q (zq_rank2.mpr (Or.inr (Or.inr h)))
    have x0 : ¬ w = 60 := fun h => q0 (w60.mp h)
    have x1 : ¬ w = 61 := fun h => q1 (w61.mp h)
    have x2 : ¬ w = 62 := fun h => q2 (w62.mp h)
    simp only [if_neg x0, if_neg x1, if_neg x2, if_neg q]
    exact ⟨v1, m1, rfl, P1, fun _ => ev rfl⟩
  have q0 : ¬ zq_nx b n p1 false = -1 := zq_rank_on (by rw [q]; decide)
  obtain ⟨v3, m3, e3, P3, ev3⟩ := hf _ _ _ (zq_stepM P1 (zq_nx_on q0).1)
  have ev1 := ev rfl
  simp only [if_pos q]
  have fin : ∀ r : Int32, n_M_compared_n37 g v1 w m1 = some (r, m3) → (r = zq_rk (zq_nx b n p1 false) v1 v3) → ∃ v' m', (if w = 60 then n_M_compared_n37 g v1 w m1 else if w = 61 then n_M_compared_n37 g v1 w m1 else if w = 62 then n_M_compared_n37 g v1 w m1 else some (v1, m1)) = some (v', m') ∧ zq_PM m0 m' n (f (p1 + 1) false).2.1 (f (p1 + 1) false).2.2 o ∧ ((f (p1 + 1) false).2.2 = false → v' = zq_rk (zq_nx b n p1 false) ((f p st).1 (m0.1 7)) ((f (p1 + 1) false).1 (m0.1 7))) := by
    intro r h1 h2
    refine ⟨r, m3, ?_, P3, fun h => ?_⟩
    · rcases zq_rank2.mp q with y | y | y
      · rw [if_pos (w60.mpr y)]; exact h1
      · rw [if_neg (fun h => by rw [w60.mp h] at y; exact absurd y (by decide)), if_pos (w61.mpr y)]; exact h1
      · rw [if_neg (fun h => by rw [w60.mp h] at y; exact absurd y (by decide)), if_neg (fun h => by rw [w61.mp h] at y; exact absurd y (by decide)), if_pos (w62.mpr y)]; exact h1
    · rw [h2, ← ev1, ← ev3 h]
  refine fin (zq_rk (zq_nx b n p1 false) v1 v3) ?_ rfl
  unfold n_M_compared_n37
  simp only [zm_let, e3, zm_bs]
  rcases zq_rank2.mp q with y | y | y
  · have hw := w60.mpr y
    rw [y, hw]
    simp only [not_true_eq_false, ↓reduceIte]
    by_cases c : v3 ≤ v1
    · rw [if_pos c]; unfold zq_rk; simp [c]
    · rw [if_neg c]; unfold zq_rk; simp [c]
  · have hw := w61.mpr y
    rw [y, hw]
    have z : ¬ (61 : Int32) = 60 := by decide
    simp only [z, not_true_eq_false, not_false_eq_true, ↓reduceIte]
    by_cases c : v1 = v3
    · have c' : ¬ ¬ v1 = v3 := fun h => h c
      rw [if_neg c']; unfold zq_rk; simp [c]
    · rw [if_pos c]; unfold zq_rk; simp [c]
  · have hw := w62.mpr y
    rw [y, hw]
    have z : ¬ (62 : Int32) = 60 := by decide
    have z2 : ¬ (62 : Int32) = 61 := by decide
    simp only [z, z2, not_false_eq_true, ↓reduceIte]
    by_cases c : v1 ≤ v3
    · rw [if_pos c]; unfold zq_rk; simp [c]
    · rw [if_neg c]; unfold zq_rk; simp [c]
theorem zq_sumsM {m0 : zx_M} {b : Nat → Int32} {n o : Nat} (A : zq_AM m0 b n) {g : GT_both_compared_either_one_produ_m} {f : Nat → Bool → ((Nat → Int32) → Int32) × Nat × Bool} (hle : ∀ p st, p ≤ (f p st).2.1) (hf : zq_CM m0 n o g.2.2.2.2.1 f) : zq_CM m0 n o (F_M_sums g) (zq_J (zq_nx b n) 3 f) := by
  intro m p st P
  obtain ⟨v1, m1, e1, P1, ev⟩ := hf m p st P
  have z0 : (0 : Int32) = 0 := rfl
  have z1 : ¬ ((1 : Int32) = 0) := by decide
  obtain ⟨v2, m2, e2, P2, ev2⟩ := zq_loopM (b := b) (B := fun s : Int32 × zx_M => b_M_sums_l5 g s.1 s.2) (mk := fun v m => (v, m)) (k := 3) (by decide) (by decide) hle (fun v m p st P q => by
      obtain ⟨w, e, ew⟩ := zq_byteAt A P
      have ft := (zq_fault A.1.1 P).1
      dsimp only
      unfold b_M_sums_l5
      cases st
      · have f1 : ¬ 0 ≤ m.1 0 14 := fun h => absurd (ft.mp h) (by decide)
        have w43 : ¬ w = 43 := by rw [ew rfl, zq_y_eq (by decide)]; exact fun h => q (zq_rank3.mpr (Or.inl h))
        have w45 : ¬ w = 45 := by rw [ew rfl, zq_y_eq (by decide)]; exact fun h => q (zq_rank3.mpr (Or.inr h))
        simp only [if_neg f1, e, zm_bs, if_neg w43, if_pos w45]
      · simp only [if_pos (ft.mpr rfl)]) (fun v m p hp P q => by
      obtain ⟨w, e, ew⟩ := zq_byteAt A P
      have ft := (zq_fault A.1.1 P).1
      have f1 : ¬ 0 ≤ m.1 0 14 := fun h => absurd (ft.mp h) (by decide)
      have w43 : w = 43 ↔ zq_nx b n p false = 43 := by rw [ew rfl]; exact zq_y_eq (by decide)
      have w45 : w = 45 ↔ zq_nx b n p false = 45 := by rw [ew rfl]; exact zq_y_eq (by decide)
      obtain ⟨v3, m3, e3, P3, ev3⟩ := hf _ _ _ (zq_stepM P hp)
      refine ⟨zq_rk (zq_nx b n p false) v v3, m3, ?_, P3, fun h => by rw [← ev3 h]⟩
      dsimp only
      unfold b_M_sums_l5 n_M_sums_b5_30 n_M_sums_b5_44 n_M_sums_b5_73
      rcases zq_rank3.mp q with y | y
      · have x := w43.mpr y
        have x' : ¬ ¬ w = 43 := fun h => h x
        rw [y]
        simp only [if_neg f1, e, zm_bs, if_pos x, if_neg x', zm_let, e3, if_neg z1]
        rfl
      · have x := w45.mpr y
        have x2 : ¬ w = 43 := fun h => by rw [w43.mp h] at y; exact absurd y (by decide)
        have x' : ¬ ¬ w = 45 := fun h => h x
        rw [y]
        simp only [if_neg f1, e, zm_bs, if_neg x2, if_pos x2, if_neg x', zm_let, e3, ↓reduceIte]
        rfl) 120 v1 (f p st).1 m1 _ _ P1 ev (by have := A.1.1; omega) zx_N (by decide +kernel)
  have e2' : l_M_sums_l5 g (v1, m1) = some (v2, m2) := e2
  refine ⟨v2, m2, ?_, P2, ev2⟩
  unfold F_M_sums
  simp only [e1, zm_bs, e2', zm_let]
theorem zq_productM {m0 : zx_M} {b : Nat → Int32} {n o : Nat} (A : zq_AM m0 b n) {g : GT_both_compared_either_one_produ_m} {f : Nat → Bool → ((Nat → Int32) → Int32) × Nat × Bool} (hle : ∀ p st, p ≤ (f p st).2.1) (hf : zq_CM m0 n o g.2.2.2.2.2 f) : zq_CM m0 n o (F_M_product g) (zq_J (zq_nx b n) 4 f) := by
  intro m p st P
  obtain ⟨v1, m1, e1, P1, ev⟩ := hf m p st P
  obtain ⟨w1, eb1, ew1⟩ := zq_byteAt A P1
  have z1 : ¬ ((1 : Int32) = 0) := by decide
  obtain ⟨v2, m2, e2, P2, ev2⟩ := zq_loopM (b := b) (B := fun s : Int32 × Int32 × zx_M => b_M_product_l10 g s.1 s.2.1 s.2.2) (mk := fun v m => (v, (f_M_byteAt m).getD 0, m)) (k := 4) (by decide) (by decide) hle (fun v m p st P q => by
      obtain ⟨w, e, ew⟩ := zq_byteAt A P
      have ft := (zq_fault A.1.1 P).1
      dsimp only
      rw [e]
      dsimp only [Option.getD_some]
      unfold b_M_product_l10
      cases st
      · have f1 : ¬ 0 ≤ m.1 0 14 := fun h => absurd (ft.mp h) (by decide)
        have w42 : ¬ w = 42 := by rw [ew rfl, zq_y_eq (by decide)]; exact fun h => q (zq_rank4.mpr (Or.inl h))
        have w47 : ¬ w = 47 := by rw [ew rfl, zq_y_eq (by decide)]; exact fun h => q (zq_rank4.mpr (Or.inr (Or.inl h)))
        have w37 : ¬ w = 37 := by rw [ew rfl, zq_y_eq (by decide)]; exact fun h => q (zq_rank4.mpr (Or.inr (Or.inr h)))
        simp only [if_neg f1, if_neg w42, if_neg w47, if_pos w37]
      · simp only [if_pos (ft.mpr rfl)]) (fun v m p hp P q => by
      obtain ⟨w, e, ew⟩ := zq_byteAt A P
      have ft := (zq_fault A.1.1 P).1
      have f1 : ¬ 0 ≤ m.1 0 14 := fun h => absurd (ft.mp h) (by decide)
      have w42 : w = 42 ↔ zq_nx b n p false = 42 := by rw [ew rfl]; exact zq_y_eq (by decide)
      have w47 : w = 47 ↔ zq_nx b n p false = 47 := by rw [ew rfl]; exact zq_y_eq (by decide)
      have w37 : w = 37 ↔ zq_nx b n p false = 37 := by rw [ew rfl]; exact zq_y_eq (by decide)
      obtain ⟨v3, m3, e3, P3, ev3⟩ := hf _ _ _ (zq_stepM P hp)
      obtain ⟨w3, e4, ew3⟩ := zq_byteAt A P3
      refine ⟨zq_rk (zq_nx b n p false) v v3, m3, ?_, P3, fun h => by rw [← ev3 h]⟩
      dsimp only
      rw [e, e4]
      dsimp only [Option.getD_some]
      unfold b_M_product_l10 n_M_product_b10_35 n_M_product_b10_85
      rcases zq_rank4.mp q with y | y | y
      · have x := w42.mpr y
        rw [y, x]
        simp only [if_neg f1, ↓reduceIte, zm_let, e3, zm_bs, not_true_eq_false, e4]
        rfl
      · have x := w47.mpr y
        have k1 : ¬ (47 : Int32) = 42 := by decide
        rw [y, x]
        simp only [if_neg f1, k1, ↓reduceIte, zm_let, e3, zm_bs, not_true_eq_false, not_false_eq_true, e4]
        by_cases c : v3 = 0
        · simp only [c, not_true_eq_false, ↓reduceIte]
          unfold zq_rk
          simp
        · simp only [c, not_false_eq_true, ↓reduceIte]
          unfold zq_rk
          simp [c]
      · have x := w37.mpr y
        have k1 : ¬ (37 : Int32) = 42 := by decide
        have k2 : ¬ (37 : Int32) = 47 := by decide
        rw [y, x]
        simp only [if_neg f1, k1, k2, ↓reduceIte, zm_let, e3, zm_bs, not_true_eq_false, not_false_eq_true, e4]
        by_cases c : v3 = 0
        · simp only [c, not_true_eq_false, ↓reduceIte]
          unfold zq_rk
          simp
        · simp only [c, not_false_eq_true, ↓reduceIte]
          unfold zq_rk
          simp [c]) 120 v1 (f p st).1 m1 _ _ P1 ev (by have := A.1.1; omega) zx_N (by decide +kernel)
  have e2' : l_M_product_l10 g (v1, w1, m1) = some (v2, m2) := by
    rw [eb1] at e2
    exact e2
  refine ⟨v2, m2, ?_, P2, ev2⟩
  unfold F_M_product
  simp only [e1, zm_bs, eb1, e2', zm_let]
theorem zq_nameM (v : Int32) (m : zx_M) : f_M_nameOf v m = some (zx_io v) := by
  unfold f_M_nameOf zx_io
  grind (splits := 40)
theorem zq_numLM {m0 : zx_M} {b : Nat → Int32} {n o : Nat} (A : zq_AM m0 b n) {g : GT_both_compared_either_one_produ_m} : ∀ (j i : Nat), i + j = 4 → ∀ (v : Int32) (m : zx_M) (p : Nat), zq_PM m0 m n p false o → ∀ N, j + 1 ≤ N → ∃ m' i', zx_lp N (fun s : Int32 × Int32 × zx_M => b_M_one_l176 g s.1 s.2.1 s.2.2) (v, Int32.ofNat i, m) = some ((zq_num (zq_nx b n) j v p).1, Int32.ofNat i', m') ∧ zq_PM m0 m' n (zq_num (zq_nx b n) j v p).2 false o ∧ i' ≤ 4 ∧ (i' = i → 4 ≤ i ∨ (¬ (48 ≤ zq_nx b n p false ∧ zq_nx b n p false ≤ 57) ∧ m' = m)) ∧ ((48 ≤ zq_nx b n p false ∧ zq_nx b n p false ≤ 57) → i < 4 → i < i') ∧ i ≤ i' := by
  intro j
  induction j with
  | zero =>
    intro i hi v m p P N hN
    obtain ⟨N1, rfl⟩ : ∃ N1, N = N1 + 1 := ⟨N - 1, by omega⟩
    have g1 : (4 : Int32) ≤ Int32.ofNat i := by grind [zm_g]
    refine ⟨m, i, ?_, P, by omega, fun _ => Or.inl (by omega), fun _ h => by omega, by omega⟩
    unfold zx_lp b_M_one_l176 zq_num
    simp only [if_pos g1]
  | succ j ih =>
    intro i hi v m p P N hN
    obtain ⟨N1, rfl⟩ : ∃ N1, N = N1 + 1 := ⟨N - 1, by omega⟩
    have g1 : ¬ (4 : Int32) ≤ Int32.ofNat i := by grind [zm_g]
    obtain ⟨w, e, ew⟩ := zq_byteAt A P
    have ew' := ew rfl
    have a1 : Int32.ofNat i + 1 = Int32.ofNat (i + 1) := by simp
    have hw : (48 ≤ w ∧ w ≤ 57) ↔ (48 ≤ zq_nx b n p false ∧ zq_nx b n p false ≤ 57) := by
      rw [ew', zq_nx_f]
      unfold zq_y
      by_cases g : p < n
      · rw [if_pos g, if_pos g]
      · rw [if_neg g, if_neg g]; decide
    by_cases q : 48 ≤ zq_nx b n p false ∧ zq_nx b n p false ≤ 57
    · have qw := hw.mpr q
      have q1 : ¬ w < 48 := Int32.not_lt.mpr qw.1
      have q2 : ¬ 57 < w := Int32.not_lt.mpr qw.2
      have q0 : ¬ zq_nx b n p false = -1 := by grind
      have hp := (zq_nx_on q0).1
      have wn : w = zq_nx b n p false := by rw [ew', zq_nx_f]; unfold zq_y; rw [if_pos hp, if_pos hp]
      have ar : 10 * v + w - 48 = v * 10 + zq_nx b n p false - 48 := by rw [wn]; grind
      obtain ⟨m3, i3, e3, P3, h1, h2, h3, h4⟩ := ih (i + 1) (by omega) (v * 10 + zq_nx b n p false - 48) _ _ (zq_stepM P hp) N1 (by omega)
      refine ⟨m3, i3, ?_, ?_, h1, fun h => by omega, fun _ _ => by omega, by omega⟩
      · have hb : b_M_one_l176 g v (Int32.ofNat i) m = some (.inl (v * 10 + zq_nx b n p false - 48, Int32.ofNat (i + 1), zx_u1 m 0 12 (m.1 0 12 + 1))) := by
          unfold b_M_one_l176
          simp only [if_neg g1, e, zm_bs, zm_let, if_neg q1, if_neg q2, a1, ar]
        unfold zx_lp zq_num
        simp only [hb, if_pos q]
        exact e3
      · unfold zq_num
        simp only [if_pos q]
        exact P3
    · refine ⟨m, i, ?_, ?_, by omega, fun _ => Or.inr ⟨q, rfl⟩, fun h => absurd h q, by omega⟩
      · have qw : ¬ (48 ≤ w ∧ w ≤ 57) := fun h => q (hw.mp h)
        unfold zx_lp b_M_one_l176 zq_num
        by_cases q1 : w < 48
        · simp only [if_neg g1, e, zm_bs, if_pos q1, if_neg q]
        · have q2 : 57 < w := by grind
          simp only [if_neg g1, e, zm_bs, if_neg q1, if_pos q2, if_neg q]
      · unfold zq_num
        simp only [if_neg q]
        exact P
theorem zq_openM {m0 m : zx_M} {n p o : Nat} (P : zq_PM m0 m n p false o) (h : p < n) : zq_PM m0 (zx_u1 (zx_u1 m 0 15 (m.1 0 15 + 1)) 0 12 ((zx_u1 m 0 15 (m.1 0 15 + 1)).1 0 12 + 1)) n (p + 1) false (o + 1) := by
  refine zq_stepM ?_ h
  obtain ⟨h1, h2, h3, h4, a, ha, h5, h6, h7⟩ := P
  obtain ⟨h8, h9, h10⟩ := h7 rfl
  refine ⟨h1, h2, fun r hr => ?_, fun k k1 k2 k3 => ?_, a, ha, ?_, fun h => absurd h (by decide), fun _ => ⟨?_, h9, ?_⟩⟩
  · rw [zm_u11, if_neg hr]; exact h3 r hr
  · rw [zm_u11, if_pos rfl, zm_upd, if_neg k3]; exact h4 k k1 k2 k3
  · simpa [zm_u11, zm_upd] using h5
  · simpa [zm_u11, zm_upd] using h8
  · simp [zm_u11, zm_upd, h10]
theorem zq_closeM {m0 m : zx_M} {n p o : Nat} {st : Bool} (ho : o < 7) (P : zq_PM m0 m n p st (o + 1)) : zq_PM m0 (zx_u1 m 0 15 (m.1 0 15 - 1)) n p st o := by
  obtain ⟨h1, h2, h3, h4, a, ha, h5, h6, h7⟩ := P
  refine ⟨h1, h2, fun r hr => ?_, fun k k1 k2 k3 => ?_, a, ha, ?_, fun h => ?_, fun h => ?_⟩
  · rw [zm_u11, if_neg hr]; exact h3 r hr
  · rw [zm_u11, if_pos rfl, zm_upd, if_neg k3]; exact h4 k k1 k2 k3
  · simpa [zm_u11, zm_upd] using h5
  · simpa [zm_u11, zm_upd] using h6 h
  · obtain ⟨h8, h9, h10⟩ := h7 h
    have e : Int32.ofNat (o + 1) - 1 = Int32.ofNat o := by
      have := zm_g (k := o + 1) (by omega)
      have := zm_g (k := o) (by omega)
      grind
    refine ⟨?_, h9, ?_⟩
    · simpa [zm_u11, zm_upd] using h8
    · rw [zm_u11, if_pos rfl, zm_upd, if_pos rfl, h10, e]
theorem zq_n104 (g : GT_both_compared_either_one_produ_m) (c v : Int32) (m : zx_M) : n_M_one_n104 g c v m = some (if c = 40 then v else if c = 45 then -v else if v = 0 then 1 else 0, zx_u1 m 0 15 (m.1 0 15 - 1)) := by
  unfold n_M_one_n104
  rw [zm_let]
  by_cases h1 : c = 40
  · simp only [h1, not_true_eq_false, ↓reduceIte]
  · by_cases h2 : c = 45
    · have : ¬ (45 : Int32) = 40 := by decide
      simp only [h2, this, not_true_eq_false, not_false_eq_true, ↓reduceIte]
    · by_cases h3 : v = 0
      · simp only [h1, h2, h3, not_true_eq_false, not_false_eq_true, ↓reduceIte]
      · simp only [h1, h2, h3, not_false_eq_true, ↓reduceIte]
theorem zq_oneM {m0 : zx_M} {b : Nat → Int32} {n o : Nat} (A : zq_AM m0 b n) (ho : o ≤ 6) {d : Bool} (hd : d = decide (o < 6)) {g : GT_both_compared_either_one_produ_m} {fe fs : Nat → Bool → ((Nat → Int32) → Int32) × Nat × Bool} (hb : o < 6 → zq_CM m0 n (o + 1) g.1 fe) (hs : o < 6 → zq_CM m0 n (o + 1) g.2.2.2.2.2 fs) : zq_CM m0 n o (F_M_one g) (zq_single (zq_nx b n) d (zq_br (zq_nx b n) fe) fs) := by
  intro m p st P
  obtain ⟨w, e, ew⟩ := zq_byteAt A P
  have ft := (zq_fault A.1.1 P).2
  unfold F_M_one
  cases st
  rotate_left
  · have f1 : ¬ m.1 0 14 < 0 := fun h => absurd (ft.mp h) (by decide)
    have hz : zq_single (zq_nx b n) d (zq_br (zq_nx b n) fe) fs p true = (fun _ => 0, p, true) := by
      unfold zq_single
      rw [zq_nx_t]
      have k1 : ¬ ((48 : Int32) ≤ -1 ∧ (-1 : Int32) ≤ 57) := by decide
      have k2 : ¬ 0 ≤ zx_io (-1) := by decide
      have k3 : ¬ (((-1 : Int32) = 40 ∨ (-1 : Int32) = 33 ∨ (-1 : Int32) = 45) ∧ d = true) := fun h => absurd h.1 (by decide)
      rw [if_neg k1, if_neg k2, if_neg k3]
    rw [if_neg f1, hz]
    exact ⟨0, m, rfl, P, fun h => absurd (show true = false from h) (by decide)⟩
  have f1 : m.1 0 14 < 0 := ft.mpr rfl
  have ew' := ew rfl
  have wc : ∀ v : Int32, 0 < v → (w = v ↔ zq_nx b n p false = v) := fun v hv => by rw [ew']; exact zq_y_eq hv
  have w33 := wc 33 (by decide)
  have w40 := wc 40 (by decide)
  have w45 := wc 45 (by decide)
  have wio : zx_io w = zx_io (zq_nx b n p false) := by
    rw [ew', zq_nx_f]
    unfold zq_y
    by_cases g : p < n
    · rw [if_pos g, if_pos g]
    · rw [if_neg g, if_neg g]; decide
  have hdig : (48 ≤ w ∧ w ≤ 57) ↔ (48 ≤ zq_nx b n p false ∧ zq_nx b n p false ≤ 57) := by
    rw [ew', zq_nx_f]
    unfold zq_y
    by_cases g : p < n
    · rw [if_pos g, if_pos g]
    · rw [if_neg g, if_neg g]; decide
  simp only [if_pos f1, e, zm_bs]
  by_cases c : zq_nx b n p false = 40 ∨ zq_nx b n p false = 33 ∨ zq_nx b n p false = 45
  · -- something opens
    have hc : w = 40 ∨ w = 33 ∨ w = 45 := by rw [w40, w33, w45]; exact c
    have h32 : ∀ X : Option (Int32 × zx_M), (if w = 33 then n_M_one_n32 g w m else if w = 45 then n_M_one_n32 g w m else if ¬ w = 40 then X else n_M_one_n32 g w m) = n_M_one_n32 g w m := by
      intro X
      rcases hc with h | h | h
      · rw [if_neg (by rw [h]; decide), if_neg (by rw [h]; decide), if_neg (fun q => q h)]
      · rw [if_pos h]
      · rw [if_neg (by rw [h]; decide), if_pos h]
    rw [h32]
    have nd : ¬ (48 ≤ zq_nx b n p false ∧ zq_nx b n p false ≤ 57) := by rcases c with h | h | h <;> rw [h] <;> decide
    have ni : ¬ 0 ≤ zx_io (zq_nx b n p false) := by rcases c with h | h | h <;> rw [h] <;> decide
    have q0 : ¬ zq_nx b n p false = -1 := by rcases c with h | h | h <;> rw [h] <;> decide
    have hp := (zq_nx_on q0).1
    have h15 : m.1 0 15 = Int32.ofNat o := by
      obtain ⟨-, -, -, -, a, -, -, -, h7⟩ := P
      exact (h7 rfl).2.2
    unfold n_M_one_n32 zq_single
    simp only [if_neg nd, if_neg ni, zm_let]
    by_cases u : o < 6
    · have u1 : ¬ m.1 0 15 = 6 := by rw [h15]; grind [zm_g]
      have hd' : d = true := by rw [hd]; exact decide_eq_true u
      have P1 := zq_openM P hp
      simp only [if_pos u1, if_pos (And.intro c hd')]
      by_cases c1 : zq_nx b n p false = 40
      · have x1 : ¬ ¬ w = 40 := fun h => h (w40.mpr c1)
        obtain ⟨v2, m2, e2, P2, ev2⟩ := hb u _ _ _ P1
        simp only [if_neg x1, if_pos c1, e2, zm_bs]
        unfold n_M_one_n83 zq_br
        simp only [if_neg x1]
        by_cases y : zq_nx b n (fe (p + 1) false).2.1 (fe (p + 1) false).2.2 = 41
        · obtain ⟨t1, t2⟩ := (zq_takes A P2 (v := 41) (by decide)).1 y
          have z1 : ¬ ((1 : Int32) = 0) := by decide
          simp only [t1, zm_bs, if_pos z1, zq_n104, if_pos y, if_pos (w40.mpr c1)]
          exact ⟨_, _, rfl, zq_closeM (by omega) t2, ev2⟩
        · have t1 := (zq_takes A P2 (v := 41) (by decide)).2 y
          obtain ⟨m3, e3, P3⟩ := zq_wrong A.1.1 P2 o
          simp only [t1, zm_bs, not_true_eq_false, ↓reduceIte, e3, if_neg y]
          exact ⟨_, _, rfl, P3, fun h => absurd (show true = false from h) (by decide)⟩
      · have x1 : ¬ w = 40 := fun h => c1 (w40.mp h)
        obtain ⟨v2, m2, e2, P2, ev2⟩ := hs u _ _ _ P1
        simp only [if_pos x1, if_neg c1, e2, zm_bs]
        unfold n_M_one_n83
        simp only [if_pos x1, zq_n104, if_neg x1]
        refine ⟨_, _, rfl, zq_closeM (by omega) P2, fun h => ?_⟩
        have ev3 := ev2 h
        rw [← ev3]
        by_cases c2 : zq_nx b n p false = 45
        · rw [if_pos (w45.mpr c2), if_pos c2]
        · rw [if_neg (fun h => c2 (w45.mp h)), if_neg c2]
    · have u1 : ¬ ¬ m.1 0 15 = 6 := by
        have : o = 6 := by omega
        rw [h15, this]
        exact fun h => h rfl
      have hd' : ¬ ((zq_nx b n p false = 40 ∨ zq_nx b n p false = 33 ∨ zq_nx b n p false = 45) ∧ d = true) := by
        rintro ⟨-, h⟩
        rw [hd] at h
        exact u (of_decide_eq_true h)
      obtain ⟨m3, e3, P3⟩ := zq_wrong A.1.1 P o
      simp only [if_neg u1, if_neg hd', e3, zm_bs]
      exact ⟨_, _, rfl, P3, fun h => absurd (show true = false from h) (by decide)⟩
  · have x33 : ¬ w = 33 := fun h => c (Or.inr (Or.inl (w33.mp h)))
    have x45 : ¬ w = 45 := fun h => c (Or.inr (Or.inr (w45.mp h)))
    have x40 : ¬ w = 40 := fun h => c (Or.inl (w40.mp h))
    have hd' : ¬ ((zq_nx b n p false = 40 ∨ zq_nx b n p false = 33 ∨ zq_nx b n p false = 45) ∧ d = true) := fun h => c h.1
    simp only [if_neg x33, if_neg x45, if_pos x40, zq_nameM, zm_bs]
    unfold zq_single
    rcases zq_ioN (zq_nx b n p false) with i0 | ⟨k, hk, i0⟩
    · have i1 : zx_io w < 0 := by rw [wio, i0]; decide
      have i2 : ¬ 0 ≤ zx_io (zq_nx b n p false) := by rw [i0]; decide
      simp only [if_pos i1, if_neg i2, if_neg hd']
      obtain ⟨m3, i3, e3, P3, h1, h2, h3, h4⟩ := zq_numLM A (g := g) 4 0 rfl 0 m p P zx_N (by decide +kernel)
      have e3' : l_M_one_l176 g (0, 0, m) = _ := e3
      unfold n_M_one_n229
      simp only [e3', zm_bs]
      by_cases q : 48 ≤ zq_nx b n p false ∧ zq_nx b n p false ≤ 57
      · have h5 := h3 q (by omega)
        have z : ¬ Int32.ofNat i3 = 0 := by grind [zm_g]
        simp only [if_pos z, if_pos q]
        exact ⟨_, _, rfl, P3, fun _ => rfl⟩
      · have h5 : i3 = 0 ∧ m3 = m ∧ zq_num (zq_nx b n) 4 0 p = (0, p) := by
          have hn : zq_num (zq_nx b n) 4 0 p = (0, p) := by
            rw [show (4 : Nat) = 3 + 1 by rfl]
            unfold zq_num
            rw [if_neg q]
          have g1 : ¬ (4 : Int32) ≤ Int32.ofNat 0 := by decide
          have hbb : b_M_one_l176 g 0 (Int32.ofNat 0) m = some (.inr (0, Int32.ofNat 0, m)) := by
            have qw : ¬ (48 ≤ w ∧ w ≤ 57) := fun h => q (hdig.mp h)
            unfold b_M_one_l176
            by_cases q1 : w < 48
            · simp only [if_neg g1, e, zm_bs, if_pos q1]
            · have q2 : 57 < w := by grind
              simp only [if_neg g1, e, zm_bs, if_neg q1, if_pos q2]
          have hl : zx_lp zx_N (fun s : Int32 × Int32 × zx_M => b_M_one_l176 g s.1 s.2.1 s.2.2) (0, Int32.ofNat 0, m) = some (0, Int32.ofNat 0, m) := by
            obtain ⟨N1, hN1⟩ : ∃ N1, zx_N = N1 + 1 := ⟨99999, by decide +kernel⟩
            rw [hN1]
            unfold zx_lp
            simp only [hbb]
          rw [hl] at e3
          have e4 := Option.some.inj e3
          have e5 : Int32.ofNat 0 = Int32.ofNat i3 := (Prod.mk.inj (Prod.mk.inj e4).2).1
          have e6 : m = m3 := (Prod.mk.inj (Prod.mk.inj e4).2).2
          exact ⟨by grind [zm_g], e6.symm, hn⟩
        obtain ⟨rfl, rfl, hn⟩ := h5
        have z : ¬ ¬ Int32.ofNat 0 = 0 := fun h => h rfl
        obtain ⟨m4, e4, P4⟩ := zq_wrong A.1.1 P o
        simp only [if_neg z, e4, zm_bs, if_neg q]
        exact ⟨_, _, rfl, P4, fun h => absurd (show true = false from h) (by decide)⟩
    · have i1 : ¬ zx_io w < 0 := by rw [wio, i0]; exact zm_nn (by omega)
      have i2 : 0 ≤ zx_io (zq_nx b n p false) := by rw [i0]; exact Int32.not_lt.mp (zm_nn (by omega))
      have nd : ¬ (48 ≤ zq_nx b n p false ∧ zq_nx b n p false ≤ 57) := by
        intro h
        have : zx_io (zq_nx b n p false) = -1 := by
          unfold zx_io
          grind (splits := 20)
        rw [this] at i2
        exact absurd i2 (by decide)
      have q0 : ¬ zq_nx b n p false = -1 := by
        intro h
        rw [h] at i2
        exact absurd i2 (by decide)
      have P1 := zq_stepM P (zq_nx_on q0).1
      have tn : (Int32.ofNat k).toNatClampNeg = k := Int32.toNatClampNeg_ofNat_of_lt (by omega)
      have e7 : (zx_u1 m 0 12 (m.1 0 12 + 1)).1 7 = m0.1 7 := P1.2.2.1 7 (by omega)
      rw [wio] at i1 ⊢
      rw [i0] at i1 i2 ⊢
      simp only [if_neg i1, if_neg nd, if_pos i2, zm_let, zm_ix hk (by omega), zm_bs, tn, e7]
      exact ⟨_, _, rfl, P1, fun _ => rfl⟩
theorem zq_EM {m0 : zx_M} {b : Nat → Int32} {n o j : Nat} (A : zq_AM m0 b n) {f : Nat → Bool → ((Nat → Int32) → Int32) × Nat × Bool} (hle : ∀ p st, p ≤ (f p st).2.1) (hf : zq_CM m0 n o (g_both_compared_either_one_produ_m j).2.2.2.2.2 f) : zq_CM m0 n o (g_both_compared_either_one_produ_m (j + 5)).1 (zq_E (zq_nx b n) f) := by
  have s4 : zq_CM m0 n o (g_both_compared_either_one_produ_m (j + 1)).2.2.2.2.1 _ := zq_productM A hle hf
  have s3 : zq_CM m0 n o (g_both_compared_either_one_produ_m (j + 2)).2.2.2.1 _ := zq_sumsM A (zq_J_le hle) s4
  have s2 : zq_CM m0 n o (g_both_compared_either_one_produ_m (j + 3)).2.2.1 _ := zq_comparedM A s3
  have s1 : zq_CM m0 n o (g_both_compared_either_one_produ_m (j + 4)).2.1 _ := zq_bothM A (zq_J_le (zq_J_le (zq_J_le hle))) s2
  exact zq_eitherM A (zq_J_le (zq_J_le (zq_J_le (zq_J_le hle)))) s1
theorem zq_SM {m0 : zx_M} {b : Nat → Int32} {n : Nat} (A : zq_AM m0 b n) : ∀ (k j : Nat), k ≤ 6 → 6 * k + 1 ≤ j → zq_CM m0 n (6 - k) (g_both_compared_either_one_produ_m j).2.2.2.2.2 (zq_S (zq_nx b n) k) := by
  intro k
  induction k with
  | zero =>
    intro j h1 h2
    obtain ⟨j1, rfl⟩ : ∃ j1, j = j1 + 1 := ⟨j - 1, by omega⟩
    have h := zq_oneM A (o := 6) (d := false) (by omega) rfl (g := g_both_compared_either_one_produ_m j1) (fe := fun p st => (fun _ => 0, p, st)) (fs := fun p st => (fun _ => 0, p, st)) (fun h => absurd h (by omega)) (fun h => absurd h (by omega))
    intro m p st P
    have e : zq_S (zq_nx b n) 0 p st = zq_single (zq_nx b n) false (zq_br (zq_nx b n) (fun p st => (fun _ => 0, p, st))) (fun p st => (fun _ => 0, p, st)) p st := by
      unfold zq_S zq_single
      simp only [Bool.false_eq_true, and_false, ↓reduceIte]
    rw [e]
    exact h m p st P
  | succ k ih =>
    intro j h1 h2
    obtain ⟨j1, rfl⟩ : ∃ j1, j = j1 + 1 + 5 + 1 := ⟨j - 7, by omega⟩
    have e : 6 - (k + 1) + 1 = 6 - k := by omega
    refine zq_oneM A (o := 6 - (k + 1)) (by omega) (by symm; exact decide_eq_true (by omega)) (fun _ => ?_) (fun _ => ?_)
    · rw [e]
      exact zq_EM A (fun p st => zq_S_le k p st) (ih (j1 + 1) (by omega) (by omega))
    · rw [e]
      exact ih (j1 + 1 + 5) (by omega) (by omega)
theorem zq_E64M {m0 : zx_M} {b : Nat → Int32} {n : Nat} (A : zq_AM m0 b n) : zq_CM m0 n 0 (g_both_compared_either_one_produ_m 64).1 (zq_E (zq_nx b n) (zq_S (zq_nx b n) 6)) := zq_EM A (j := 59) (fun p st => zq_S_le 6 p st) (zq_SM A 6 59 (by omega) (by omega))
