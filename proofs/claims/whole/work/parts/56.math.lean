/-! an order out of a row -/
theorem zo_ref {V : Nat → (Nat → Int32) → Prop} {c m : zx_M} (H : zm_R V c m) (v : Int32) {t : Nat} (ht : t < 5) : ∃ r, f_Shelves_refusal v (Int32.ofNat t) c = some r ∧ ((r = 0 ∧ f_M_rowIs v (Int32.ofNat t) m = some 1 ∧ ∃ d < 6, v = Int32.ofNat d ∧ c.1 16 d = Int32.ofNat t) ∨ ((r = -1 ∨ r = -11 ∨ r = -12) ∧ f_M_rowIs v (Int32.ofNat t) m = some r ∧ (r = -1 ↔ ¬ (0 ≤ v ∧ v ≤ 5)))) := by
  obtain ⟨hN, hK, hT, hL, hS, hD, hP, hB⟩ := id H
  have z1 : ¬ ((1 : Int32) = 0) := by decide
  have z2 : ¬ ¬ ((0 : Int32) = 0) := fun h => h rfl
  unfold f_Shelves_refusal f_M_rowIs
  simp only [zm_isShelfC, zm_isShelfM, zm_bs]
  by_cases a : 0 ≤ v ∧ v ≤ 5
  rotate_left
  · simp only [if_neg a, if_neg z2]
    exact ⟨_, rfl, Or.inr ⟨Or.inl rfl, rfl, fun _ => a, fun _ => rfl⟩⟩
  obtain ⟨d, hd, rfl⟩ := zm_in (v := v) (n := 6) (by omega) (by grind) (by grind)
  simp only [if_pos a, if_pos z1, zm_ix hd (by omega), zm_bs]
  rcases hS d hd with ⟨q1, q2, q3, q4⟩ | ⟨w, hw, hwn, q1, q2, q3, q4⟩ | ⟨t', s, ht', hs, q1, q2, q3, q4, q5⟩
  · have e1 : ¬ ¬ ((-1 : Int32) = -1) := fun h => h rfl
    have e2 : ¬ (0 : Int32) ≤ -1 := by decide
    simp only [q1, q3, if_neg e1, if_neg e2]
    exact ⟨_, rfl, Or.inr ⟨Or.inr (Or.inl rfl), rfl, fun h => absurd h (by decide), fun h => absurd a h⟩⟩
  · have e1 : ¬ ((-2 : Int32) = -1) := by decide
    have e2 : ¬ ((-2 : Int32) = Int32.ofNat t) := by grind [zm_g]
    have e3 : 0 ≤ Int32.ofNat w := Int32.not_lt.mp (zm_nn (by omega))
    have e4 : ¬ Int32.ofNat w = 50 + Int32.ofNat t := by grind [zm_g]
    simp only [q1, q3, if_pos e1, if_pos e2, if_pos e3, if_pos e4]
    exact ⟨_, rfl, Or.inr ⟨Or.inr (Or.inr rfl), rfl, fun h => absurd h (by decide), fun h => absurd a h⟩⟩
  · have e1 : ¬ (Int32.ofNat t' = -1) := by grind [zm_g]
    have e3 : 0 ≤ Int32.ofNat (50 + t') := Int32.not_lt.mp (zm_nn (by omega))
    have e5 : 50 + Int32.ofNat t = Int32.ofNat (50 + t) := by grind [zm_g]
    by_cases g : t' = t
    · subst g
      have e2 : ¬ ¬ (Int32.ofNat t' = Int32.ofNat t') := fun h => h rfl
      have e4 : ¬ ¬ (Int32.ofNat (50 + t') = Int32.ofNat (50 + t')) := fun h => h rfl
      simp only [q1, q3, if_pos e1, if_neg e2, if_pos e3, e5, if_neg e4]
      exact ⟨_, rfl, Or.inl ⟨rfl, rfl, d, hd, rfl, q1⟩⟩
    · have e2 : ¬ (Int32.ofNat t' = Int32.ofNat t) := by grind [zm_g]
      have e4 : ¬ Int32.ofNat (50 + t') = Int32.ofNat (50 + t) := by
        have g1 := zm_g (k := 50 + t') (by omega)
        have g2 := zm_g (k := 50 + t) (by omega)
        grind
      simp only [q1, q3, if_pos e1, if_pos e2, if_pos e3, e5, if_pos e4]
      exact ⟨_, rfl, Or.inr ⟨Or.inr (Or.inr rfl), rfl, fun h => absurd h (by decide), fun h => absurd a h⟩⟩
/-- bits of who went -/
theorem zo_bit : ∀ S < 128, ∀ j < 7, (((zx_shr (Int32.ofNat S) (Int32.ofNat j)) &&& 1) = 1 ↔ Nat.testBit S j = true) ∧ (Int32.ofNat S ||| zx_shl 1 (Int32.ofNat j)) = Int32.ofNat (S ||| 2 ^ j) ∧ (S ||| 2 ^ j) < 128 := by decide +kernel
theorem zo_isIn {S j : Nat} (hS : S < 128) (hj : j < 7) (m : zx_M) : f_M_isIn (Int32.ofNat S) (Int32.ofNat j) m = some (if Nat.testBit S j then 1 else 0) := by
  obtain ⟨h1, -⟩ := zo_bit S hS j hj
  unfold f_M_isIn
  cases h : Nat.testBit S j
  · have : ¬ ((zx_shr (Int32.ofNat S) (Int32.ofNat j)) &&& 1) = 1 := fun q => by rw [h1.mp q] at h; exact absurd h (by decide)
    rw [if_pos this]
    rfl
  · have : ¬ ¬ ((zx_shr (Int32.ofNat S) (Int32.ofNat j)) &&& 1) = 1 := fun q => q (h1.mpr h)
    rw [if_neg this]
    rfl
theorem zo_at {c : zx_M} {n k : Nat} (hn : n ≤ 7) (h : c.1 19 1 = Int32.ofNat n) (hk : k < n) : f_Order_at (Int32.ofNat k) c = some (c.1 20 k) := by
  have a0 : ¬ Int32.ofNat k < 0 := zm_nn (by omega)
  have a1 : ¬ Int32.ofNat n ≤ Int32.ofNat k := by grind [zm_g]
  have a2 : ¬ 7 ≤ Int32.ofNat k := by grind [zm_g]
  unfold f_Order_at
  rw [h, if_neg a0, if_neg a1, if_neg a2, zm_ix (by omega) (by omega), zm_bs]
theorem zo_has {c : zx_M} {n j : Nat} {g : Nat → Nat} (hn : n ≤ 7) (h : c.1 19 1 = Int32.ofNat n) (hj : j < 7) (hg : ∀ k < n, g k < 7 ∧ c.1 20 k = Int32.ofNat (g k)) : f_Order_has (Int32.ofNat j) c = some (if zj_any n (fun k => decide (g k = j)) then 1 else 0) := by
  have key : l_Order_has_l2 (Int32.ofNat j) c 0 = some (if zj_any n (fun k => decide (g k = j)) then 1 else 0) := by
    unfold l_Order_has_l2
    refine zj_anyN hn ?_ ?_ ?_
    · show b_Order_has_l2 (Int32.ofNat j) (Int32.ofNat n) c = _
      unfold b_Order_has_l2
      rw [h, if_pos (Int32.le_refl _)]
    · intro i hi hp
      show b_Order_has_l2 (Int32.ofNat j) (Int32.ofNat i) c = _
      have g1 : ¬ c.1 19 1 ≤ Int32.ofNat i := by rw [h]; grind [zm_g]
      have a1 : Int32.ofNat i + 1 = Int32.ofNat (i + 1) := by simp
      obtain ⟨q1, q2⟩ := hg i hi
      have q3 : ¬ Int32.ofNat (g i) = Int32.ofNat j := by
        have := of_decide_eq_false hp
        grind [zm_g]
      unfold b_Order_has_l2
      rw [if_neg g1, zo_at hn h hi, zm_bs, q2, if_pos q3, zm_let, a1]
    · intro i hi hp
      show b_Order_has_l2 (Int32.ofNat j) (Int32.ofNat i) c = _
      have g1 : ¬ c.1 19 1 ≤ Int32.ofNat i := by rw [h]; grind [zm_g]
      obtain ⟨q1, q2⟩ := hg i hi
      have q3 : ¬ ¬ Int32.ofNat (g i) = Int32.ofNat j := by
        have := of_decide_eq_true hp
        rw [this]
        exact fun h => h rfl
      unfold b_Order_has_l2
      rw [if_neg g1, zo_at hn h hi, zm_bs, q2, if_neg q3]
  unfold f_Order_has
  rw [key]
  rfl
theorem zo_append {c : zx_M} {n : Nat} (hn : n < 7) (h : c.1 19 1 = Int32.ofNat n) (v : Int32) : f_Order_append v c = some (zx_u1 (zx_u1 c 20 n v) 19 1 (Int32.ofNat (n + 1))) := by
  have a0 : ¬ Int32.ofNat n < 0 := zm_nn (by omega)
  have a1 : ¬ 7 ≤ Int32.ofNat n := by grind [zm_g]
  have a2 : (zx_u1 c 20 n v).1 19 1 = Int32.ofNat n := by rw [zm_u11, if_neg (by omega)]; exact h
  unfold f_Order_append
  rw [h, if_neg a0, if_neg a1, zm_ix hn (by omega), zm_bs, zm_let, zm_let, a2, show Int32.ofNat n + 1 = Int32.ofNat (n + 1) by simp]
/-- how far the order has come, and what else is as it was -/
def zo_I (c0 m0 c m : zx_M) (d J k : Nat) (g : Nat → Nat) : Prop := c.2 = c0.2 ∧ (∀ r, ¬ r = 19 → ¬ r = 20 → c.1 r = c0.1 r) ∧ m.2 = m0.2 ∧ (∀ r, ¬ r = 0 → ¬ r = 8 → m.1 r = m0.1 r) ∧ (∀ q, ¬ q = 20 → m.1 0 q = m0.1 0 q) ∧ c.1 19 1 = Int32.ofNat k ∧ m.1 0 20 = Int32.ofNat k ∧ k ≤ 7 ∧ ∀ i < k, g i < J ∧ c.1 20 i = Int32.ofNat (g i) ∧ m.1 8 i = Int32.ofNat (g i) ∧ m0.2 21 (60 * d + i) = (Int32.ofNat (g i)).toInt64 ∧ ∀ o < k, g o = g i → o = i
theorem zo_loop {c0 m0 : zx_M} {d J s : Nat} (hd : d < 6) (hJ : J ≤ 7) (hs : s ≤ 60) (h6 : c0.1 1 2 = Int32.ofNat J) (h7 : m0.1 0 6 = Int32.ofNat J) (h16 : c0.1 16 d = 0) (h17 : c0.1 17 d = Int32.ofNat s) (h20 : m0.1 20 d = Int32.ofNat s) (hit : ∀ q < s, c0.2 18 (60 * d + q) = m0.2 21 (60 * d + q) ∧ -128 ≤ m0.2 21 (60 * d + q) ∧ m0.2 21 (60 * d + q) ≤ 127) {cnt : Int32} : ∀ (j k : Nat), k + j = 7 → ∀ (c m : zx_M) (g : Nat → Nat) (S : Nat), zo_I c0 m0 c m d J k g → k ≤ s → S < 128 → (∀ q < 7, Nat.testBit S q = true ↔ ∃ o < k, g o = q) → ∀ N N', j + 1 ≤ N → j + 2 ≤ N' → ∃ n g' c' m' t, zx_lp N (fun st : Int32 × zx_M => b_C_readOrder_l25 (Int32.ofNat d) st.1 st.2) (Int32.ofNat k, c) = some t ∧ (t = .inl c' ∨ t = .inr c') ∧ zx_lp N' (fun st : Int32 × Int32 × zx_M => b_M_takesOrder_l10 (Int32.ofNat d) cnt st.1 st.2.1 st.2.2) (Int32.ofNat S, 1, m) = some m' ∧ zo_I c0 m0 c' m' d J n g' ∧ n ≤ s := by
  intro j
  induction j with
  | zero =>
    intro k hk c m g S I hks hS hb N N' hN hN'
    obtain ⟨N1, rfl⟩ : ∃ N1, N = N1 + 1 := ⟨N - 1, by omega⟩
    obtain ⟨N2, rfl⟩ : ∃ N2, N' = N2 + 1 := ⟨N' - 1, by omega⟩
    have hk7 : k = 7 := by omega
    subst hk7
    obtain ⟨i1, i2, i3, i4, i5, i6, i7, i8, i9⟩ := id I
    have z1 : ¬ ((1 : Int32) = 0) := by decide
    have refStop : zx_lp (N2 + 1) (fun st : Int32 × Int32 × zx_M => b_M_takesOrder_l10 (Int32.ofNat d) cnt st.1 st.2.1 st.2.2) (Int32.ofNat S, 1, m) = some m := by
      refine zj_lpE ?_
      show b_M_takesOrder_l10 (Int32.ofNat d) cnt (Int32.ofNat S) 1 m = _
      unfold b_M_takesOrder_l10
      rw [if_neg z1, i7, if_pos (by decide)]
    have cls : ∃ t, b_C_readOrder_l25 (Int32.ofNat d) (Int32.ofNat 7) c = some (.inr t) ∧ (t = .inl c ∨ t = .inr c) := by
      unfold b_C_readOrder_l25
      have c17 : c.1 17 d = Int32.ofNat s := by rw [i2 17 (by omega) (by omega)]; exact h17
      have c16 : c.1 16 d = Int32.ofNat 0 := by rw [i2 16 (by omega) (by omega)]; exact h16
      rw [zm_sizeC hd, c17, zm_bs]
      by_cases q : s = 7
      · subst q
        rw [if_pos (Int32.le_refl _)]
        exact ⟨_, rfl, Or.inr rfl⟩
      · have q' : ¬ Int32.ofNat s ≤ Int32.ofNat 7 := by grind [zm_g]
        have cJ : c.1 1 2 = Int32.ofNat J := by rw [i2 1 (by omega) (by omega)]; exact h6
        rw [if_neg q', zm_cellC hd (t := 0) (by omega) hs (by omega) c16 c17, zm_bs, zm_let, zm_isJumperC _ _ cJ, zm_bs]
        by_cases e : 0 ≤ (c.2 18 (60 * d + 7)).toInt32 ∧ (c.2 18 (60 * d + 7)).toInt32 < Int32.ofNat J
        · obtain ⟨x, hx, ex⟩ := zm_in (v := (c.2 18 (60 * d + 7)).toInt32) (n := J) (by omega) (by grind) (by grind)
          rw [if_pos e, if_neg z1, ex, zo_has (by omega) i6 (show x < 7 by omega) (fun k hk => ⟨by have := (i9 k hk).1; omega, (i9 k hk).2.1⟩), zm_bs]
          have hany : zj_any 7 (fun k => decide (g k = x)) = true := by
            cases h : zj_any 7 (fun k => decide (g k = x))
            · exfalso
              have := zm_full (g := g) (n := 7) (j := x) (by omega) (by omega) (fun k hk => by have := (i9 k hk).1; omega) (fun k hk => (i9 k hk).2.2.2.2) (fun k hk hgx => by
                have h2 : zj_any 7 (fun k => decide (g k = x)) = true := zj_any_iff.mpr ⟨k, hk, decide_eq_true hgx⟩
                rw [h] at h2
                exact absurd h2 (by decide))
              omega
            · rfl
          rw [hany, if_pos rfl, if_neg z1]
          exact ⟨_, rfl, Or.inl rfl⟩
        · rw [if_neg e, if_pos rfl]
          exact ⟨_, rfl, Or.inr rfl⟩
    obtain ⟨t, t1, t2⟩ := cls
    exact ⟨7, g, c, m, t, zj_lpE (show (fun st : Int32 × zx_M => b_C_readOrder_l25 (Int32.ofNat d) st.1 st.2) (Int32.ofNat 7, c) = _ from t1), t2, refStop, I, hks⟩
  | succ j ih =>
    intro k hk c m g S I hks hS hb N N' hN hN'
    obtain ⟨N1, rfl⟩ : ∃ N1, N = N1 + 1 := ⟨N - 1, by omega⟩
    obtain ⟨N2, rfl⟩ : ∃ N2, N' = N2 + 1 + 1 := ⟨N' - 2, by omega⟩
    obtain ⟨i1, i2, i3, i4, i5, i6, i7, i8, i9⟩ := id I
    have z1 : ¬ ((1 : Int32) = 0) := by decide
    have z2 : ¬ ¬ ((0 : Int32) = 0) := fun h => h rfl
    have c17 : c.1 17 d = Int32.ofNat s := by rw [i2 17 (by omega) (by omega)]; exact h17
    have c16 : c.1 16 d = Int32.ofNat 0 := by rw [i2 16 (by omega) (by omega)]; exact h16
    have cJ : c.1 1 2 = Int32.ofNat J := by rw [i2 1 (by omega) (by omega)]; exact h6
    have mJ : m.1 0 6 = Int32.ofNat J := by rw [i5 6 (by omega)]; exact h7
    have m20 : m.1 20 d = Int32.ofNat s := by rw [i4 20 (by omega) (by omega)]; exact h20
    have g7 : ¬ 7 ≤ Int32.ofNat k := by grind [zm_g]
    -- the reference goes out at its next turn
    have out : ∀ S' : Int32, b_M_takesOrder_l10 (Int32.ofNat d) cnt (Int32.ofNat S) 1 m = some (.inl (S', 0, m)) → zx_lp (N2 + 1 + 1) (fun st : Int32 × Int32 × zx_M => b_M_takesOrder_l10 (Int32.ofNat d) cnt st.1 st.2.1 st.2.2) (Int32.ofNat S, 1, m) = some m := by
      intro S' h
      rw [zj_lpS (show (fun st : Int32 × Int32 × zx_M => b_M_takesOrder_l10 (Int32.ofNat d) cnt st.1 st.2.1 st.2.2) (Int32.ofNat S, 1, m) = _ from h)]
      refine zj_lpE ?_
      show b_M_takesOrder_l10 (Int32.ofNat d) cnt S' 0 m = _
      unfold b_M_takesOrder_l10
      rw [if_pos rfl]
    by_cases q : k < s
    rotate_left
    · have q' : Int32.ofNat s ≤ Int32.ofNat k := by grind [zm_g]
      refine ⟨k, g, c, m, .inr c, zj_lpE ?_, Or.inr rfl, zj_lpE ?_, I, hks⟩
      · show b_C_readOrder_l25 (Int32.ofNat d) (Int32.ofNat k) c = _
        unfold b_C_readOrder_l25
        rw [zm_sizeC hd, c17, zm_bs, if_pos q']
      · show b_M_takesOrder_l10 (Int32.ofNat d) cnt (Int32.ofNat S) 1 m = _
        unfold b_M_takesOrder_l10
        rw [if_neg z1, i7, if_neg g7, zm_ix hd (by omega), zm_bs, m20, if_pos q']
    have q' : ¬ Int32.ofNat s ≤ Int32.ofNat k := by grind [zm_g]
    obtain ⟨it1, it2, it3⟩ := hit k q
    have cit : c.2 18 (60 * d + k) = m0.2 21 (60 * d + k) := by rw [i1]; exact it1
    have mit : f_M_itemAt (Int32.ofNat d) (Int32.ofNat k) m = some (m0.2 21 (60 * d + k)) := by
      have e : 60 * Int32.ofNat d + Int32.ofNat k = Int32.ofNat (60 * d + k) := by simp
      unfold f_M_itemAt
      rw [e, zm_ix (by omega) (by omega), zm_bs, i3]
    have mj : f_M_isJumper (m0.2 21 (60 * d + k)) m = some (if 0 ≤ (m0.2 21 (60 * d + k)).toInt32 ∧ (m0.2 21 (60 * d + k)).toInt32 < Int32.ofNat J then 1 else 0) := by
      have := zm_isJumperM (m0.2 21 (60 * d + k)).toInt32 m hJ mJ
      rw [zm_back64 it2 it3] at this
      exact this
    by_cases e : 0 ≤ (m0.2 21 (60 * d + k)).toInt32 ∧ (m0.2 21 (60 * d + k)).toInt32 < Int32.ofNat J
    rotate_left
    · refine ⟨k, g, c, m, .inr c, zj_lpE ?_, Or.inr rfl, out (Int32.ofNat S) ?_, I, hks⟩
      · show b_C_readOrder_l25 (Int32.ofNat d) (Int32.ofNat k) c = _
        unfold b_C_readOrder_l25
        rw [zm_sizeC hd, c17, zm_bs, if_neg q', zm_cellC hd (t := 0) (by omega) hs q c16 c17, zm_bs, zm_let, cit, zm_isJumperC _ _ cJ, zm_bs, if_neg e, if_pos rfl]
      · unfold b_M_takesOrder_l10 n_M_takesOrder_b10_71 n_M_takesOrder_b10_72 n_M_takesOrder_b10_109
        rw [if_neg z1, i7, if_neg g7, zm_ix hd (by omega), zm_bs, m20, if_neg q', mit, zm_bs, mj, zm_bs, if_neg e, if_pos rfl, if_pos rfl]
    obtain ⟨x, hx, ex⟩ := zm_in (v := (m0.2 21 (60 * d + k)).toInt32) (n := J) (by omega) (by grind) (by grind)
    have ex64 : m0.2 21 (60 * d + k) = (Int32.ofNat x).toInt64 := by rw [← ex, zm_back64 it2 it3]
    have hx7 : x < 7 := by omega
    have hasC := zo_has (c := c) (n := k) (j := x) (g := g) i8 i6 hx7 (fun k hk => ⟨by have := (i9 k hk).1; omega, (i9 k hk).2.1⟩)
    by_cases w : ∃ o < k, g o = x
    · have w1 : zj_any k (fun k => decide (g k = x)) = true := by
        obtain ⟨o, o1, o2⟩ := w
        exact zj_any_iff.mpr ⟨o, o1, decide_eq_true o2⟩
      have w2 : Nat.testBit S x = true := (hb x hx7).mpr w
      refine ⟨k, g, c, m, .inl c, zj_lpE ?_, Or.inl rfl, out (Int32.ofNat S) ?_, I, hks⟩
      · show b_C_readOrder_l25 (Int32.ofNat d) (Int32.ofNat k) c = _
        unfold b_C_readOrder_l25
        rw [zm_sizeC hd, c17, zm_bs, if_neg q', zm_cellC hd (t := 0) (by omega) hs q c16 c17, zm_bs, zm_let, cit, zm_isJumperC _ _ cJ, zm_bs, if_pos e, if_neg z1, ex, hasC, zm_bs, w1, if_pos rfl, if_neg z1]
      · unfold b_M_takesOrder_l10 n_M_takesOrder_b10_71 n_M_takesOrder_b10_72 n_M_takesOrder_b10_109
        rw [if_neg z1, i7, if_neg g7, zm_ix hd (by omega), zm_bs, m20, if_neg q', mit, zm_bs, mj, zm_bs, if_pos e, if_neg z1, ex, zo_isIn hS hx7, zm_bs, w2, if_pos rfl, if_pos z1, if_pos rfl]
    · have w1 : zj_any k (fun k => decide (g k = x)) = false := by
        cases h : zj_any k (fun k => decide (g k = x))
        · rfl
        · obtain ⟨o, o1, o2⟩ := zj_any_iff.mp h
          exact absurd ⟨o, o1, of_decide_eq_true o2⟩ w
      have w2 : Nat.testBit S x = false := by
        cases h : Nat.testBit S x
        · rfl
        · exact absurd ((hb x hx7).mp h) w
      obtain ⟨-, b2, b3⟩ := zo_bit S hS x hx7
      have a1 : Int32.ofNat k + 1 = Int32.ofNat (k + 1) := by simp
      have hbC : b_C_readOrder_l25 (Int32.ofNat d) (Int32.ofNat k) c = some (.inl (Int32.ofNat (k + 1), zx_u1 (zx_u1 c 20 k (Int32.ofNat x)) 19 1 (Int32.ofNat (k + 1)))) := by
        unfold b_C_readOrder_l25
        rw [zm_sizeC hd, c17, zm_bs, if_neg q', zm_cellC hd (t := 0) (by omega) hs q c16 c17, zm_bs, zm_let, cit, zm_isJumperC _ _ cJ, zm_bs, if_pos e, if_neg z1, ex, hasC, zm_bs, w1, if_neg (show ¬ (false = true) by decide), if_pos rfl, zo_append (by omega) i6, zm_bs, zm_let, a1]
      have u20 : (zx_u1 m 8 k (Int32.ofNat x)).1 0 20 = Int32.ofNat k := by rw [zm_u11, if_neg (by omega)]; exact i7
      have hbM : b_M_takesOrder_l10 (Int32.ofNat d) cnt (Int32.ofNat S) 1 m = some (.inl (Int32.ofNat (S ||| 2 ^ x), 1, zx_u1 (zx_u1 m 8 k (Int32.ofNat x)) 0 20 (Int32.ofNat (k + 1)))) := by
        unfold b_M_takesOrder_l10 n_M_takesOrder_b10_71 n_M_takesOrder_b10_72 n_M_takesOrder_b10_109
        rw [if_neg z1, i7, if_neg g7, zm_ix hd (by omega), zm_bs, m20, if_neg q', mit, zm_bs, mj, zm_bs, if_pos e, if_neg z1, ex, zo_isIn hS hx7, zm_bs, w2, if_neg (show ¬ (false = true) by decide), if_neg z2, if_neg z1, zm_let, b2, zm_ix (show k < 7 by omega) (by omega), zm_bs, zm_let, zm_let, u20, a1]
      have I' : zo_I c0 m0 (zx_u1 (zx_u1 c 20 k (Int32.ofNat x)) 19 1 (Int32.ofNat (k + 1))) (zx_u1 (zx_u1 m 8 k (Int32.ofNat x)) 0 20 (Int32.ofNat (k + 1))) d J (k + 1) (fun i => if i = k then x else g i) := by
        refine ⟨?_, fun r r1 r2 => ?_, ?_, fun r r1 r2 => ?_, fun p hp => ?_, ?_, ?_, by omega, fun i hi => ?_⟩
        · rw [zm_u12, zm_u12]; exact i1
        · rw [zm_u11, if_neg r1, zm_u11, if_neg r2]; exact i2 r r1 r2
        · rw [zm_u12, zm_u12]; exact i3
        · rw [zm_u11, if_neg r1, zm_u11, if_neg r2]; exact i4 r r1 r2
        · rw [zm_u11, if_pos rfl, zm_upd, if_neg hp, zm_u11, if_neg (by omega)]; exact i5 p hp
        · rw [zm_u11, if_pos rfl, zm_upd, if_pos rfl]
        · rw [zm_u11, if_pos rfl, zm_upd, if_pos rfl]
        · rw [zm_u11, if_neg (by omega), zm_u11, if_pos rfl, zm_u11, if_neg (by omega), zm_u11, if_pos rfl, zm_upd, zm_upd]
          show (if i = k then x else g i) < J ∧ _ = Int32.ofNat (if i = k then x else g i) ∧ _ = Int32.ofNat (if i = k then x else g i) ∧ _ = (Int32.ofNat (if i = k then x else g i)).toInt64 ∧ ∀ o < k + 1, (if o = k then x else g o) = (if i = k then x else g i) → o = i
          by_cases f : i = k
          · subst f
            simp only [↓reduceIte]
            refine ⟨hx, trivial, trivial, ex64, fun o ho => ?_⟩
            by_cases f2 : o = i
            · intro _; exact f2
            · rw [if_neg f2]
              intro h
              exact absurd ⟨o, by omega, h⟩ w
          · obtain ⟨y1, y2, y3, y4, y5⟩ := i9 i (by omega)
            simp only [if_neg f]
            refine ⟨y1, y2, y3, y4, fun o ho => ?_⟩
            by_cases f2 : o = k
            · rw [if_pos f2]
              intro h
              exact absurd ⟨i, by omega, h.symm⟩ w
            · rw [if_neg f2]
              exact y5 o (by omega)
      have hb' : ∀ q < 7, Nat.testBit (S ||| 2 ^ x) q = true ↔ ∃ o < k + 1, (if o = k then x else g o) = q := by
        intro q hq
        rw [Nat.testBit_or, Bool.or_eq_true, hb q hq, Nat.testBit_two_pow, decide_eq_true_iff]
        constructor
        · rintro (⟨o, o1, o2⟩ | h)
          · exact ⟨o, by omega, by rw [if_neg (by omega)]; exact o2⟩
          · exact ⟨k, by omega, by rw [if_pos rfl]; exact h⟩
        · rintro ⟨o, o1, o2⟩
          by_cases f : o = k
          · rw [if_pos f] at o2; exact Or.inr o2
          · rw [if_neg f] at o2; exact Or.inl ⟨o, by omega, o2⟩
      obtain ⟨n, g', c', m', t, r1, r2, r3, r4, r5⟩ := ih (k + 1) (by omega) _ _ _ (S ||| 2 ^ x) I' (by omega) b3 hb' N1 (N2 + 1) (by omega) (by omega)
      refine ⟨n, g', c', m', t, ?_, r2, ?_, r4, r5⟩
      · rw [zj_lpS (show (fun st : Int32 × zx_M => b_C_readOrder_l25 (Int32.ofNat d) st.1 st.2) (Int32.ofNat k, c) = _ from hbC)]; exact r1
      · rw [zj_lpS (show (fun st : Int32 × Int32 × zx_M => b_M_takesOrder_l10 (Int32.ofNat d) cnt st.1 st.2.1 st.2.2) (Int32.ofNat S, 1, m) = _ from hbM)]; exact r3
