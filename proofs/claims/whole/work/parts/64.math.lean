/-! who stops, and all behind late -/
theorem zs_bit0 : ∀ S < 128, ∀ j < 7, (((zx_shr (Int32.ofNat S) (Int32.ofNat j)) &&& 1) = 0 ↔ Nat.testBit S j = false) := by decide +kernel
theorem zs_shl : ∀ k < 7, zx_shl 1 (Int32.ofNat k) = Int32.ofNat (2 ^ k) ∧ 2 ^ k < 128 := by decide +kernel
def zs_late (S : Nat) (sec : Int32) : Nat → Int32
  | 0 => 0
  | k + 1 => zs_late S sec k + (if Nat.testBit S k then sec else 0)
def zs_se (cnt : Int32) (S : Nat) (sec : Int32) (k : Nat) : Int32 := Int32.ofNat k * cnt + zs_late S sec (k + 1)
theorem zs_stopped {c : zx_M} {n J : Nat} {g : Nat → Nat} (R : zo_Rc c n J g) {q S : Nat} (hq : q ≤ n) (hS : S < 128) (sec yc : Int32) {way : Int32} (hw : ∀ x, zj_JF22 c x → f_C_way x = some way) : ∃ c', f_C_goodIfStopped (Int32.ofNat q) (Int32.ofNat S) sec yc c = some (Int32.ofNat (zj_good q (c.1 2 0) (c.1 2 1) (c.1 2 2) (zs_se (zx_rem yc 100) S sec) (fun k => yc / 100 - 999 + zo_yd (c.1 2 3) way (c.1 21) g (zs_se (zx_rem yc 100) S sec) k)), c') ∧ zj_JF22 c c' := by
  obtain ⟨c0, k1, k2, k3⟩ := zj_clear22 c
  have n7 := R.1
  have key : ∀ (j i : Nat), i + j = q → ∀ x : zx_M, zj_JF22 c x → zj_JC22 x i (zs_se (zx_rem yc 100) S sec) (zo_yd (c.1 2 3) way (c.1 21) g (zs_se (zx_rem yc 100) S sec)) → ∀ N, j + 1 ≤ N → ∃ c', zx_lp N (fun s : Int32 × Int32 × zx_M => b_C_goodIfStopped_l13 (Int32.ofNat q) (Int32.ofNat S) sec yc s.1 s.2.1 s.2.2) (zs_late S sec i, Int32.ofNat i, x) = some c' ∧ zj_JF22 c c' ∧ zj_JC22 c' q (zs_se (zx_rem yc 100) S sec) (zo_yd (c.1 2 3) way (c.1 21) g (zs_se (zx_rem yc 100) S sec)) := by
    intro j
    induction j with
    | zero =>
      intro i hi x F Q N hN
      obtain ⟨N1, rfl⟩ : ∃ N1, N = N1 + 1 := ⟨N - 1, by omega⟩
      have e : i = q := by omega
      subst e
      refine ⟨x, zj_lpE ?_, F, Q⟩
      show b_C_goodIfStopped_l13 (Int32.ofNat i) (Int32.ofNat S) sec yc (zs_late S sec i) (Int32.ofNat i) x = _
      unfold b_C_goodIfStopped_l13
      rw [if_pos (Int32.le_refl _)]
    | succ j ih =>
      intro i hi x F Q N hN
      obtain ⟨N1, rfl⟩ : ∃ N1, N = N1 + 1 := ⟨N - 1, by omega⟩
      have Rx := zo_RcF R F
      have hi7 : i < 7 := by omega
      obtain ⟨x2, h1, h2, h3⟩ := zo_send Rx Q hi7 (show i < n by omega) (zs_se (zx_rem yc 100) S sec i) way
      have e2 : x.1 2 = c.1 2 := F.2.1 2 (by omega) (by omega) (by omega) (by omega)
      have e21 : x.1 21 = c.1 21 := F.2.1 21 (by omega) (by omega) (by omega) (by omega)
      rw [e2, e21] at h2
      have u1 : upd (zs_se (zx_rem yc 100) S sec) i (zs_se (zx_rem yc 100) S sec i) = zs_se (zx_rem yc 100) S sec := zo_updS _ i
      have u2 : upd (zo_yd (c.1 2 3) way (c.1 21) g (zs_se (zx_rem yc 100) S sec)) i (zo_ah (c.1 2 3) way (zs_se (zx_rem yc 100) S sec i) + c.1 21 (g i)) = zo_yd (c.1 2 3) way (c.1 21) g (zs_se (zx_rem yc 100) S sec) := zo_updS (zo_yd (c.1 2 3) way (c.1 21) g (zs_se (zx_rem yc 100) S sec)) i
      rw [u1, u2] at h2
      have g1 : ¬ Int32.ofNat q ≤ Int32.ofNat i := by grind [zm_g]
      have a1 : Int32.ofNat i + 1 = Int32.ofNat (i + 1) := by simp
      have h34 : n_C_goodIfStopped_b13_34 (Int32.ofNat q) (Int32.ofNat S) sec yc (zs_late S sec (i + 1)) (Int32.ofNat i) x = some (.inl (zs_late S sec (i + 1), Int32.ofNat (i + 1), x2)) := by
        unfold n_C_goodIfStopped_b13_34
        have es : Int32.ofNat i * zx_rem yc 100 + zs_late S sec (i + 1) = zs_se (zx_rem yc 100) S sec i := rfl
        rw [zm_countOfC, zm_bs, hw x F, zm_bs, es, h1, zm_bs, zm_let, a1]
      have hb : b_C_goodIfStopped_l13 (Int32.ofNat q) (Int32.ofNat S) sec yc (zs_late S sec i) (Int32.ofNat i) x = some (.inl (zs_late S sec (i + 1), Int32.ofNat (i + 1), x2)) := by
        have b0 := zs_bit0 S hS i hi7
        have ln : zs_late S sec (i + 1) = zs_late S sec i + (if Nat.testBit S i then sec else 0) := rfl
        unfold b_C_goodIfStopped_l13
        rw [if_neg g1]
        cases hb : Nat.testBit S i
        · rw [if_pos (b0.mpr hb), ← h34, ln, hb]
          have : zs_late S sec i + (if false = true then sec else 0) = zs_late S sec i := by simp
          rw [this]
        · have nb : ¬ ((zx_shr (Int32.ofNat S) (Int32.ofNat i)) &&& 1) = 0 := fun h => by rw [b0.mp h] at hb; exact absurd hb (by decide)
          rw [if_neg nb, zm_let, ← h34, ln, hb]
          rfl
      obtain ⟨c', y1, y2⟩ := ih (i + 1) (by omega) x2 (zj_JF22_trans F h3) h2 N1 (by omega)
      refine ⟨c', ?_, y2⟩
      rw [zj_lpS (show (fun s : Int32 × Int32 × zx_M => b_C_goodIfStopped_l13 (Int32.ofNat q) (Int32.ofNat S) sec yc s.1 s.2.1 s.2.2) (zs_late S sec i, Int32.ofNat i, x) = _ from hb)]
      exact y1
  obtain ⟨c', y1, y2, y3⟩ := key q 0 (by omega) c0 k2 (k3 _ _) zx_N (by have : zx_N = 100000 := rfl; omega)
  have y1' : l_C_goodIfStopped_l13 (Int32.ofNat q) (Int32.ofNat S) sec yc (0, 0, c0) = some c' := y1
  have e2 : c'.1 2 = c.1 2 := y2.2.1 2 (by omega) (by omega) (by omega) (by omega)
  refine ⟨c', ?_, y2⟩
  unfold f_C_goodIfStopped
  simp only [k1, zm_bs, y1', zm_let, zm_spotC, zj_good22 y3, e2]
/-- all but one -/
def zs_o (k i : Nat) : Nat := if i < k then i else i + 1
theorem zs_without {c : zx_M} {n J : Nat} {g : Nat → Nat} (R : zo_Rc c n J g) {k : Nat} (hk : k < n) (yc : Int32) {way : Int32} (hw : ∀ x, zj_JF22 c x → f_C_way x = some way) : ∃ c', f_C_goodWithout (Int32.ofNat k) yc c = some (Int32.ofNat (zj_good (n - 1) (c.1 2 0) (c.1 2 1) (c.1 2 2) (fun i => zx_rem yc 100 * Int32.ofNat (zs_o k i)) (fun i => yc / 100 - 999 + zo_yd (c.1 2 3) way (c.1 21) (fun i => g (zs_o k i)) (fun i => zx_rem yc 100 * Int32.ofNat (zs_o k i)) i)), c') ∧ zj_JF22 c c' := by
  obtain ⟨c0, k1, k2, k3⟩ := zj_clear22 c
  have n7 := R.1
  have key : ∀ (j i p : Nat), i + j = n → p = (if i ≤ k then i else i - 1) → ∀ x : zx_M, zj_JF22 c x → zj_JC22 x p (fun i => zx_rem yc 100 * Int32.ofNat (zs_o k i)) (zo_yd (c.1 2 3) way (c.1 21) (fun i => g (zs_o k i)) (fun i => zx_rem yc 100 * Int32.ofNat (zs_o k i))) → ∀ N, j + 1 ≤ N → ∃ c', zx_lp N (fun s : Int32 × zx_M => b_C_goodWithout_l9 (Int32.ofNat k) yc s.1 s.2) (Int32.ofNat i, x) = some c' ∧ zj_JF22 c c' ∧ zj_JC22 c' (n - 1) (fun i => zx_rem yc 100 * Int32.ofNat (zs_o k i)) (zo_yd (c.1 2 3) way (c.1 21) (fun i => g (zs_o k i)) (fun i => zx_rem yc 100 * Int32.ofNat (zs_o k i))) := by
    intro j
    induction j with
    | zero =>
      intro i p hi hp x F Q N hN
      obtain ⟨N1, rfl⟩ : ∃ N1, N = N1 + 1 := ⟨N - 1, by omega⟩
      have e : i = n := by omega
      subst e
      rw [if_neg (by omega)] at hp
      rw [hp] at Q
      refine ⟨x, zj_lpE ?_, F, Q⟩
      show b_C_goodWithout_l9 (Int32.ofNat k) yc (Int32.ofNat i) x = _
      unfold b_C_goodWithout_l9 f_Order_size
      rw [zm_bs, (zo_RcF R F).2.2.1, if_pos (Int32.le_refl _)]
    | succ j ih =>
      intro i p hi hp x F Q N hN
      obtain ⟨N1, rfl⟩ : ∃ N1, N = N1 + 1 := ⟨N - 1, by omega⟩
      have Rx := zo_RcF R F
      have g1 : ¬ Int32.ofNat n ≤ Int32.ofNat i := by grind [zm_g]
      have a1 : Int32.ofNat i + 1 = Int32.ofNat (i + 1) := by simp
      by_cases e : i = k
      · subst e
        rw [if_pos (Nat.le_refl _)] at hp
        have hb : b_C_goodWithout_l9 (Int32.ofNat i) yc (Int32.ofNat i) x = some (.inl (Int32.ofNat (i + 1), x)) := by
          unfold b_C_goodWithout_l9 n_C_goodWithout_b9_40 f_Order_size
          rw [zm_bs, Rx.2.2.1, if_neg g1, if_pos rfl, zm_let, a1]
        obtain ⟨c', y1, y2⟩ := ih (i + 1) p (by omega) (by rw [if_neg (by omega)]; omega) x F Q N1 (by omega)
        refine ⟨c', ?_, y2⟩
        rw [zj_lpS (show (fun s : Int32 × zx_M => b_C_goodWithout_l9 (Int32.ofNat i) yc s.1 s.2) (Int32.ofNat i, x) = _ from hb)]
        exact y1
      · have ne : ¬ Int32.ofNat i = Int32.ofNat k := by grind [zm_g]
        have op : zs_o k p = i := by
          unfold zs_o
          by_cases f : i ≤ k
          · rw [if_pos f] at hp
            rw [if_pos (by omega)]; omega
          · rw [if_neg f] at hp
            rw [if_neg (by omega)]; omega
        have p7 : p < 7 := by
          by_cases f : i ≤ k
          · rw [if_pos f] at hp; omega
          · rw [if_neg f] at hp; omega
        obtain ⟨x2, h1, h2, h3⟩ := zo_send Rx Q p7 (show i < n by omega) (zx_rem yc 100 * Int32.ofNat i) way
        have e2 : x.1 2 = c.1 2 := F.2.1 2 (by omega) (by omega) (by omega) (by omega)
        have e21 : x.1 21 = c.1 21 := F.2.1 21 (by omega) (by omega) (by omega) (by omega)
        have e3 : Int32.ofNat i * zx_rem yc 100 = zx_rem yc 100 * Int32.ofNat i := by grind
        rw [e2, e21] at h2
        have u1 : upd (fun i => zx_rem yc 100 * Int32.ofNat (zs_o k i)) p (zx_rem yc 100 * Int32.ofNat i) = (fun i => zx_rem yc 100 * Int32.ofNat (zs_o k i)) := by
          have := zo_updS (fun i => zx_rem yc 100 * Int32.ofNat (zs_o k i)) p
          rw [op] at this
          exact this
        have u2 : upd (zo_yd (c.1 2 3) way (c.1 21) (fun i => g (zs_o k i)) (fun i => zx_rem yc 100 * Int32.ofNat (zs_o k i))) p (zo_ah (c.1 2 3) way (zx_rem yc 100 * Int32.ofNat i) + c.1 21 (g i)) = zo_yd (c.1 2 3) way (c.1 21) (fun i => g (zs_o k i)) (fun i => zx_rem yc 100 * Int32.ofNat (zs_o k i)) := by
          have := zo_updS (zo_yd (c.1 2 3) way (c.1 21) (fun i => g (zs_o k i)) (fun i => zx_rem yc 100 * Int32.ofNat (zs_o k i))) p
          have ev : zo_yd (c.1 2 3) way (c.1 21) (fun i => g (zs_o k i)) (fun i => zx_rem yc 100 * Int32.ofNat (zs_o k i)) p = zo_ah (c.1 2 3) way (zx_rem yc 100 * Int32.ofNat i) + c.1 21 (g i) := by
            unfold zo_yd
            dsimp only
            rw [op]
          rw [ev] at this
          exact this
        rw [u1, u2] at h2
        have hb : b_C_goodWithout_l9 (Int32.ofNat k) yc (Int32.ofNat i) x = some (.inl (Int32.ofNat (i + 1), x2)) := by
          unfold b_C_goodWithout_l9 n_C_goodWithout_b9_40 f_Order_size
          rw [zm_bs, Rx.2.2.1, if_neg g1, if_neg ne, zm_countOfC, zm_bs, hw x F, zm_bs, e3, h1, zm_bs, zm_let, a1]
        obtain ⟨c', y1, y2⟩ := ih (i + 1) (p + 1) (by omega) (by
          by_cases f : i ≤ k
          · rw [if_pos f] at hp
            rw [if_pos (by omega)]; omega
          · rw [if_neg f] at hp
            rw [if_neg (by omega)]; omega) x2 (zj_JF22_trans F h3) h2 N1 (by omega)
        refine ⟨c', ?_, y2⟩
        rw [zj_lpS (show (fun s : Int32 × zx_M => b_C_goodWithout_l9 (Int32.ofNat k) yc s.1 s.2) (Int32.ofNat i, x) = _ from hb)]
        exact y1
  obtain ⟨c', y1, y2, y3⟩ := key n 0 0 (by omega) (by rw [if_pos (by omega)]) c0 k2 (k3 _ _) zx_N (by have : zx_N = 100000 := rfl; omega)
  have y1' : l_C_goodWithout_l9 (Int32.ofNat k) yc (0, c0) = some c' := y1
  have e2 : c'.1 2 = c.1 2 := y2.2.1 2 (by omega) (by omega) (by omega) (by omega)
  refine ⟨c', ?_, y2⟩
  unfold f_C_goodWithout
  simp only [k1, zm_bs, y1', zm_let, zm_spotC, zj_good22 y3, e2]
/-- the reference leaves one out -/
theorem zs_leaves {m : zx_M} {n k : Nat} (hn : n ≤ 7) (hk : k < n) (h : m.1 0 20 = Int32.ofNat n) : ∃ m', f_M_leavesOut (Int32.ofNat k) m = some m' ∧ m'.2 = m.2 ∧ (∀ r, ¬ r = 0 → ¬ r = 8 → ¬ r = 9 → m'.1 r = m.1 r) ∧ (∀ q, ¬ q = 20 → m'.1 0 q = m.1 0 q) ∧ m'.1 0 20 = Int32.ofNat (n - 1) ∧ ∀ i < n - 1, m'.1 8 i = m.1 8 (zs_o k i) ∧ m'.1 9 i = m.1 9 (zs_o k i) := by
  have en : Int32.ofNat n - 1 = Int32.ofNat (n - 1) := by
    have := zm_g (k := n) (by omega)
    have := zm_g (k := n - 1) (by omega)
    grind
  have key : ∃ m', l_M_leavesOut_l2 (Int32.ofNat k, m) = some m' ∧ m'.2 = m.2 ∧ (∀ r, ¬ r = 8 → ¬ r = 9 → m'.1 r = m.1 r) ∧ ∀ i < n - 1, m'.1 8 i = m.1 8 (zs_o k i) ∧ m'.1 9 i = m.1 9 (zs_o k i) := by
    unfold l_M_leavesOut_l2
    refine zm_lp1 (fun s : Int32 × zx_M => zm_up (Int32.ofNat n) s.1) (fun s => ∃ q, k ≤ q ∧ q ≤ n - 1 ∧ s.1 = Int32.ofNat q ∧ s.2.2 = m.2 ∧ (∀ r, ¬ r = 8 → ¬ r = 9 → s.2.1 r = m.1 r) ∧ (∀ i < q, s.2.1 8 i = m.1 8 (zs_o k i) ∧ s.2.1 9 i = m.1 9 (zs_o k i)) ∧ ∀ i, q ≤ i → s.2.1 8 i = m.1 8 i ∧ s.2.1 9 i = m.1 9 i) _ ?_ zx_N _ ⟨k, Nat.le_refl _, by omega, rfl, rfl, fun _ _ _ => rfl, fun i hi => by
      unfold zs_o
      rw [if_pos hi]
      exact ⟨rfl, rfl⟩, fun _ _ => ⟨rfl, rfl⟩⟩ (zm_upN (by grind [zm_g]) (by grind [zm_g]))
    rintro ⟨q', x⟩ ⟨q, h1, h2, h3, h4, h5, h6, h7⟩
    dsimp only at h3 h4 h5 h6 h7 ⊢
    subst h3
    have xn : x.1 0 20 = Int32.ofNat n := by rw [h5 0 (by omega) (by omega)]; exact h
    unfold b_M_leavesOut_l2
    rw [xn, en]
    by_cases e : q = n - 1
    · right
      subst e
      simp only [if_pos (Int32.le_refl _)]
      exact ⟨_, rfl, h4, h5, h6⟩
    · left
      have g1 : ¬ Int32.ofNat (n - 1) ≤ Int32.ofNat q := by
        have := zm_g (k := n - 1) (by omega)
        have := zm_g (k := q) (by omega)
        grind
      have a1 : Int32.ofNat q + 1 = Int32.ofNat (q + 1) := by simp
      simp only [if_neg g1, a1, zm_ix (show q + 1 < 7 by omega) (by omega), zm_ix (show q < 7 by omega) (by omega), zm_bs, zm_let]
      refine ⟨_, rfl, ⟨q + 1, by omega, by omega, rfl, h4, fun r r8 r9 => ?_, fun i hi => ?_, fun i hi => ?_⟩, by rw [← a1]; exact zm_up1 (by grind [zm_g])⟩
      · rw [zm_u11, if_neg r9, zm_u11, if_neg r8]; exact h5 r r8 r9
      · have o1 : zs_o k q = q + 1 := by unfold zs_o; rw [if_neg (by omega)]
        by_cases f : i = q
        · subst f
          rw [o1]
          have := h7 (i + 1) (by omega)
          simpa [zm_u11, zm_upd] using this
        · have := h6 i (by omega)
          simpa [zm_u11, zm_upd, f] using this
      · have f : ¬ i = q := by omega
        have := h7 i (by omega)
        simpa [zm_u11, zm_upd, f] using this
  obtain ⟨m', e1, e2, e3, e4⟩ := key
  have x20 : m'.1 0 20 = Int32.ofNat n := by rw [e3 0 (by omega) (by omega)]; exact h
  unfold f_M_leavesOut
  rw [e1, zm_bs, zm_let, zm_let, x20, en]
  refine ⟨_, rfl, by rw [zm_u12]; exact e2, fun r r0 r8 r9 => by rw [zm_u11, if_neg r0]; exact e3 r r8 r9, fun q hq => by rw [zm_u11, if_pos rfl, zm_upd, if_neg hq, e3 0 (by omega) (by omega)], by rw [zm_u11, if_pos rfl, zm_upd, if_pos rfl], fun i hi => by rw [zm_u11, if_neg (by omega), zm_u11, if_neg (by omega)]; exact e4 i hi⟩
