/-! orders by codes, and by going down -/
/-- the digit at a place, of so many, to a base -/
def zc_d (J L c k : Nat) : Nat := c / J ^ (L - 1 - k) % J
def zc_s (J L c : Nat) : List Nat := (List.range L).map (zc_d J L c)
def zc_ok (J L c : Nat) : Bool := (List.range L).all (fun k => !zj_any k (fun i => decide (zc_d J L c i = zc_d J L c k)))
def zc_L (J L : Nat) (n : Nat) : List (List Nat) := (List.range n).filterMap (fun c => if zc_ok J L c then some (zc_s J L c) else none)
def zc_T (J : Nat) : Nat → List Nat → List (List Nat)
  | 0, pre => [pre]
  | n + 1, pre => (List.range J).flatMap (fun j => if pre.contains j then [] else zc_T J n (pre ++ [j]))
theorem zc_same5 : ∀ J < 6, zc_L J J (J ^ J) = zc_T J J [] := by decide +kernel
theorem zc_same4 : ∀ J < 8, ∀ L < 5, zc_L J L (J ^ L) = zc_T J L [] := by decide +kernel
theorem zc_get {J L c k : Nat} (hk : k < L) : (zc_s J L c).getD k 0 = zc_d J L c k := by
  unfold zc_s
  rw [List.getD_eq_getElem?_getD, List.getElem?_map, List.getElem?_range hk]
  rfl
theorem zc_dlt {J L c k : Nat} (h : 0 < J) : zc_d J L c k < J := Nat.mod_lt _ h
theorem zc_LS (J L n : Nat) : zc_L J L (n + 1) = zc_L J L n ++ (if zc_ok J L n then [zc_s J L n] else []) := by
  unfold zc_L
  rw [List.range_succ, List.filterMap_append]
  congr 1
  by_cases h : zc_ok J L n = true
  · rw [if_pos h]
    simp [h]
  · rw [if_neg h]
    simp [h]
theorem zc_okE {J L c : Nat} : zc_ok J L c = true ↔ ∀ k < L, zj_any k (fun i => decide (zc_d J L c i = zc_d J L c k)) = false := by
  unfold zc_ok
  rw [List.all_eq_true]
  constructor
  · intro h k hk
    have := h k (List.mem_range.mpr hk)
    simpa using this
  · intro h k hk
    have := h k (List.mem_range.mp hk)
    simp [this]
/-- the class spells a code -/
theorem zc_spell {x : zx_M} {J L c : Nat} (hJ : J ≤ 7) (hL : L ≤ 5) (hc : c < J ^ L) (hb : J ^ L < 100000) : ∃ x' r, f_Order_spell (Int32.ofNat c) (Int32.ofNat L) (Int32.ofNat J) x = some (r, x') ∧ x'.2 = x.2 ∧ (∀ q, ¬ q = 19 → ¬ q = 20 → x'.1 q = x.1 q) ∧ (zc_ok J L c = false → r = 0) ∧ (zc_ok J L c = true → r = 1 ∧ x'.1 19 1 = Int32.ofNat L ∧ ∀ k < L, x'.1 20 k = Int32.ofNat (zc_d J L c k)) := by
  have key : ∀ (j i : Nat), i + j = L → ∀ y : zx_M, y.2 = x.2 → (∀ q, ¬ q = 19 → ¬ q = 20 → y.1 q = x.1 q) → y.1 19 1 = Int32.ofNat i → (∀ k < i, y.1 20 k = Int32.ofNat (zc_d J L c k)) → (∀ k < i, zj_any k (fun i => decide (zc_d J L c i = zc_d J L c k)) = false) → ∀ w, (i < L → w = Int32.ofNat (J ^ (L - 1 - i))) → ∀ N, j + 1 ≤ N → ∃ x' r, zx_lp N (fun s : Int32 × Int32 × zx_M => b_Order_spell_l16 (Int32.ofNat c) (Int32.ofNat L) (Int32.ofNat J) s.1 s.2.1 s.2.2) (w, Int32.ofNat i, y) = some (r, x') ∧ x'.2 = x.2 ∧ (∀ q, ¬ q = 19 → ¬ q = 20 → x'.1 q = x.1 q) ∧ (zc_ok J L c = false → r = 0) ∧ (zc_ok J L c = true → r = 1 ∧ x'.1 19 1 = Int32.ofNat L ∧ ∀ k < L, x'.1 20 k = Int32.ofNat (zc_d J L c k)) := by
    intro j
    induction j with
    | zero =>
      intro i hi y h2 hr h19 h20 hok w hw N hN
      obtain ⟨N1, rfl⟩ : ∃ N1, N = N1 + 1 := ⟨N - 1, by omega⟩
      have e : i = L := by omega
      subst e
      have ok : zc_ok J i c = true := zc_okE.mpr hok
      refine ⟨y, 1, zj_lpE ?_, h2, hr, fun h => by rw [ok] at h; exact absurd h (by decide), fun _ => ⟨rfl, h19, h20⟩⟩
      show b_Order_spell_l16 (Int32.ofNat c) (Int32.ofNat i) (Int32.ofNat J) w (Int32.ofNat i) y = _
      unfold b_Order_spell_l16
      rw [if_pos (Int32.le_refl _)]
    | succ j ih =>
      intro i hi y h2 hr h19 h20 hok w hw N hN
      obtain ⟨N1, rfl⟩ : ∃ N1, N = N1 + 1 := ⟨N - 1, by omega⟩
      have hiL : i < L := by omega
      have hJ0 : 0 < J := by
        rcases Nat.eq_zero_or_pos J with h | h
        · subst h
          rw [Nat.zero_pow (by omega)] at hc
          omega
        · exact h
      have hw' := hw hiL
      have p0 : 0 < J ^ (L - 1 - i) := Nat.pow_pos hJ0
      have p1 : J ^ (L - 1 - i) ≤ J ^ L := Nat.pow_le_pow_right hJ0 (by omega)
      have gw := zm_g (k := J ^ (L - 1 - i)) (by omega)
      have g1 : ¬ Int32.ofNat L ≤ Int32.ofNat i := by grind [zm_g]
      have g2 : ¬ w ≤ 0 := by rw [hw']; grind
      have g3 : ¬ Int32.ofNat J ≤ 0 := by grind [zm_g]
      have g4 : ¬ w = 0 := by rw [hw']; grind
      have g5 : ¬ Int32.ofNat J = 0 := by grind [zm_g]
      have dig : zx_rem (Int32.ofNat c / w) (Int32.ofNat J) = Int32.ofNat (zc_d J L c i) := by
        have : c / J ^ (L - 1 - i) ≤ c := Nat.div_le_self _ _
        rw [hw', zg_divN (by omega) (by omega), zg_remN (by omega) (by omega)]
        rfl
      have dl := zc_dlt (J := J) (L := L) (c := c) (k := i) hJ0
      have has := zo_has (c := y) (n := i) (j := zc_d J L c i) (g := zc_d J L c) (by omega) h19 (by omega) (fun k hk => ⟨by have := zc_dlt (J := J) (L := L) (c := c) (k := k) hJ0; omega, h20 k hk⟩)
      cases hany : zj_any i (fun k => decide (zc_d J L c k = zc_d J L c i))
      · -- goes on
        rw [hany] at has
        have z : (if (false : Bool) = true then (1 : Int32) else 0) = 0 := by decide
        rw [z] at has
        have a1 : Int32.ofNat i + 1 = Int32.ofNat (i + 1) := by simp
        have hb : b_Order_spell_l16 (Int32.ofNat c) (Int32.ofNat L) (Int32.ofNat J) w (Int32.ofNat i) y = some (.inl (w / Int32.ofNat J, Int32.ofNat (i + 1), zx_u1 (zx_u1 y 20 i (Int32.ofNat (zc_d J L c i))) 19 1 (Int32.ofNat (i + 1)))) := by
          unfold b_Order_spell_l16
          simp only [if_neg g1, if_neg g2, if_neg g3, if_neg g4, if_neg g5, zm_let, dig, has, zm_bs, ↓reduceIte, zo_append (show i < 7 by omega) h19, a1]
        obtain ⟨x', r, y1, y2⟩ := ih (i + 1) (by omega) (zx_u1 (zx_u1 y 20 i (Int32.ofNat (zc_d J L c i))) 19 1 (Int32.ofNat (i + 1))) (by rw [zm_u12, zm_u12]; exact h2) (fun q q19 q20 => by rw [zm_u11, if_neg q19, zm_u11, if_neg q20]; exact hr q q19 q20) (by rw [zm_u11, if_pos rfl, zm_upd, if_pos rfl]) (fun k hk => by
          rw [zm_u11, if_neg (by omega), zm_u11, if_pos rfl, zm_upd]
          by_cases f : k = i
          · rw [if_pos f, f]
          · rw [if_neg f]; exact h20 k (by omega)) (fun k hk => by
          by_cases f : k = i
          · subst f; exact hany
          · exact hok k (by omega)) (w / Int32.ofNat J) (fun h => by
          have e2 : J ^ (L - 1 - i) = J ^ (L - 1 - (i + 1)) * J := by rw [← Nat.pow_succ]; congr 1; omega
          rw [hw', zg_divN (by omega) (by omega), e2, Nat.mul_div_cancel _ hJ0]) N1 (by omega)
        refine ⟨x', r, ?_, y2⟩
        rw [zj_lpS (show (fun s : Int32 × Int32 × zx_M => b_Order_spell_l16 (Int32.ofNat c) (Int32.ofNat L) (Int32.ofNat J) s.1 s.2.1 s.2.2) (w, Int32.ofNat i, y) = _ from hb)]
        exact y1
      · rw [hany] at has
        have z : (if (true : Bool) = true then (1 : Int32) else 0) = 1 := by decide
        rw [z] at has
        have z1 : ¬ ((1 : Int32) = 0) := by decide
        refine ⟨y, 0, zj_lpE ?_, h2, hr, fun _ => rfl, fun h => ?_⟩
        · show b_Order_spell_l16 (Int32.ofNat c) (Int32.ofNat L) (Int32.ofNat J) w (Int32.ofNat i) y = _
          unfold b_Order_spell_l16
          simp only [if_neg g1, if_neg g2, if_neg g3, if_neg g4, if_neg g5, zm_let, dig, has, zm_bs, if_neg z1]
        · have := zc_okE.mp h i hiL
          rw [hany] at this
          exact absurd this (by decide)
  have hx2 : (zx_u1 x 19 1 0).2 = x.2 := by rw [zm_u12]
  -- the first worth
  have hpow : ∃ w, f_Order_power (Int32.ofNat J) (Int32.ofNat L - 1) (zx_u1 x 19 1 0) = some w ∧ (0 < L → w = Int32.ofNat (J ^ (L - 1 - 0))) := by
    rcases Nat.eq_zero_or_pos L with h | h
    · subst h
      have hl : l_Order_power_l4 (Int32.ofNat J) (Int32.ofNat 0 - 1) (zx_u1 x 19 1 0) (1, 0) = some 1 := by
        unfold l_Order_power_l4
        obtain ⟨N1, hN⟩ : ∃ N1, zx_N = N1 + 1 := ⟨99999, by decide +kernel⟩
        rw [hN]
        refine zj_lpE ?_
        show b_Order_power_l4 (Int32.ofNat J) (Int32.ofNat 0 - 1) 1 0 (zx_u1 x 19 1 0) = _
        unfold b_Order_power_l4
        rw [if_pos (by decide)]
      refine ⟨1, ?_, fun h => absurd h (by omega)⟩
      unfold f_Order_power
      rw [hl, zm_bs, zm_let]
    · have e : Int32.ofNat L - 1 = Int32.ofNat (L - 1) := by
        have := zm_g (k := L) (by omega)
        have := zm_g (k := L - 1) (by omega)
        grind
      exact ⟨_, by rw [e]; exact zg_power (by omega) _, fun _ => rfl⟩
  obtain ⟨w, w1, w2⟩ := hpow
  obtain ⟨x', r, y1, y2⟩ := key L 0 (by omega) (zx_u1 x 19 1 0) hx2 (fun q q19 _ => by rw [zm_u11, if_neg q19]) (by rw [zm_u11, if_pos rfl, zm_upd, if_pos rfl]; rfl) (fun k hk => absurd hk (by omega)) (fun k hk => absurd hk (by omega)) w w2 zx_N (by have : zx_N = 100000 := rfl; omega)
  have y1' : l_Order_spell_l16 (Int32.ofNat c) (Int32.ofNat L) (Int32.ofNat J) (w, 0, zx_u1 x 19 1 0) = some (r, x') := y1
  refine ⟨x', r, ?_, y2⟩
  unfold f_Order_spell f_Order_clear
  simp only [zm_let, zm_bs, w1, y1']
