/-! how far one is carried -/
def zq_ext (f : (Nat → Int32) → Int32) : Prop := ∀ e e' : Nat → Int32, (∀ k < 6, e k = e' k) → f e = f e'
theorem zq_join_ext {X : Nat → Bool → Int32} {k : Int32} {f : Nat → Bool → ((Nat → Int32) → Int32) × Nat × Bool} (hf : ∀ p st, zq_ext (f p st).1) : ∀ (i : Nat) (l : (Nat → Int32) → Int32) (p : Nat) (st : Bool), zq_ext l → zq_ext (zq_join X k f i l p st).1 := by
  intro i
  induction i with
  | zero => intro l p st hl; exact hl
  | succ i ih =>
    intro l p st hl
    unfold zq_join
    have h2 : zq_ext (fun e => zq_rk (X p st) (l e) ((f (p + 1) st).1 e)) := by
      intro e e' h
      show zq_rk _ _ _ = zq_rk _ _ _
      rw [hl e e' h, hf (p + 1) st e e' h]
    by_cases q : zq_rank (X p st) = k
    · by_cases q2 : k = 2
      · simp only [if_pos q, if_pos q2]; exact h2
      · simp only [if_pos q, if_neg q2]
        exact ih _ _ _ h2
    · simp only [if_neg q]; exact hl
theorem zq_J_ext {X : Nat → Bool → Int32} {k : Int32} {f : Nat → Bool → ((Nat → Int32) → Int32) × Nat × Bool} (hf : ∀ p st, zq_ext (f p st).1) (p : Nat) (st : Bool) : zq_ext (zq_J X k f p st).1 := zq_join_ext hf 120 _ _ _ (hf p st)
theorem zq_br_ext {X : Nat → Bool → Int32} {f : Nat → Bool → ((Nat → Int32) → Int32) × Nat × Bool} (hf : ∀ p st, zq_ext (f p st).1) (p : Nat) (st : Bool) : zq_ext (zq_br X f p st).1 := by
  unfold zq_br
  by_cases q : X (f p st).2.1 (f p st).2.2 = 41
  · simp only [if_pos q]; exact hf p st
  · simp only [if_neg q]; exact hf p st
theorem zq_const_ext (v : Int32) : zq_ext (fun _ => v) := fun _ _ _ => rfl
theorem zq_single_ext {X : Nat → Bool → Int32} {d : Bool} {fb fs : Nat → Bool → ((Nat → Int32) → Int32) × Nat × Bool} (hb : ∀ p st, zq_ext (fb p st).1) (hs : ∀ p st, zq_ext (fs p st).1) (p : Nat) (st : Bool) : zq_ext (zq_single X d fb fs p st).1 := by
  unfold zq_single
  by_cases q : 48 ≤ X p st ∧ X p st ≤ 57
  · simp only [if_pos q]; exact zq_const_ext _
  simp only [if_neg q]
  by_cases q1 : 0 ≤ zx_io (X p st)
  · simp only [if_pos q1]
    intro e e' h
    rcases zq_ioN (X p st) with i0 | ⟨k, hk, i0⟩
    · rw [i0] at q1; exact absurd q1 (by decide)
    · show e _ = e' _
      rw [i0, Int32.toNatClampNeg_ofNat_of_lt (by omega)]
      exact h k hk
  simp only [if_neg q1]
  by_cases q2 : (X p st = 40 ∨ X p st = 33 ∨ X p st = 45) ∧ d = true
  · simp only [if_pos q2]
    by_cases q3 : X p st = 40
    · simp only [if_pos q3]; exact hb _ _
    · simp only [if_neg q3]
      intro e e' h
      show (if _ then _ else _) = (if _ then _ else _)
      rw [hs (p + 1) st e e' h]
  · simp only [if_neg q2]; exact zq_const_ext _
theorem zq_E_ext {X : Nat → Bool → Int32} {f : Nat → Bool → ((Nat → Int32) → Int32) × Nat × Bool} (hf : ∀ p st, zq_ext (f p st).1) (p : Nat) (st : Bool) : zq_ext (zq_E X f p st).1 := by
  unfold zq_E
  have h4 := zq_J_ext (X := X) (k := 4) hf
  have h3 := zq_J_ext (X := X) (k := 3) h4
  have h2 := zq_J_ext (X := X) (k := 2) h3
  have h1 := zq_J_ext (X := X) (k := 1) h2
  exact zq_J_ext (X := X) (k := 0) h1 p st
theorem zq_S_ext {X : Nat → Bool → Int32} : ∀ (k p : Nat) (st : Bool), zq_ext (zq_S X k p st).1 := by
  intro k
  induction k with
  | zero => exact fun p st => zq_single_ext (fun _ _ => zq_const_ext _) (fun _ _ => zq_const_ext _) p st
  | succ k ih =>
    intro p st
    have hE := zq_E_ext (X := X) ih
    exact zq_single_ext (zq_br_ext hE) ih p st
theorem zq_line_ext {X : Nat → Bool → Int32} (p : Nat) (st : Bool) : zq_ext (zq_line X p st).1 ∧ zq_ext (zq_line X p st).2.1 := by
  have h := zq_E_ext (X := X) (f := zq_S X 6) (fun p st => zq_S_ext 6 p st)
  unfold zq_line
  generalize zq_E X (zq_S X 6) = E at h ⊢
  by_cases q : X (E p st).2.1 (E p st).2.2 = 63
  · simp only [if_pos q]
    refine ⟨?_, h _ _⟩
    intro e e' he
    show (if _ then _ else _) = (if _ then _ else _)
    rw [h p st e e' he]
  · simp only [if_neg q]; exact ⟨zq_const_ext _, h _ _⟩
theorem zq_lines_ext {X : Nat → Bool → Int32} : ∀ (i : Nat) (s w : (Nat → Int32) → Int32) (p : Nat) (st : Bool), zq_ext s → zq_ext w → zq_ext (zq_lines X i s w p st).1 := by
  intro i
  induction i with
  | zero => intro s w p st _ hw; exact hw
  | succ i ih =>
    intro s w p st hs hw
    obtain ⟨l1, l2⟩ := zq_line_ext (X := X) p st
    unfold zq_lines
    have hw' : zq_ext (fun e => if ¬ (zq_line X p st).1 e = 0 ∧ s e = 0 then (zq_line X p st).2.1 e else w e) := by
      intro e e' h
      show (if _ then _ else _) = (if _ then _ else _)
      rw [hs e e' h, hw e e' h, l1 e e' h, l2 e e' h]
    by_cases q : X (zq_line X p st).2.2.1 (zq_line X p st).2.2.2 = 59
    · simp only [if_pos q]
      refine ih _ _ _ _ ?_ hw'
      intro e e' h
      show (if _ then _ else _) = (if _ then _ else _)
      rw [hs e e' h, l1 e e' h]
    · simp only [if_neg q]; exact hw'
theorem zq_all_ext (b : Nat → Int32) (n : Nat) : zq_ext (zq_all b n).1 := by
  rw [zq_all1]
  unfold zq_L
  exact zq_lines_ext 121 _ _ _ _ (zq_const_ext 0) (zq_const_ext 0)
/-- the narrow frames of one's yards -/
def zm_YC (c c' : zx_M) : Prop := c'.2 = c.2 ∧ (∀ r, ¬ r = 12 → ¬ r = 14 → c'.1 r = c.1 r) ∧ c'.1 12 2 = c.1 12 2
def zm_YM (m m' : zx_M) : Prop := m'.2 = m.2 ∧ (∀ r, ¬ r = 0 → ¬ r = 7 → m'.1 r = m.1 r) ∧ ∀ k, k < 11 ∨ 15 < k → m'.1 0 k = m.1 0 k
theorem zm_YFC {c c' : zx_M} (h : zm_YC c c') : zm_FC c c' := ⟨h.1, fun r _ _ h12 h14 _ => h.2.1 r h12 h14, by rw [h.2.1 9 (by omega) (by omega)], h.2.2⟩
theorem zm_YFM {m m' : zx_M} (h : zm_YM m m') : zm_FM m m' := ⟨h.1, fun r h0 h7 => h.2.1 r h0 (by omega), fun k hk => h.2.2 k (by omega)⟩
theorem zm_clampC (t : Int32) (c : zx_M) : n_C_yardsCarried_n119 t c = some (if -500 ≤ t then if t ≤ 500 then t else 500 else -500, c) := by
  unfold n_C_yardsCarried_n119 zx_max zx_min
  have : (if (if t < 500 then t else 500) > -500 then 1 else 0 : Int32) = (if (if t < 500 then t else 500) > -500 then 1 else 0 : Int32) := rfl
  congr 2
  grind
theorem zm_clampM (t : Int32) (m : zx_M) : n_M_carriedBy_n159 t m = some (if -500 ≤ t then if t ≤ 500 then t else 500 else -500, m) := by
  unfold n_M_carriedBy_n159
  grind
def zm_steer (k q b : Int32) : Int32 := if q = 0 ∨ b = 0 then 0 else if b ≤ 0 then -k * 5 else k * 5
theorem zm_steerC (k q b : Int32) (c : zx_M) : f_C_steered k q b c = some (zm_steer k q b) := by
  unfold f_C_steered zm_steer
  by_cases h1 : q = 0
  · rw [if_pos h1, if_pos (Or.inl h1)]
  · by_cases h2 : b = 0
    · have h2' : ¬ ¬ b = 0 := fun h => h h2
      rw [if_neg h1, if_neg h2', if_pos (Or.inr h2)]
    · have h3 : ¬ (q = 0 ∨ b = 0) := fun h => h.elim h1 h2
      rw [if_neg h1, if_pos h2, if_neg h3]
      by_cases h4 : b ≤ 0
      · rw [if_pos h4, if_pos h4]
      · rw [if_neg h4, if_neg h4]
theorem zm_yards {c m : zx_M} (hN : zm_RN (c.1 1 2) (c.1 2) (c.1 3) (m.1 0 6) (m.1 1)) (hL : zm_RL zq_V (c.1 12 2) (c.1 13) (m.1 0 10) (m.1 6)) {j k : Nat} (hk : m.1 0 6 = Int32.ofNat k) (hk7 : k ≤ 7) (hj : j < k) : ∃ y c' m', f_C_yardsCarried (Int32.ofNat j) c = some (y, c') ∧ f_M_carriedBy (Int32.ofNat j) m = some (y, m') ∧ zm_YC c c' ∧ zm_YM m m' ∧ -500 ≤ y ∧ y ≤ 500 := by
  obtain ⟨-, -, h2, h3⟩ := hN
  have t0 : f_Numbers_told (Int32.ofNat j) 0 c = _ := zm_told_j (j := j) (w := 0) (by omega) (by omega) rfl rfl
  have t1 : f_Numbers_told (Int32.ofNat j) 1 c = _ := zm_told_j (j := j) (w := 1) (by omega) (by omega) rfl rfl
  have t2 : f_Numbers_told (Int32.ofNat j) 2 c = _ := zm_told_j (j := j) (w := 2) (by omega) (by omega) rfl rfl
  have t8 : f_Numbers_told 0 8 c = _ := zm_told_f (k := 4) (by omega) rfl
  have t9 : f_Numbers_told 0 9 c = _ := zm_told_f (k := 5) (by omega) rfl
  have t10 : f_Numbers_told 0 10 c = _ := zm_told_f (k := 6) (by omega) rfl
  rw [h3 j (by omega) 0 (by omega)] at t0
  rw [h3 j (by omega) 1 (by omega)] at t1
  rw [h3 j (by omega) 2 (by omega)] at t2
  rw [h2 4 (by omega)] at t8
  rw [h2 5 (by omega)] at t9
  rw [h2 6 (by omega)] at t10
  have oj : ∀ (w : Nat) (ww : Int32) (x : zx_M), w < 4 → ww = Int32.ofNat w → x.1 1 = m.1 1 → f_M_ofJumper (Int32.ofNat j) ww x = some (m.1 1 (7 * w + j)) := by
    intro w ww x hw h hx
    subst h
    have e : 7 * Int32.ofNat w + Int32.ofNat j = Int32.ofNat (7 * w + j) := by simp
    unfold f_M_ofJumper
    rw [e, zm_ix (by omega) (by omega), zm_bs, hx]
  have i32 : zx_ix 36 32 = some 32 := zm_ix (k := 32) (by omega) (by omega)
  have i33 : zx_ix 36 33 = some 33 := zm_ix (k := 33) (by omega) (by omega)
  have i34 : zx_ix 36 34 = some 34 := zm_ix (k := 34) (by omega) (by omega)
  have n0 : zx_ix 6 0 = some 0 := zm_ix (k := 0) (by omega) (by omega)
  have n1 : zx_ix 6 1 = some 1 := zm_ix (k := 1) (by omega) (by omega)
  have n2 : zx_ix 6 2 = some 2 := zm_ix (k := 2) (by omega) (by omega)
  have n3 : zx_ix 6 3 = some 3 := zm_ix (k := 3) (by omega) (by omega)
  have n4 : zx_ix 6 4 = some 4 := zm_ix (k := 4) (by omega) (by omega)
  have n5 : zx_ix 6 5 = some 5 := zm_ix (k := 5) (by omega) (by omega)
  have yr : ∀ t : Int32, -500 ≤ (if -500 ≤ t then if t ≤ 500 then t else 500 else -500 : Int32) ∧ (if -500 ≤ t then if t ≤ 500 then t else 500 else -500 : Int32) ≤ 500 := by intro t; grind
  -- the reference: whichever way it steers
  have hs : f_M_carriedBy (Int32.ofNat j) m = n_M_carriedBy_n75 (Int32.ofNat j) (m.1 1 33) (m.1 1 34) (m.1 1 34 * (m.1 1 32 + m.1 1 33) - m.1 1 34 * m.1 1 (7 * 0 + j)) (-zm_steer (m.1 1 (7 * 1 + j)) (m.1 1 (7 * 2 + j)) (m.1 1 33)) m := by
    unfold f_M_carriedBy n_M_carriedBy_n29 n_M_carriedBy_n41 zm_steer
    simp only [i33, i34, i32, zm_bs, zm_let, oj 2 2 m (by omega) rfl rfl, oj 0 0 m (by omega) rfl rfl, oj 1 1 m (by omega) rfl rfl]
    have e0 : -(0 : Int32) = 0 := by decide
    by_cases a : m.1 1 (7 * 2 + j) = 0
    · have a2 : m.1 1 (7 * 2 + j) = 0 ∨ m.1 1 33 = 0 := Or.inl a
      simp only [if_pos a, if_pos a2, e0]
      by_cases b : m.1 1 33 ≤ 0
      · rw [if_pos b]
      · rw [if_neg b]
    · simp only [if_neg a]
      by_cases b : m.1 1 33 = 0
      · have a2 : m.1 1 (7 * 2 + j) = 0 ∨ m.1 1 33 = 0 := Or.inr b
        have b1 : ¬ ¬ m.1 1 33 = 0 := fun h => h b
        have b' : m.1 1 33 ≤ 0 := by rw [b]; decide
        simp only [if_neg b1, if_pos a2, if_pos b', e0]
      · have a2 : ¬ (m.1 1 (7 * 2 + j) = 0 ∨ m.1 1 33 = 0) := fun h => h.elim a b
        simp only [if_pos b, if_neg a2]
        by_cases b' : m.1 1 33 ≤ 0
        · have : 5 * m.1 1 (7 * 1 + j) = -(-m.1 1 (7 * 1 + j) * 5) := by grind
          simp only [if_pos b', this]
        · have : -(5 * m.1 1 (7 * 1 + j)) = -(m.1 1 (7 * 1 + j) * 5) := by grind
          simp only [if_neg b', this]
  rw [hs]
  unfold f_C_yardsCarried n_M_carriedBy_n75 f_Text_size_12
  simp only [t0, t1, t2, t8, t9, t10, zm_bs, zm_let]
  rcases hL with ⟨l1, l2⟩ | ⟨n, l0, l120, l1, l2, lv, l3⟩
  · have z1 : (0 : Int32) ≤ 0 := by decide
    have z2 : (-1 : Int32) < 0 := by decide
    have e : ∀ x y : Int32, x + -y = x - y := by intro x y; grind
    simp only [l1, l2, if_pos z1, if_pos z2, zm_steerC, zm_bs, zm_clampC, zm_clampM, e]
    exact ⟨_, c, m, rfl, rfl, ⟨rfl, fun _ _ _ => rfl, rfl⟩, ⟨rfl, fun _ _ _ => rfl, fun _ _ => rfl⟩, yr _⟩
  · have z1 : ¬ Int32.ofNat n ≤ 0 := by grind [zm_g]
    have z2 : ¬ Int32.ofNat n < 0 := zm_nn (by omega)
    have hby : zq_by (m.1 6) n := ⟨l120, fun i hi => (l3 i hi).2⟩
    simp only [l1, l2, if_neg z1, if_neg z2]
    unfold f_Text_worth_12
    have w1 : ∀ (x : zx_M) (q : Nat) (v : Int32), (zx_u1 x 7 q v).1 1 = x.1 1 := fun x q v => by rw [zm_u11, if_neg (by omega)]
    have w0 : ∀ (x : zx_M) (q : Nat) (v : Int32), (zx_u1 x 7 q v).1 0 = x.1 0 := fun x q v => by rw [zm_u11, if_neg (by omega)]
    have o0 : f_M_ofJumper (Int32.ofNat j) 0 m = _ := oj 0 0 m (by omega) rfl rfl
    have o1 : ∀ x : zx_M, x.1 1 = m.1 1 → f_M_ofJumper (Int32.ofNat j) 1 x = _ := fun x hx => oj 1 1 x (by omega) rfl hx
    have o2 : ∀ x : zx_M, x.1 1 = m.1 1 → f_M_ofJumper (Int32.ofNat j) 2 x = _ := fun x hx => oj 2 2 x (by omega) rfl hx
    simp only [n0, n1, n2, n3, n4, n5, i32, zm_bs, zm_let, o0]
    rw [o1 _ (w1 _ _ _)]
    simp only [zm_bs]
    rw [o2 _ (by rw [w1, w1])]
    simp only [zm_bs, w0, w1, l2]
    generalize hc6 : zx_u1 (zx_u1 (zx_u1 (zx_u1 (zx_u1 (zx_u1 c 14 0 (m.1 1 (7 * 0 + j))) 14 1 (m.1 1 (7 * 1 + j))) 14 2 (m.1 1 (7 * 2 + j))) 14 3 (m.1 1 (28 + 4))) 14 4 (m.1 1 (28 + 5))) 14 5 (m.1 1 (28 + 6)) = c6
    generalize hm6 : zx_u1 (zx_u1 (zx_u1 (zx_u1 (zx_u1 (zx_u1 m 7 0 (m.1 1 (7 * 0 + j))) 7 1 (m.1 1 (7 * 1 + j))) 7 2 (m.1 1 (7 * 2 + j))) 7 3 (m.1 1 32)) 7 4 (m.1 1 33)) 7 5 (m.1 1 34) = m6
    have c6r : ∀ r, ¬ r = 14 → c6.1 r = c.1 r := by
      intro r hr
      rw [← hc6]
      simp only [zm_u11, if_neg hr]
    have m6r : ∀ r, ¬ r = 7 → m6.1 r = m.1 r := by
      intro r hr
      rw [← hm6]
      simp only [zm_u11, if_neg hr]
    have c62 : c6.2 = c.2 := by rw [← hc6]; simp only [zm_u12]
    have m62 : m6.2 = m.2 := by rw [← hm6]; simp only [zm_u12]
    have hext : ∀ q < 6, c6.1 14 q = m6.1 7 q := by
      intro q hq
      rw [← hc6, ← hm6]
      simp only [zm_u11, ↓reduceIte, zm_upd]
      have hc : q = 0 ∨ q = 1 ∨ q = 2 ∨ q = 3 ∨ q = 4 ∨ q = 5 := by omega
      rcases hc with rfl | rfl | rfl | rfl | rfl | rfl <;> simp
    have A : zq_AC12 c6 (m.1 6) n := ⟨hby, fun i hi => by rw [c6r 13 (by omega)]; exact (l3 i hi).1⟩
    obtain ⟨c7, e7, P7⟩ := zq_read12 A (by rw [c6r 12 (by omega)]; exact l1)
    obtain ⟨p1, p2, p3, p4, p5, p6⟩ := P7
    obtain ⟨r, m7, f1, f2, f3, f4, f5, f6, f7⟩ := zq_work (m := m6) (v := 0) hby (Or.inr ⟨rfl, fun i _ => by rw [m6r 6 (by omega)]⟩)
    obtain ⟨g1, g2⟩ := f6 lv
    have e8 : (zq_all (m.1 6) n).1 (c6.1 14) = r := by rw [g2]; exact zq_all_ext (m.1 6) n _ _ hext
    simp only [e7, f1, zm_bs, zm_clampC, zm_clampM, e8]
    refine ⟨_, c7, m7, rfl, rfl, ⟨by rw [p2, c62], fun r h12 h14 => by rw [p3 r h12, c6r r h14], by rw [p4, l1]⟩, ⟨by rw [f2, m62], fun r h0 h7 => by rw [f3 r h0, m6r r h7], fun k hk => by rw [f4 k hk, m6r 0 (by omega)]⟩, yr _⟩
theorem t_carried {c m : zx_M} (H : zm_R zq_V c m) (v : Int32) : zm_ok zq_V (f_C_carried v) (f_M_carried v) c m := by
  obtain ⟨⟨k, hk, n1, n2⟩, -⟩ := id H.1
  unfold zm_ok f_C_carried f_M_carried
  rw [zm_isJumperC v c n1, zm_isJumperM v m hk n2]
  simp only [zm_bs]
  have z1 : ¬ ((1 : Int32) = 0) := by decide
  by_cases a : 0 ≤ v ∧ v < Int32.ofNat k
  · obtain ⟨j, hj, rfl⟩ := zm_in (v := v) (n := k) (by omega) (by grind) (by grind)
    obtain ⟨y, c', m', f1, f2, f3, f4, -⟩ := zm_yards H.1 H.2.2.2.1 n2 hk hj
    simp only [if_pos a, if_neg z1, f1, f2, zm_bs]
    exact zm_e3 rfl rfl rfl (zm_FR H (zm_YFC f3) (zm_YFM f4))
  · simp only [if_neg a, ↓reduceIte]
    exact zm_e3 rfl rfl rfl H
