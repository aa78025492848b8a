/-! the reference works a text out -/
theorem zq_line_le {X : Nat → Bool → Int32} (p : Nat) (st : Bool) : p ≤ (zq_line X p st).2.2.1 := by
  unfold zq_line
  have h1 := zq_E_le (X := X) (f := zq_S X 6) (fun p st => zq_S_le 6 p st) p st
  by_cases q : X (zq_E X (zq_S X 6) p st).2.1 (zq_E X (zq_S X 6) p st).2.2 = 63
  · have h2 := zq_E_le (X := X) (f := zq_S X 6) (fun p st => zq_S_le 6 p st) ((zq_E X (zq_S X 6) p st).2.1 + 1) (zq_E X (zq_S X 6) p st).2.2
    simp only [if_pos q]; omega
  · simp only [if_neg q]; exact h1
theorem zq_lineM {m0 : zx_M} {b : Nat → Int32} {n : Nat} (A : zq_AM m0 b n) {m : zx_M} {p : Nat} {st : Bool} (P : zq_PM m0 m n p st 0) (v3 v4 : Int32) : ∃ v k m', b_M_workOut_l33 v3 v4 1 m = n_M_workOut_b33_74 v3 v4 v k m' ∧ zq_PM m0 m' n (zq_line (zq_nx b n) p st).2.2.1 (zq_line (zq_nx b n) p st).2.2.2 0 ∧ ((zq_line (zq_nx b n) p st).2.2.2 = false → v = (zq_line (zq_nx b n) p st).2.1 (m0.1 7) ∧ k = (zq_line (zq_nx b n) p st).1 (m0.1 7)) := by
  have hE := zq_E64M A
  obtain ⟨v1, m1, e1, P1, ev1⟩ := hE m p st P
  have z1 : ¬ ((1 : Int32) = 0) := by decide
  unfold b_M_workOut_l33 n_M_workOut_b33_66 zq_line
  generalize zq_E (zq_nx b n) (zq_S (zq_nx b n) 6) = E at *
  simp only [if_neg z1, e1, zm_bs]
  by_cases q : zq_nx b n (E p st).2.1 (E p st).2.2 = 63
  · obtain ⟨t1, t2⟩ := (zq_takes A P1 (v := 63) (by decide)).1 q
    obtain ⟨v2, m2, e2, P2, ev2⟩ := hE _ _ _ t2
    simp only [t1, zm_bs, if_neg z1, if_pos q, e2]
    have hs : (E p st).2.2 = false := (zq_nx_on (b := b) (n := n) (p := (E p st).2.1) (st := (E p st).2.2) (by rw [q]; decide)).2
    have hv1 := ev1 hs
    refine ⟨v2, if v1 = 0 then 0 else 1, m2, ?_, P2, fun h => ⟨ev2 h, by rw [hv1]⟩⟩
    by_cases w : v1 = 0
    · simp only [if_pos w]
    · simp only [if_neg w]
  · have t1 := (zq_takes A P1 (v := 63) (by decide)).2 q
    simp only [t1, zm_bs, ↓reduceIte, if_neg q]
    exact ⟨v1, 1, m1, rfl, P1, fun h => ⟨ev1 h, rfl⟩⟩
/-- what is stuck stays stuck -/
theorem zq_J_stuck {b : Nat → Int32} {n : Nat} {f : Nat → Bool → ((Nat → Int32) → Int32) × Nat × Bool} (hf : ∀ p, (f p true).2.2 = true) {k : Int32} (hk : ¬ k = -1) (p : Nat) : (zq_J (zq_nx b n) k f p true).2.2 = true := by
  unfold zq_J
  rw [show (120 : Nat) = 119 + 1 by rfl]
  unfold zq_join
  have : ¬ zq_rank (zq_nx b n (f p true).2.1 (f p true).2.2) = k := by
    rw [hf p, zq_nx_t]
    exact fun h => hk (h.symm.trans (by decide))
  rw [if_neg this]
  exact hf p
theorem zq_single_stuck {b : Nat → Int32} {n : Nat} {d : Bool} {fb fs : Nat → Bool → ((Nat → Int32) → Int32) × Nat × Bool} (p : Nat) : (zq_single (zq_nx b n) d fb fs p true).2.2 = true := by
  unfold zq_single
  rw [zq_nx_t]
  have k1 : ¬ ((48 : Int32) ≤ -1 ∧ (-1 : Int32) ≤ 57) := by decide
  have k2 : ¬ 0 ≤ zx_io (-1) := by decide
  have k3 : ¬ (((-1 : Int32) = 40 ∨ (-1 : Int32) = 33 ∨ (-1 : Int32) = 45) ∧ d = true) := fun h => absurd h.1 (by decide)
  rw [if_neg k1, if_neg k2, if_neg k3]
theorem zq_E_stuck {b : Nat → Int32} {n : Nat} (p : Nat) : (zq_E (zq_nx b n) (zq_S (zq_nx b n) 6) p true).2.2 = true := by
  have hS : ∀ p, (zq_S (zq_nx b n) 6 p true).2.2 = true := by
    intro p
    rw [show (6 : Nat) = 5 + 1 by rfl]
    unfold zq_S
    exact zq_single_stuck p
  generalize zq_S (zq_nx b n) 6 = F at hS ⊢
  unfold zq_E
  have h4 := zq_J_stuck (b := b) (n := n) hS (k := 4) (by decide)
  have h3 := zq_J_stuck (b := b) (n := n) h4 (k := 3) (by decide)
  have h2 := zq_J_stuck (b := b) (n := n) h3 (k := 2) (by decide)
  have h1 := zq_J_stuck (b := b) (n := n) h2 (k := 1) (by decide)
  exact zq_J_stuck (b := b) (n := n) h1 (k := 0) (by decide) p
theorem zq_line_stuck {b : Nat → Int32} {n : Nat} (p : Nat) : (zq_line (zq_nx b n) p true).2.2.2 = true := by
  have h := zq_E_stuck (b := b) (n := n) p
  unfold zq_line
  generalize zq_E (zq_nx b n) (zq_S (zq_nx b n) 6) = E at h ⊢
  have : ¬ zq_nx b n (E p true).2.1 (E p true).2.2 = 63 := by
    rw [h, zq_nx_t]
    decide
  simp only [if_neg this]
  exact h
theorem zq_linesM {m0 : zx_M} {b : Nat → Int32} {n : Nat} (A : zq_AM m0 b n) : ∀ (j : Nat) (s w : (Nat → Int32) → Int32) (v3 v4 : Int32) (m : zx_M) (p : Nat) (st : Bool), zq_PM m0 m n p st 0 → (st = false → v3 = s (m0.1 7) ∧ v4 = w (m0.1 7)) → n + 1 ≤ p + j → ∀ N, j + 2 ≤ N → ∃ v' m', zx_lp N (fun s : Int32 × Int32 × Int32 × zx_M => b_M_workOut_l33 s.1 s.2.1 s.2.2.1 s.2.2.2) (v3, v4, 1, m) = some (v', m') ∧ zq_PM m0 m' n (zq_lines (zq_nx b n) j s w p st).2.1 (zq_lines (zq_nx b n) j s w p st).2.2 0 ∧ ((zq_lines (zq_nx b n) j s w p st).2.2 = false → v' = (zq_lines (zq_nx b n) j s w p st).1 (m0.1 7)) := by
  intro j
  induction j with
  | zero =>
    intro s w v3 v4 m p st P hv hj N hN
    have := P.1
    omega
  | succ j ih =>
    intro s w v3 v4 m p st P hv hj N hN
    obtain ⟨N1, rfl⟩ : ∃ N1, N = N1 + 1 + 1 := ⟨N - 2, by omega⟩
    obtain ⟨v, k, m1, e1, P1, ev1⟩ := zq_lineM A P v3 v4
    have hle := zq_line_le (X := zq_nx b n) p st
    have ft := (zq_fault A.1.1 P1).1
    have hst : (zq_line (zq_nx b n) p st).2.2.2 = false → st = false := by
      intro h
      cases st
      · rfl
      · exfalso
        rw [zq_line_stuck p] at h
        exact absurd h (by decide)
    -- what is given so far
    obtain ⟨v3', v4', e2, ev2⟩ : ∃ v3' v4', n_M_workOut_b33_74 v3 v4 v k m1 = n_M_workOut_b33_96 v3' v4' m1 ∧ ((zq_line (zq_nx b n) p st).2.2.2 = false → v3' = (if ¬ (zq_line (zq_nx b n) p st).1 (m0.1 7) = 0 ∧ s (m0.1 7) = 0 then 1 else s (m0.1 7)) ∧ v4' = (if ¬ (zq_line (zq_nx b n) p st).1 (m0.1 7) = 0 ∧ s (m0.1 7) = 0 then (zq_line (zq_nx b n) p st).2.1 (m0.1 7) else w (m0.1 7))) := by
      unfold n_M_workOut_b33_74
      by_cases h : (zq_line (zq_nx b n) p st).2.2.2 = false
      · have f1 : ¬ 0 ≤ m1.1 0 14 := fun q => by rw [ft.mp q] at h; exact absurd h (by decide)
        obtain ⟨x1, x2⟩ := ev1 h
        obtain ⟨y1, y2⟩ := hv (hst h)
        rw [if_neg f1, ← x1, ← x2, ← y1, ← y2]
        by_cases z : k = 0
        · rw [if_pos z]
          exact ⟨v3, v4, rfl, fun _ => by rw [if_neg (fun q => q.1 z), if_neg (fun q => q.1 z)]; exact ⟨rfl, rfl⟩⟩
        · rw [if_neg z]
          by_cases z2 : v3 = 0
          · rw [if_neg (fun q => q z2)]
            exact ⟨1, v, rfl, fun _ => by rw [if_pos ⟨z, z2⟩, if_pos ⟨z, z2⟩]; exact ⟨rfl, rfl⟩⟩
          · rw [if_pos z2]
            exact ⟨v3, v4, rfl, fun _ => by rw [if_neg (fun q => z2 q.2), if_neg (fun q => z2 q.2)]; exact ⟨rfl, rfl⟩⟩
      · have h' : (zq_line (zq_nx b n) p st).2.2.2 = true := by
          cases hh : (zq_line (zq_nx b n) p st).2.2.2
          · exact absurd hh h
          · rfl
        rw [if_pos (ft.mpr h')]
        exact ⟨v3, v4, rfl, fun q => absurd q h⟩
    by_cases q : zq_nx b n (zq_line (zq_nx b n) p st).2.2.1 (zq_line (zq_nx b n) p st).2.2.2 = 59
    · obtain ⟨t1, t2⟩ := (zq_takes A P1 (v := 59) (by decide)).1 q
      obtain ⟨v', m', e3, P3, ev3⟩ := ih (fun e => if ¬ (zq_line (zq_nx b n) p st).1 e = 0 ∧ s e = 0 then 1 else s e) (fun e => if ¬ (zq_line (zq_nx b n) p st).1 e = 0 ∧ s e = 0 then (zq_line (zq_nx b n) p st).2.1 e else w e) v3' v4' _ _ _ t2 ev2 (by omega) (N1 + 1) (by omega)
      refine ⟨v', m', ?_, ?_, ?_⟩
      · have hb : b_M_workOut_l33 v3 v4 1 m = some (.inl (v3', v4', 1, zx_u1 m1 0 12 (m1.1 0 12 + 1))) := by
          rw [e1, e2]
          unfold n_M_workOut_b33_96
          simp only [t1, zm_bs]
        rw [show zx_lp (N1 + 1 + 1) (fun s : Int32 × Int32 × Int32 × zx_M => b_M_workOut_l33 s.1 s.2.1 s.2.2.1 s.2.2.2) (v3, v4, 1, m) = zx_lp (N1 + 1) (fun s : Int32 × Int32 × Int32 × zx_M => b_M_workOut_l33 s.1 s.2.1 s.2.2.1 s.2.2.2) (v3', v4', 1, zx_u1 m1 0 12 (m1.1 0 12 + 1)) by
          conv => lhs; unfold zx_lp
          simp only [hb]]
        exact e3
      · unfold zq_lines
        simp only [if_pos q]
        exact P3
      · unfold zq_lines
        simp only [if_pos q]
        exact ev3
    · have t1 := (zq_takes A P1 (v := 59) (by decide)).2 q
      have hb : b_M_workOut_l33 v3 v4 1 m = some (.inl (v3', v4', 0, m1)) := by
        rw [e1, e2]
        unfold n_M_workOut_b33_96
        simp only [t1, zm_bs]
      have hb2 : b_M_workOut_l33 v3' v4' 0 m1 = some (.inr (v4', m1)) := by
        unfold b_M_workOut_l33
        rw [if_pos rfl]
      refine ⟨v4', m1, ?_, ?_, ?_⟩
      · rw [show zx_lp (N1 + 1 + 1) (fun s : Int32 × Int32 × Int32 × zx_M => b_M_workOut_l33 s.1 s.2.1 s.2.2.1 s.2.2.2) (v3, v4, 1, m) = zx_lp (N1 + 1) (fun s : Int32 × Int32 × Int32 × zx_M => b_M_workOut_l33 s.1 s.2.1 s.2.2.1 s.2.2.2) (v3', v4', 0, m1) by
          conv => lhs; unfold zx_lp
          simp only [hb]]
        unfold zx_lp
        simp only [hb2]
      · unfold zq_lines
        simp only [if_neg q]
        exact P1
      · unfold zq_lines
        simp only [if_neg q]
        exact fun h => (ev2 h).2
theorem zq_work {m : zx_M} {b : Nat → Int32} {n : Nat} (hb : zq_by b n) {v : Int32} (hv : (v = -1 ∧ ∀ i < n, m.1 5 i = b i) ∨ (v = 0 ∧ ∀ i < n, m.1 6 i = b i)) : ∃ r m', f_M_workOut v (Int32.ofNat n) m = some (r, m') ∧ m'.2 = m.2 ∧ (∀ q, ¬ q = 0 → m'.1 q = m.1 q) ∧ (∀ k, k < 11 ∨ 15 < k → m'.1 0 k = m.1 0 k) ∧ ((zq_all b n).2.2 = true → m'.1 0 14 = Int32.ofNat (zq_all b n).2.1) ∧ ((zq_all b n).2.2 = false → m'.1 0 14 = -1 ∧ r = (zq_all b n).1 (m.1 7)) ∧ (zq_all b n).2.1 ≤ n := by
  unfold f_M_workOut
  simp only [zm_let]
  generalize hm5 : zx_u1 (zx_u1 (zx_u1 (zx_u1 (zx_u1 m 0 11 v) 0 12 0) 0 13 (Int32.ofNat n)) 0 14 (-1)) 0 15 0 = m5
  have c1 : m5.2 = m.2 := by rw [← hm5]; exact id rfl
  have c2 : ∀ q, ¬ q = 0 → m5.1 q = m.1 q := by
    intro q hq
    rw [← hm5]
    simp [zm_u11, hq]
  have c3 : ∀ k, k < 11 ∨ 15 < k → m5.1 0 k = m.1 0 k := by
    intro k hk
    rw [← hm5]
    simp only [zm_u11, zm_upd, ↓reduceIte]
    rw [if_neg (by omega), if_neg (by omega), if_neg (by omega), if_neg (by omega), if_neg (by omega)]
  have c11 : m5.1 0 11 = v := by rw [← hm5]; simp [zm_u11, zm_upd]
  have c12 : m5.1 0 12 = 0 := by rw [← hm5]; simp [zm_u11, zm_upd]
  have c13 : m5.1 0 13 = Int32.ofNat n := by rw [← hm5]; simp [zm_u11, zm_upd]
  have c14 : m5.1 0 14 = -1 := by rw [← hm5]; simp [zm_u11, zm_upd]
  have c15 : m5.1 0 15 = 0 := by rw [← hm5]; simp [zm_u11, zm_upd]
  have A : zq_AM m5 b n := by
    refine ⟨hb, c13, ?_⟩
    rw [c11, c2 5 (by omega), c2 6 (by omega)]
    exact hv
  have P0 : zq_PM m5 m5 n 0 false 0 := ⟨by omega, rfl, fun _ _ => rfl, fun _ _ _ _ => rfl, 0, by omega, c12, fun h => absurd h (by decide), fun _ => ⟨c14, rfl, c15⟩⟩
  obtain ⟨v', m1, e1, P1, ev1⟩ := zq_linesM A 121 (fun _ => 0) (fun _ => 0) 0 0 m5 0 false P0 (fun _ => ⟨rfl, rfl⟩) (by have := hb.1; omega) zx_N (by decide +kernel)
  rw [zq_L_eq] at P1 ev1
  have e1' : l_M_workOut_l33 (0, 0, 1, m5) = some (v', m1) := e1
  simp only [e1', zm_bs]
  rw [zq_all1, zq_all2, zq_all3]
  have ft := (zq_fault hb.1 P1).1
  generalize zq_L b n = L at *
  obtain ⟨f, p, st⟩ := L
  dsimp only at P1 ev1 ft ⊢
  have d13 : m1.1 0 13 = Int32.ofNat n := by rw [P1.2.2.2.1 13 (by omega) (by omega) (by omega)]; exact c13
  have frame : ∀ {m2 : zx_M} {st2 : Bool}, zq_PM m5 m2 n p st2 0 → m2.2 = m.2 ∧ (∀ q, ¬ q = 0 → m2.1 q = m.1 q) ∧ (∀ k, k < 11 ∨ 15 < k → m2.1 0 k = m.1 0 k) := by
    intro m2 st2 Q
    refine ⟨by rw [Q.2.1, c1], fun q hq => by rw [Q.2.2.1 q hq, c2 q hq], fun k hk => by rw [Q.2.2.2.1 k (by omega) (by omega) (by omega), c3 k hk]⟩
  obtain ⟨p1, -, -, -, a, ha, h5, h6, h7⟩ := id P1
  cases st
  · obtain ⟨h8, h9, h10⟩ := h7 rfl
    subst h9
    have f1 : ¬ 0 ≤ m1.1 0 14 := fun h => absurd (ft.mp h) (by decide)
    simp only [if_neg f1, d13, h5]
    by_cases g : a < n
    · have g1 : ¬ Int32.ofNat n ≤ Int32.ofNat a := by have := hb.1; grind [zm_g]
      have gd : (false || decide (a < n)) = true := by simp [g]
      obtain ⟨m2, e2, P2⟩ := zq_wrong hb.1 P1 0
      obtain ⟨fr1, fr2, fr3⟩ := frame P2
      obtain ⟨-, -, -, -, a2, ha2, h52, h62, h72⟩ := id P2
      rw [gd, if_neg g1, e2, zm_bs]
      exact ⟨_, _, rfl, fr1, fr2, fr3, fun _ => h62 rfl, fun h => absurd h (by decide), ha⟩
    · have g1 : Int32.ofNat n ≤ Int32.ofNat a := by have := hb.1; grind [zm_g]
      have gd : (false || decide (a < n)) = false := by simp [g]
      obtain ⟨fr1, fr2, fr3⟩ := frame P1
      rw [gd, if_pos g1]
      refine ⟨_, _, rfl, fr1, fr2, fr3, fun h => absurd h (by decide), fun _ => ⟨h8, ?_⟩, ha⟩
      rw [ev1 rfl, c2 7 (by omega)]
  · obtain ⟨fr1, fr2, fr3⟩ := frame P1
    rw [if_pos (ft.mpr rfl), Bool.true_or]
    exact ⟨_, _, rfl, fr1, fr2, fr3, fun _ => h6 rfl, fun h => absurd h (by decide), p1⟩
