/-! the reference reads a text -/
theorem zq_join_le {X : Nat → Bool → Int32} {k : Int32} {f : Nat → Bool → ((Nat → Int32) → Int32) × Nat × Bool} (hf : ∀ p st, p ≤ (f p st).2.1) : ∀ (i : Nat) (l : (Nat → Int32) → Int32) (p : Nat) (st : Bool), p ≤ (zq_join X k f i l p st).2.1 := by
  intro i
  induction i with
  | zero => intro l p st; exact Nat.le_refl _
  | succ i ih =>
    intro l p st
    unfold zq_join
    have := hf (p + 1) st
    by_cases q : zq_rank (X p st) = k
    · by_cases q2 : k = 2
      · simp only [if_pos q, if_pos q2]; omega
      · simp only [if_pos q, if_neg q2]
        have := ih (fun e => zq_rk (X p st) (l e) ((f (p + 1) st).1 e)) (f (p + 1) st).2.1 (f (p + 1) st).2.2
        omega
    · simp only [if_neg q]; exact Nat.le_refl _
theorem zq_J_le {X : Nat → Bool → Int32} {k : Int32} {f : Nat → Bool → ((Nat → Int32) → Int32) × Nat × Bool} (hf : ∀ p st, p ≤ (f p st).2.1) (p : Nat) (st : Bool) : p ≤ (zq_J X k f p st).2.1 := Nat.le_trans (hf p st) (zq_join_le hf 120 _ _ _)
theorem zq_num_le {X : Nat → Bool → Int32} : ∀ (i : Nat) (v : Int32) (p : Nat), p ≤ (zq_num X i v p).2 := by
  intro i
  induction i with
  | zero => intro v p; exact Nat.le_refl _
  | succ i ih =>
    intro v p
    unfold zq_num
    by_cases q : 48 ≤ X p false ∧ X p false ≤ 57
    · simp only [if_pos q]
      have := ih (v * 10 + X p false - 48) (p + 1)
      omega
    · simp only [if_neg q]; exact Nat.le_refl _
theorem zq_br_le {X : Nat → Bool → Int32} {f : Nat → Bool → ((Nat → Int32) → Int32) × Nat × Bool} (hf : ∀ p st, p ≤ (f p st).2.1) (p : Nat) (st : Bool) : p ≤ (zq_br X f p st).2.1 := by
  unfold zq_br
  have := hf p st
  by_cases q : X (f p st).2.1 (f p st).2.2 = 41
  · simp only [if_pos q]; omega
  · simp only [if_neg q]; omega
theorem zq_single_le {X : Nat → Bool → Int32} {d : Bool} {fb fs : Nat → Bool → ((Nat → Int32) → Int32) × Nat × Bool} (hb : ∀ p st, p ≤ (fb p st).2.1) (hs : ∀ p st, p ≤ (fs p st).2.1) (p : Nat) (st : Bool) : p ≤ (zq_single X d fb fs p st).2.1 := by
  unfold zq_single
  by_cases q : 48 ≤ X p st ∧ X p st ≤ 57
  · simp only [if_pos q]; exact zq_num_le _ _ _
  simp only [if_neg q]
  by_cases q1 : 0 ≤ zx_io (X p st)
  · simp only [if_pos q1]; omega
  simp only [if_neg q1]
  by_cases q2 : (X p st = 40 ∨ X p st = 33 ∨ X p st = 45) ∧ d = true
  · simp only [if_pos q2]
    by_cases q3 : X p st = 40
    · simp only [if_pos q3]
      have := hb (p + 1) st
      omega
    · simp only [if_neg q3]
      have := hs (p + 1) st
      omega
  · simp only [if_neg q2]; omega
theorem zq_E_le {X : Nat → Bool → Int32} {f : Nat → Bool → ((Nat → Int32) → Int32) × Nat × Bool} (hf : ∀ p st, p ≤ (f p st).2.1) (p : Nat) (st : Bool) : p ≤ (zq_E X f p st).2.1 := zq_J_le (zq_J_le (zq_J_le (zq_J_le (zq_J_le hf)))) p st
theorem zq_S_le {X : Nat → Bool → Int32} : ∀ (k p : Nat) (st : Bool), p ≤ (zq_S X k p st).2.1 := by
  intro k
  induction k with
  | zero => exact fun p st => zq_single_le (fun _ _ => Nat.le_refl _) (fun _ _ => Nat.le_refl _) p st
  | succ k ih => exact fun p st => zq_single_le (zq_br_le (zq_E_le ih)) ih p st
def zq_PM (m0 m : zx_M) (n p : Nat) (st : Bool) (o : Nat) : Prop := p ≤ n ∧ m.2 = m0.2 ∧ (∀ r, ¬ r = 0 → m.1 r = m0.1 r) ∧ (∀ k, ¬ k = 12 → ¬ k = 14 → ¬ k = 15 → m.1 0 k = m0.1 0 k) ∧ ∃ a : Nat, a ≤ n ∧ m.1 0 12 = Int32.ofNat a ∧ (st = true → m.1 0 14 = Int32.ofNat p) ∧ (st = false → m.1 0 14 = -1 ∧ a = p ∧ m.1 0 15 = Int32.ofNat o)
def zq_AM (m0 : zx_M) (b : Nat → Int32) (n : Nat) : Prop := zq_by b n ∧ m0.1 0 13 = Int32.ofNat n ∧ ((m0.1 0 11 = -1 ∧ ∀ i < n, m0.1 5 i = b i) ∨ (m0.1 0 11 = 0 ∧ ∀ i < n, m0.1 6 i = b i))
def zq_y (b : Nat → Int32) (n p : Nat) : Int32 := if p < n then b p else 0
theorem zq_y_eq {b : Nat → Int32} {n p : Nat} {v : Int32} (hv : 0 < v) : zq_y b n p = v ↔ zq_nx b n p false = v := by
  unfold zq_y
  rw [zq_nx_f]
  grind
theorem zq_byteAt {m0 m : zx_M} {b : Nat → Int32} {n p o : Nat} {st : Bool} (A : zq_AM m0 b n) (P : zq_PM m0 m n p st o) : ∃ v, f_M_byteAt m = some v ∧ (st = false → v = zq_y b n p) := by
  obtain ⟨⟨a1, a2⟩, a3, a4⟩ := A
  obtain ⟨h1, h2, h3, h4, a, ha, h5, h6, h7⟩ := P
  have k13 := h4 13 (by omega) (by omega) (by omega)
  have k11 := h4 11 (by omega) (by omega) (by omega)
  have k5 := h3 5 (by omega)
  have k6 := h3 6 (by omega)
  unfold f_M_byteAt zq_y
  rw [k13, k11, a3, h5, k5, k6]
  by_cases g : a < n
  · have g1 : ¬ Int32.ofNat n ≤ Int32.ofNat a := by grind [zm_g]
    rw [if_neg g1]
    rcases a4 with ⟨e1, e2⟩ | ⟨e1, e2⟩
    · have e3 : ¬ (0 : Int32) ≤ -1 := by decide
      rw [e1, if_neg e3, zm_ix (by omega) (by omega), zm_bs, e2 a g]
      refine ⟨_, rfl, fun h => ?_⟩
      rw [← (h7 h).2.1, if_pos g]
    · have e3 : (0 : Int32) ≤ 0 := by decide
      have e4 : (0 : Int32) + Int32.ofNat a = Int32.ofNat a := by grind
      rw [e1, if_pos e3, e4, zm_ix (by omega) (by omega), zm_bs, e2 a g]
      refine ⟨_, rfl, fun h => ?_⟩
      rw [← (h7 h).2.1, if_pos g]
  · have g1 : Int32.ofNat n ≤ Int32.ofNat a := by grind [zm_g]
    rw [if_pos g1]
    refine ⟨_, rfl, fun h => ?_⟩
    rw [← (h7 h).2.1, if_neg g]
theorem zq_stepM {m0 m : zx_M} {n p o : Nat} (P : zq_PM m0 m n p false o) (h : p < n) : zq_PM m0 (zx_u1 m 0 12 (m.1 0 12 + 1)) n (p + 1) false o := by
  obtain ⟨h1, h2, h3, h4, a, ha, h5, h6, h7⟩ := P
  obtain ⟨h8, h9, h10⟩ := h7 rfl
  subst h9
  refine ⟨h, h2, fun r hr => ?_, fun k k1 k2 k3 => ?_, a + 1, h, ?_, fun h => absurd h (by decide), fun _ => ⟨?_, rfl, ?_⟩⟩
  · rw [zm_u11, if_neg hr]; exact h3 r hr
  · rw [zm_u11, if_pos rfl, zm_upd, if_neg k1]; exact h4 k k1 k2 k3
  · simp [zm_u11, zm_upd, h5]
  · simpa [zm_u11, zm_upd] using h8
  · simpa [zm_u11, zm_upd] using h10
theorem zq_wrong {m0 m : zx_M} {n p o : Nat} {st : Bool} (hn : n ≤ 120) (P : zq_PM m0 m n p st o) (o2 : Nat) : ∃ m', f_M_wrong m = some (0, m') ∧ zq_PM m0 m' n p true o2 := by
  obtain ⟨h1, h2, h3, h4, a, ha, h5, h6, h7⟩ := P
  have k : zq_PM m0 (zx_u1 m 0 14 (Int32.ofNat p)) n p true o2 := by
    refine ⟨h1, h2, fun r hr => ?_, fun k k1 k2 k3 => ?_, a, ha, ?_, fun _ => ?_, fun h => absurd h (by decide)⟩
    · rw [zm_u11, if_neg hr]; exact h3 r hr
    · rw [zm_u11, if_pos rfl, zm_upd, if_neg k2]; exact h4 k k1 k2 k3
    · simpa [zm_u11, zm_upd] using h5
    · simp [zm_u11, zm_upd]
  unfold f_M_wrong n_M_wrong_n19
  cases st
  · obtain ⟨h8, h9, h10⟩ := h7 rfl
    have e : ¬ (0 : Int32) ≤ -1 := by decide
    rw [h8, if_neg e, h5, h9]
    exact ⟨_, rfl, k⟩
  · have e : (0 : Int32) ≤ Int32.ofNat p := Int32.not_lt.mp (zm_nn (by omega))
    rw [h6 rfl, if_pos e]
    exact ⟨_, rfl, k⟩
theorem zq_takes {m0 m : zx_M} {b : Nat → Int32} {n p o : Nat} {st : Bool} (A : zq_AM m0 b n) (P : zq_PM m0 m n p st o) {v : Int32} (hv : 0 < v) : (zq_nx b n p st = v → f_M_takes v m = some (1, zx_u1 m 0 12 (m.1 0 12 + 1)) ∧ zq_PM m0 (zx_u1 m 0 12 (m.1 0 12 + 1)) n (p + 1) st o) ∧ (¬ zq_nx b n p st = v → f_M_takes v m = some (0, m)) := by
  obtain ⟨w, e, e2⟩ := zq_byteAt A P
  obtain ⟨h1, h2, h3, h4, a, ha, h5, h6, h7⟩ := id P
  have hn := A.1.1
  unfold f_M_takes
  rw [e]
  cases st
  · obtain ⟨h8, h9, h10⟩ := h7 rfl
    have z : ¬ (0 : Int32) ≤ -1 := by decide
    rw [h8, if_neg z, zm_bs, e2 rfl]
    refine ⟨fun q => ?_, fun q => ?_⟩
    · have q0 : ¬ zq_nx b n p false = -1 := by grind
      rw [if_pos ((zq_y_eq hv).mpr q), zm_let]
      exact ⟨rfl, zq_stepM P (zq_nx_on q0).1⟩
    · rw [if_neg (fun h => q ((zq_y_eq hv).mp h))]
  · have z : (0 : Int32) ≤ Int32.ofNat p := Int32.not_lt.mp (zm_nn (by omega))
    rw [h6 rfl, if_pos z, zq_nx_t]
    refine ⟨fun q => ?_, fun _ => rfl⟩
    exfalso
    grind
theorem zq_fault {m0 m : zx_M} {n p o : Nat} {st : Bool} (hn : n ≤ 120) (P : zq_PM m0 m n p st o) : (0 ≤ m.1 0 14 ↔ st = true) ∧ (m.1 0 14 < 0 ↔ st = false) := by
  obtain ⟨h1, h2, h3, h4, a, ha, h5, h6, h7⟩ := id P
  cases st
  · rw [(h7 rfl).1]
    decide
  · have z : (0 : Int32) ≤ Int32.ofNat p := Int32.not_lt.mp (zm_nn (by omega))
    have z2 : ¬ Int32.ofNat p < 0 := zm_nn (by omega)
    rw [h6 rfl]
    simp [z, z2]
def zq_CM (m0 : zx_M) (n o : Nat) (h : zx_M → Option (Int32 × zx_M)) (f : Nat → Bool → ((Nat → Int32) → Int32) × Nat × Bool) : Prop := ∀ m p st, zq_PM m0 m n p st o → ∃ v m', h m = some (v, m') ∧ zq_PM m0 m' n (f p st).2.1 (f p st).2.2 o ∧ ((f p st).2.2 = false → v = (f p st).1 (m0.1 7))
/-- a joining of signs of one rank by a loop of the reference -/
theorem zq_loopM {m0 : zx_M} {b : Nat → Int32} {n o : Nat} {σ : Type} {B : σ → Option (σ ⊕ (Int32 × zx_M))} {mk : Int32 → zx_M → σ} {k : Int32} (hk : ¬ k = 2) (hk1 : ¬ k = -1) {f : Nat → Bool → ((Nat → Int32) → Int32) × Nat × Bool} (hle : ∀ p st, p ≤ (f p st).2.1) (stop : ∀ v m p st, zq_PM m0 m n p st o → ¬ zq_rank (zq_nx b n p st) = k → B (mk v m) = some (.inr (v, m))) (go : ∀ v m p, p < n → zq_PM m0 m n p false o → zq_rank (zq_nx b n p false) = k → ∃ v' m', B (mk v m) = some (.inl (mk v' m')) ∧ zq_PM m0 m' n (f (p + 1) false).2.1 (f (p + 1) false).2.2 o ∧ ((f (p + 1) false).2.2 = false → v' = zq_rk (zq_nx b n p false) v ((f (p + 1) false).1 (m0.1 7)))) : ∀ (j : Nat) (v : Int32) (l : (Nat → Int32) → Int32) (m : zx_M) (p : Nat) (st : Bool), zq_PM m0 m n p st o → (st = false → v = l (m0.1 7)) → n ≤ p + j → ∀ N, j + 1 ≤ N → ∃ v' m', zx_lp N B (mk v m) = some (v', m') ∧ zq_PM m0 m' n (zq_join (zq_nx b n) k f j l p st).2.1 (zq_join (zq_nx b n) k f j l p st).2.2 o ∧ ((zq_join (zq_nx b n) k f j l p st).2.2 = false → v' = (zq_join (zq_nx b n) k f j l p st).1 (m0.1 7)) := by
  intro j
  induction j with
  | zero =>
    intro v l m p st P hv hj N hN
    obtain ⟨N1, rfl⟩ : ∃ N1, N = N1 + 1 := ⟨N - 1, by omega⟩
    have q : ¬ zq_rank (zq_nx b n p st) = k := by
      intro q
      have := (zq_nx_on (b := b) (n := n) (p := p) (st := st) (zq_rank_on (by rw [q]; exact hk1))).1
      omega
    refine ⟨v, m, ?_, P, hv⟩
    unfold zx_lp
    rw [stop v m p st P q]
  | succ j ih =>
    intro v l m p st P hv hj N hN
    obtain ⟨N1, rfl⟩ : ∃ N1, N = N1 + 1 := ⟨N - 1, by omega⟩
    unfold zx_lp zq_join
    by_cases q : zq_rank (zq_nx b n p st) = k
    · obtain ⟨g1, rfl⟩ := zq_nx_on (b := b) (n := n) (p := p) (st := st) (zq_rank_on (by rw [q]; exact hk1))
      obtain ⟨v', m', e1, P1, e2⟩ := go v m p g1 P q
      have := hle (p + 1) false
      obtain ⟨v2, m2, e3, P2, e4⟩ := ih v' (fun e => zq_rk (zq_nx b n p false) (l e) ((f (p + 1) false).1 e)) m' _ _ P1 (fun h => by rw [e2 h, hv rfl]) (by omega) N1 (by omega)
      simp only [if_pos q, if_neg hk, e1]
      exact ⟨v2, m2, e3, P2, e4⟩
    · simp only [if_neg q]
      rw [stop v m p st P q]
      exact ⟨v, m, rfl, P, hv⟩
theorem zq_rank0 {s : Int32} : zq_rank s = 0 ↔ s = 124 := by unfold zq_rank; grind (splits := 40)
theorem zq_rank1 {s : Int32} : zq_rank s = 1 ↔ s = 38 := by unfold zq_rank; grind (splits := 40)
theorem zq_rank2 {s : Int32} : zq_rank s = 2 ↔ s = 60 ∨ s = 61 ∨ s = 62 := by unfold zq_rank; grind (splits := 40)
theorem zq_rank3 {s : Int32} : zq_rank s = 3 ↔ s = 43 ∨ s = 45 := by unfold zq_rank; grind (splits := 40)
theorem zq_rank4 {s : Int32} : zq_rank s = 4 ↔ s = 42 ∨ s = 47 ∨ s = 37 := by unfold zq_rank; grind (splits := 40)
theorem zq_eitherM {m0 : zx_M} {b : Nat → Int32} {n o : Nat} (A : zq_AM m0 b n) {g : GT_both_compared_either_one_produ_m} {f : Nat → Bool → ((Nat → Int32) → Int32) × Nat × Bool} (hle : ∀ p st, p ≤ (f p st).2.1) (hf : zq_CM m0 n o g.2.1 f) : zq_CM m0 n o (F_M_either g) (zq_J (zq_nx b n) 0 f) := by
  intro m p st P
  obtain ⟨v1, m1, e1, P1, ev⟩ := hf m p st P
  have z0 : (0 : Int32) = 0 := rfl
  have z1 : ¬ ((1 : Int32) = 0) := by decide
  obtain ⟨v2, m2, e2, P2, ev2⟩ := zq_loopM (b := b) (B := fun s : Int32 × zx_M => b_M_either_l5 g s.1 s.2) (mk := fun v m => (v, m)) (k := 0) (by decide) (by decide) hle (fun v m p st P q => by
      have := (zq_takes A P (v := 124) (by decide)).2 (fun h => q (zq_rank0.mpr h))
      dsimp only
      unfold b_M_either_l5
      simp only [this, zm_bs, ↓reduceIte]) (fun v m p hp P q => by
      have q' := zq_rank0.mp q
      obtain ⟨t1, t2⟩ := (zq_takes A P (v := 124) (by decide)).1 q'
      obtain ⟨v3, m3, e3, P3, ev3⟩ := hf _ _ _ t2
      refine ⟨if v = 0 ∧ v3 = 0 then 0 else 1, m3, ?_, P3, fun h => ?_⟩
      · dsimp only
        unfold b_M_either_l5 n_M_either_b5_27 n_M_either_b5_32
        simp only [t1, zm_bs, if_neg z1, e3]
        by_cases x : v = 0
        · by_cases y : v3 = 0
          · simp only [x, y, and_self, not_true_eq_false, ↓reduceIte]
          · simp only [x, y, not_true_eq_false, ↓reduceIte, and_false]
        · simp only [x, not_false_eq_true, ↓reduceIte, false_and]
      · rw [q', ← ev3 h]
        rfl) 120 v1 (f p st).1 m1 _ _ P1 ev (by have := A.1.1; omega) zx_N (by decide +kernel)
  have e2' : l_M_either_l5 g (v1, m1) = some (v2, m2) := e2
  refine ⟨v2, m2, ?_, P2, ev2⟩
  unfold F_M_either
  simp only [e1, zm_bs, e2', zm_let]
theorem zq_bothM {m0 : zx_M} {b : Nat → Int32} {n o : Nat} (A : zq_AM m0 b n) {g : GT_both_compared_either_one_produ_m} {f : Nat → Bool → ((Nat → Int32) → Int32) × Nat × Bool} (hle : ∀ p st, p ≤ (f p st).2.1) (hf : zq_CM m0 n o g.2.2.1 f) : zq_CM m0 n o (F_M_both g) (zq_J (zq_nx b n) 1 f) := by
  intro m p st P
  obtain ⟨v1, m1, e1, P1, ev⟩ := hf m p st P
  have z0 : (0 : Int32) = 0 := rfl
  have z1 : ¬ ((1 : Int32) = 0) := by decide
  obtain ⟨v2, m2, e2, P2, ev2⟩ := zq_loopM (b := b) (B := fun s : Int32 × zx_M => b_M_both_l5 g s.1 s.2) (mk := fun v m => (v, m)) (k := 1) (by decide) (by decide) hle (fun v m p st P q => by
      have := (zq_takes A P (v := 38) (by decide)).2 (fun h => q (zq_rank1.mpr h))
      dsimp only
      unfold b_M_both_l5
      simp only [this, zm_bs, ↓reduceIte]) (fun v m p hp P q => by
      have q' := zq_rank1.mp q
      obtain ⟨t1, t2⟩ := (zq_takes A P (v := 38) (by decide)).1 q'
      obtain ⟨v3, m3, e3, P3, ev3⟩ := hf _ _ _ t2
      refine ⟨if v = 0 ∨ v3 = 0 then 0 else 1, m3, ?_, P3, fun h => ?_⟩
      · dsimp only
        unfold b_M_both_l5 n_M_both_b5_31 n_M_both_b5_32
        simp only [t1, zm_bs, if_neg z1, e3]
        by_cases x : v = 0
        · simp only [x, true_or, ↓reduceIte]
        · by_cases y : v3 = 0
          · simp only [x, y, or_true, ↓reduceIte]
          · simp only [x, y, or_self, ↓reduceIte]
      · rw [q', ← ev3 h]
        rfl) 120 v1 (f p st).1 m1 _ _ P1 ev (by have := A.1.1; omega) zx_N (by decide +kernel)
  have e2' : l_M_both_l5 g (v1, m1) = some (v2, m2) := e2
  refine ⟨v2, m2, ?_, P2, ev2⟩
  unfold F_M_both
  simp only [e1, zm_bs, e2', zm_let]
