/-! the class reads a text: cell 12 -/
def zq_PC12 (c0 c : zx_M) (n p : Nat) (st : Bool) : Prop := p ≤ n ∧ c.2 = c0.2 ∧ (∀ r, ¬ r = 12 → c.1 r = c0.1 r) ∧ c.1 12 2 = Int32.ofNat n ∧ c.1 12 3 = Int32.ofNat p ∧ c.1 12 4 = if st then 1 else 0
/-- the bytes are there -/
def zq_AC12 (c0 : zx_M) (b : Nat → Int32) (n : Nat) : Prop := zq_by b n ∧ ∀ i < n, c0.1 13 i = b i
theorem zq_next12 {c0 c : zx_M} {b : Nat → Int32} {n p : Nat} {st : Bool} (A : zq_AC12 c0 b n) (P : zq_PC12 c0 c n p st) : f_Text_next_12 c = some (zq_nx b n p st) := by
  obtain ⟨h1, h2, h3, h4, h5, h6⟩ := P
  obtain ⟨⟨a1, a2⟩, a3⟩ := A
  have e13 := h3 13 (by omega)
  have z1 : ¬ ((1 : Int32) = 0) := by decide
  have z2 : ¬ ¬ ((0 : Int32) = 0) := fun h => h rfl
  unfold f_Text_next_12
  rw [h4, h5, h6]
  cases st
  · rw [zq_nx_f]
    have g0 : ¬ Int32.ofNat p < 0 := zm_nn (by omega)
    simp only [Bool.false_eq_true, ↓reduceIte, not_true_eq_false, if_neg g0]
    by_cases g : p < n
    · have g1 : ¬ Int32.ofNat n ≤ Int32.ofNat p := by grind [zm_g]
      have g2 : Int32.ofNat p < 120 := by grind [zm_g]
      rw [if_neg g1, if_pos g2, zm_ix (by omega) (by omega), zm_bs, e13, a3 p g, if_pos g]
    · have g1 : Int32.ofNat n ≤ Int32.ofNat p := by grind [zm_g]
      rw [if_pos g1, if_neg g]
  · rw [zq_nx_t]
    simp only [↓reduceIte, if_pos z1]
theorem zq_step12 {c0 c : zx_M} {n p : Nat} {st : Bool} (P : zq_PC12 c0 c n p st) (h : p < n) : zq_PC12 c0 (zx_u1 c 12 3 (c.1 12 3 + 1)) n (p + 1) st := by
  obtain ⟨h1, h2, h3, h4, h5, h6⟩ := P
  refine ⟨h, h2, fun r hr => ?_, ?_, ?_, ?_⟩
  · rw [zm_u11, if_neg hr]; exact h3 r hr
  · simpa [zm_u11, zm_upd] using h4
  · simp [zm_u11, zm_upd, h5]
  · simpa [zm_u11, zm_upd] using h6
theorem zq_stuck12 {c0 c : zx_M} {n p : Nat} {st : Bool} (P : zq_PC12 c0 c n p st) : zq_PC12 c0 (zx_u1 c 12 4 1) n p true := by
  obtain ⟨h1, h2, h3, h4, h5, h6⟩ := P
  refine ⟨h1, h2, fun r hr => ?_, ?_, ?_, ?_⟩
  · rw [zm_u11, if_neg hr]; exact h3 r hr
  · simpa [zm_u11, zm_upd] using h4
  · simpa [zm_u11, zm_upd] using h5
  · simp [zm_u11, zm_upd]
def zq_C12 (c0 : zx_M) (n : Nat) (h : zx_M → Option (Int32 × zx_M)) (f : Nat → Bool → ((Nat → Int32) → Int32) × Nat × Bool) : Prop := ∀ c p st, zq_PC12 c0 c n p st → ∃ c', h c = some ((f p st).1 (c0.1 14), c') ∧ zq_PC12 c0 c' n (f p st).2.1 (f p st).2.2
theorem zq_joinL12 {c0 : zx_M} {b : Nat → Int32} {n : Nat} (A : zq_AC12 c0 b n) {g : GT_bracketed_joined_single_12} {k : Nat} (hk : k < 5) {o k1 : Int32} (hk1 : Int32.ofNat k + 1 = k1) {f : Nat → Bool → ((Nat → Int32) → Int32) × Nat × Bool} (hf : zq_C12 c0 n (g.1 k1 o) f) : ∀ (j i : Nat), i + j = 120 → ∀ (l : (Nat → Int32) → Int32) (c : zx_M) (p : Nat) (st : Bool), zq_PC12 c0 c n p st → ∀ N, j + 1 ≤ N → ∃ c', zx_lp N (fun s : Int32 × Int32 × zx_M => b_Text_joined_12_l23 g (Int32.ofNat k) o s.1 s.2.1 s.2.2) (l (c0.1 14), Int32.ofNat i, c) = some ((zq_join (zq_nx b n) (Int32.ofNat k) f j l p st).1 (c0.1 14), c') ∧ zq_PC12 c0 c' n (zq_join (zq_nx b n) (Int32.ofNat k) f j l p st).2.1 (zq_join (zq_nx b n) (Int32.ofNat k) f j l p st).2.2 := by
  intro j
  induction j with
  | zero =>
    intro i hi l c p st P N hN
    obtain ⟨N1, rfl⟩ : ∃ N1, N = N1 + 1 := ⟨N - 1, by omega⟩
    have g1 : (120 : Int32) ≤ Int32.ofNat i := by grind [zm_g]
    refine ⟨c, ?_, P⟩
    unfold zx_lp b_Text_joined_12_l23 zq_join
    simp only [if_pos g1]
  | succ j ih =>
    intro i hi l c p st P N hN
    obtain ⟨N1, rfl⟩ : ∃ N1, N = N1 + 1 := ⟨N - 1, by omega⟩
    have g1 : ¬ (120 : Int32) ≤ Int32.ofNat i := by grind [zm_g]
    have e := zq_next12 A P
    have a1 : Int32.ofNat i + 1 = Int32.ofNat (i + 1) := by simp
    by_cases q : zq_rank (zq_nx b n p st) = Int32.ofNat k
    · have q0 : ¬ zq_rank (zq_nx b n p st) = -1 := by rw [q]; grind [zm_g]
      obtain ⟨c2, e1, P2⟩ := hf _ _ _ (zq_step12 P (zq_nx_on (zq_rank_on q0)).1)
      have q' : ¬ ¬ zq_rank (zq_nx b n p st) = Int32.ofNat k := fun h => h q
      by_cases q2 : Int32.ofNat k = 2
      · have q2' : ¬ ¬ Int32.ofNat k = 2 := fun h => h q2
        refine ⟨c2, ?_, ?_⟩
        · unfold zx_lp b_Text_joined_12_l23 zq_join
          simp only [if_neg g1, e, zm_bs, zm_let, zq_rankC, if_neg q', if_pos q, hk1, e1, zq_rkC, if_neg q2', if_pos q2]
        · unfold zq_join
          simp only [if_pos q, if_pos q2]
          exact P2
      · obtain ⟨c3, e3, P3⟩ := ih (i + 1) (by omega) (fun e => zq_rk (zq_nx b n p st) (l e) ((f (p + 1) st).1 e)) c2 _ _ P2 N1 (by omega)
        refine ⟨c3, ?_, ?_⟩
        · have hb : b_Text_joined_12_l23 g (Int32.ofNat k) o (l (c0.1 14)) (Int32.ofNat i) c = some (.inl (zq_rk (zq_nx b n p st) (l (c0.1 14)) ((f (p + 1) st).1 (c0.1 14)), Int32.ofNat (i + 1), c2)) := by
            unfold b_Text_joined_12_l23
            simp only [if_neg g1, e, zm_bs, zm_let, zq_rankC, if_neg q', hk1, e1, zq_rkC, if_pos q2, a1]
          unfold zx_lp zq_join
          simp only [hb, if_pos q, if_neg q2]
          exact e3
        · unfold zq_join
          simp only [if_pos q, if_neg q2]
          exact P3
    · refine ⟨c, ?_, ?_⟩
      · unfold zx_lp b_Text_joined_12_l23 zq_join
        simp only [if_neg g1, e, zm_bs, zm_let, zq_rankC, if_pos q, if_neg q]
      · unfold zq_join
        simp only [if_neg q]
        exact P
theorem zq_joined12 {c0 : zx_M} {b : Nat → Int32} {n : Nat} (A : zq_AC12 c0 b n) {g : GT_bracketed_joined_single_12} {k : Nat} (hk : k < 5) {o k1 : Int32} (hk1 : Int32.ofNat k + 1 = k1) {f : Nat → Bool → ((Nat → Int32) → Int32) × Nat × Bool} (hf : zq_C12 c0 n (g.1 k1 o) f) : zq_C12 c0 n (F_Text_joined_12 g (Int32.ofNat k) o) (zq_J (zq_nx b n) (Int32.ofNat k) f) := by
  intro c p st P
  obtain ⟨c1, e1, P1⟩ := hf c p st P
  obtain ⟨c2, e2, P2⟩ := zq_joinL12 A hk hk1 hf 120 0 rfl (f p st).1 c1 _ _ P1 zx_N (by decide +kernel)
  have e2' : l_Text_joined_12_l23 g (Int32.ofNat k) o ((f p st).1 (c0.1 14), 0, c1) = _ := e2
  have g1 : Int32.ofNat k < 5 := by grind [zm_g]
  refine ⟨c2, ?_, P2⟩
  unfold F_Text_joined_12
  simp only [if_pos g1, hk1, e1, zm_bs, zm_let, e2']
  rfl
theorem zq_joinS12 {c0 : zx_M} {n : Nat} {g : GT_bracketed_joined_single_12} {o : Int32} {f : Nat → Bool → ((Nat → Int32) → Int32) × Nat × Bool} (hf : zq_C12 c0 n (g.2.1 o) f) : zq_C12 c0 n (F_Text_joined_12 g 5 o) f := by
  intro c p st P
  obtain ⟨c1, e1, P1⟩ := hf c p st P
  have g1 : ¬ (5 : Int32) < 5 := by decide
  refine ⟨c1, ?_, P1⟩
  unfold F_Text_joined_12
  simp only [if_neg g1, e1, zm_bs]
theorem zq_numE12 {c0 c : zx_M} {n p : Nat} {st : Bool} (hn : n ≤ 120) (P : zq_PC12 c0 c n p st) : zx_min (zx_min (c.1 12 2) 120) (c.1 12 3 + 4) = Int32.ofNat (min n (p + 4)) ∧ zx_max 0 (c.1 12 3) = Int32.ofNat p := by
  obtain ⟨h1, h2, h3, h4, h5, h6⟩ := P
  have a4 : Int32.ofNat p + 4 = Int32.ofNat (p + 4) := by simp
  have g0 : ¬ (120 : Int32) < Int32.ofNat n := by grind [zm_g]
  have g1 : ¬ Int32.ofNat p < 0 := zm_nn (by omega)
  rw [h4, h5, a4]
  unfold zx_min zx_max
  rw [if_neg g0]
  refine ⟨?_, ?_⟩
  · by_cases g : p + 4 < n
    · have g2 : Int32.ofNat (p + 4) < Int32.ofNat n := by grind [zm_g]
      rw [if_pos g2, Nat.min_eq_right (by omega)]
    · have g2 : ¬ Int32.ofNat (p + 4) < Int32.ofNat n := by grind [zm_g]
      rw [if_neg g2, Nat.min_eq_left (by omega)]
  · by_cases g : 0 < p
    · have g2 : (0 : Int32) < Int32.ofNat p := by grind [zm_g]
      rw [if_pos g2]
    · have g2 : p = 0 := by omega
      subst g2
      rfl
theorem zq_numL12 {c0 : zx_M} {b : Nat → Int32} {n : Nat} (A : zq_AC12 c0 b n) (e : Nat) : ∀ (j p : Nat), e = min n (p + j) → ∀ (v : Int32) (c : zx_M), zq_PC12 c0 c n p false → ∀ N, j + 1 ≤ N → ∃ c', zx_lp N (fun s : Int32 × Int32 × zx_M => b_Text_number_12_l30 s.1 (Int32.ofNat e) s.2.1 s.2.2) (v, Int32.ofNat p, c) = some ((zq_num (zq_nx b n) j v p).1, c') ∧ zq_PC12 c0 c' n (zq_num (zq_nx b n) j v p).2 false := by
  intro j
  induction j with
  | zero =>
    intro p he v c P N hN
    obtain ⟨N1, rfl⟩ : ∃ N1, N = N1 + 1 := ⟨N - 1, by omega⟩
    have hn := A.1.1
    have hp := P.1
    have g1 : Int32.ofNat e ≤ Int32.ofNat p := by grind [zm_g]
    refine ⟨c, ?_, P⟩
    unfold zx_lp b_Text_number_12_l30 zq_num
    simp only [if_pos g1]
  | succ j ih =>
    intro p he v c P N hN
    obtain ⟨N1, rfl⟩ : ∃ N1, N = N1 + 1 := ⟨N - 1, by omega⟩
    have hn := A.1.1
    have hp := P.1
    by_cases g : p < n
    · have g1 : ¬ Int32.ofNat e ≤ Int32.ofNat p := by grind [zm_g]
      have a1 : Int32.ofNat p + 1 = Int32.ofNat (p + 1) := by simp
      have eb : c.1 13 p = b p := by rw [P.2.2.1 13 (by omega)]; exact A.2 p g
      have ex : zq_nx b n p false = b p := by rw [zq_nx_f, if_pos g]
      have e5 : c.1 12 3 = Int32.ofNat p := P.2.2.2.2.1
      have ei : zx_ix 120 (Int32.ofNat p) = some p := zm_ix (by omega) (by omega)
      by_cases q : 48 ≤ b p ∧ b p ≤ 57
      · have q1 : ¬ b p < 48 := Int32.not_lt.mpr q.1
        have q2 : ¬ 57 < b p := Int32.not_lt.mpr q.2
        have P1 := zq_step12 P g
        rw [e5] at P1
        obtain ⟨c3, e3, P3⟩ := ih (p + 1) (by omega) (v * 10 + b p - 48) _ P1 N1 (by omega)
        refine ⟨c3, ?_, ?_⟩
        · have hb : b_Text_number_12_l30 v (Int32.ofNat e) (Int32.ofNat p) c = some (.inl (v * 10 + b p - 48, Int32.ofNat (p + 1), zx_u1 c 12 3 (Int32.ofNat p + 1))) := by
            unfold b_Text_number_12_l30
            simp only [if_neg g1, ei, eb, zm_bs, zm_let, if_neg q1, if_neg q2, a1]
          unfold zx_lp zq_num
          simp only [hb, ex, if_pos q]
          exact e3
        · unfold zq_num
          simp only [ex, if_pos q]
          exact P3
      · refine ⟨c, ?_, ?_⟩
        · unfold zx_lp b_Text_number_12_l30 zq_num
          by_cases q1 : b p < 48
          · simp only [if_neg g1, ei, eb, ex, zm_bs, zm_let, if_pos q1, if_neg q]
          · have q2 : 57 < b p := Int32.not_le.mp (fun h => q ⟨Int32.not_lt.mp q1, h⟩)
            simp only [if_neg g1, ei, eb, ex, zm_bs, zm_let, if_neg q1, if_pos q2, if_neg q]
        · unfold zq_num
          simp only [ex, if_neg q]
          exact P
    · have g1 : Int32.ofNat e ≤ Int32.ofNat p := by grind [zm_g]
      have ex : zq_nx b n p false = -1 := by rw [zq_nx_f, if_neg g]
      have q : ¬ ((48 : Int32) ≤ -1 ∧ (-1 : Int32) ≤ 57) := by decide
      refine ⟨c, ?_, ?_⟩
      · unfold zx_lp b_Text_number_12_l30 zq_num
        simp only [if_pos g1, ex, if_neg q]
      · unfold zq_num
        simp only [ex, if_neg q]
        exact P
theorem zq_br12 {c0 : zx_M} {b : Nat → Int32} {n : Nat} (A : zq_AC12 c0 b n) {g : GT_bracketed_joined_single_12} {o : Int32} {f : Nat → Bool → ((Nat → Int32) → Int32) × Nat × Bool} (hf : zq_C12 c0 n (g.1 0 o) f) : zq_C12 c0 n (F_Text_bracketed_12 g o) (zq_br (zq_nx b n) f) := by
  intro c p st P
  obtain ⟨c1, e1, P1⟩ := hf c p st P
  have e2 := zq_next12 A P1
  unfold F_Text_bracketed_12 zq_br
  simp only [e1, zm_bs, e2, zm_let]
  by_cases q : zq_nx b n (f p st).2.1 (f p st).2.2 = 41
  · have q' : ¬ ¬ zq_nx b n (f p st).2.1 (f p st).2.2 = 41 := fun h => h q
    have q0 : ¬ zq_nx b n (f p st).2.1 (f p st).2.2 = -1 := by grind
    simp only [if_neg q', if_pos q]
    exact ⟨_, rfl, zq_step12 P1 (zq_nx_on q0).1⟩
  · simp only [if_pos q, if_neg q]
    exact ⟨_, rfl, zq_stuck12 P1⟩
theorem zq_single12 {c0 : zx_M} {b : Nat → Int32} {n : Nat} (A : zq_AC12 c0 b n) {g : GT_bracketed_joined_single_12} {o : Nat} (ho : o ≤ 6) {d : Bool} (hd : d = decide (o < 6)) {fb fs : Nat → Bool → ((Nat → Int32) → Int32) × Nat × Bool} (hf : o < 6 → zq_C12 c0 n (g.2.2 (Int32.ofNat (o + 1))) fb) (hs : o < 6 → zq_C12 c0 n (g.2.1 (Int32.ofNat (o + 1))) fs) : zq_C12 c0 n (F_Text_single_12 g (Int32.ofNat o)) (zq_single (zq_nx b n) d fb fs) := by
  intro c p st P
  have e := zq_next12 A P
  have z1 : ¬ ((1 : Int32) = 0) := by decide
  have z0 : (0 : Int32) = 0 := rfl
  have a1 : Int32.ofNat o + 1 = Int32.ofNat (o + 1) := by simp
  have r := zq_nx_r (st := st) (p := p) A.1
  unfold F_Text_single_12 zq_single
  simp only [e, zm_bs]
  by_cases q : 48 ≤ zq_nx b n p st ∧ zq_nx b n p st ≤ 57
  · have q1 : ¬ zq_nx b n p st < 48 := Int32.not_lt.mpr q.1
    have q2 : ¬ 57 < zq_nx b n p st := Int32.not_lt.mpr q.2
    have q0 : ¬ zq_nx b n p st = -1 := by grind
    have hst := (zq_nx_on q0).2
    subst hst
    obtain ⟨c1, e1, P1⟩ := zq_numL12 A (min n (p + 4)) 4 p rfl 0 c P zx_N (by decide +kernel)
    have e1' : l_Text_number_12_l30 (Int32.ofNat (min n (p + 4))) (0, Int32.ofNat p, c) = _ := e1
    obtain ⟨w1, w2⟩ := zq_numE12 A.1.1 P
    unfold f_Text_number_12
    simp only [if_pos q, if_neg q1, if_neg q2, zm_let, w1, w2, e1', zm_bs]
    exact ⟨_, rfl, P1⟩
  · have hn : ∀ X : Option (Int32 × zx_M), (if zq_nx b n p st < 48 then n_Text_single_12_n22 g (Int32.ofNat o) (zq_nx b n p st) c else if 57 < zq_nx b n p st then n_Text_single_12_n22 g (Int32.ofNat o) (zq_nx b n p st) c else X) = n_Text_single_12_n22 g (Int32.ofNat o) (zq_nx b n p st) c := by
      intro X
      by_cases q1 : zq_nx b n p st < 48
      · rw [if_pos q1]
      · have q2 : 57 < zq_nx b n p st := by grind
        rw [if_neg q1, if_pos q2]
    rw [hn]
    have hio : n_Text_single_12_n22 g (Int32.ofNat o) (zq_nx b n p st) c = n_Text_single_12_n38 g (Int32.ofNat o) (zq_nx b n p st) (zx_io (zq_nx b n p st)) c := by
      unfold n_Text_single_12_n22
      by_cases q1 : zq_nx b n p st = -1
      · have q1' : ¬ ¬ zq_nx b n p st = -1 := fun h => h q1
        rw [if_neg q1', q1]
        rfl
      · rw [if_pos q1, zq_i2c (by grind) r.2]
    rw [hio]
    unfold n_Text_single_12_n38
    simp only [if_neg q]
    rcases zq_ioN (zq_nx b n p st) with i0 | ⟨k, hk, i0⟩
    · have i1 : (-1 : Int32) < 0 := by decide
      have i2 : ¬ (0 : Int32) ≤ -1 := by decide
      simp only [i0, if_pos i1, if_neg i2]
      unfold n_Text_single_12_n69 n_Text_single_12_n87
      by_cases w : zq_nx b n p st = 40 ∨ zq_nx b n p st = 33 ∨ zq_nx b n p st = 45
      · have h92 : (if zq_nx b n p st = 40 then n_Text_single_12_n92 g (Int32.ofNat o) (zq_nx b n p st) 1 c else if zq_nx b n p st = 33 then n_Text_single_12_n92 g (Int32.ofNat o) (zq_nx b n p st) 1 c else if ¬ zq_nx b n p st = 45 then n_Text_single_12_n92 g (Int32.ofNat o) (zq_nx b n p st) 0 c else n_Text_single_12_n92 g (Int32.ofNat o) (zq_nx b n p st) 1 c) = n_Text_single_12_n92 g (Int32.ofNat o) (zq_nx b n p st) 1 c := by grind
        rw [h92]
        unfold n_Text_single_12_n92 n_Text_single_12_n105
        simp only [if_neg z1, zm_let]
        by_cases u : o < 6
        · have u1 : Int32.ofNat o < 6 := by grind [zm_g]
          have q0 : ¬ zq_nx b n p st = -1 := by grind
          have P1 := zq_step12 P (zq_nx_on q0).1
          have hd' : d = true := by rw [hd]; exact decide_eq_true u
          simp only [if_pos u1, if_pos (And.intro w hd'), a1]
          by_cases w1 : zq_nx b n p st = 40
          · have w1' : ¬ ¬ zq_nx b n p st = 40 := fun h => h w1
            obtain ⟨c2, e2, P2⟩ := hf u _ _ _ P1
            simp only [if_neg w1', if_pos w1, e2, zm_bs]
            exact ⟨_, rfl, P2⟩
          · obtain ⟨c2, e2, P2⟩ := hs u _ _ _ P1
            simp only [if_pos w1, if_neg w1, e2, zm_bs]
            by_cases w2 : zq_nx b n p st = 45
            · have w2' : ¬ ¬ zq_nx b n p st = 45 := fun h => h w2
              simp only [if_neg w2', if_pos w2]
              exact ⟨_, rfl, P2⟩
            · simp only [if_pos w2, if_neg w2]
              by_cases w3 : (fs (p + 1) st).1 (c0.1 14) = 0
              · have w3' : ¬ ¬ (fs (p + 1) st).1 (c0.1 14) = 0 := fun h => h w3
                simp only [if_neg w3', if_pos w3]
                exact ⟨_, rfl, P2⟩
              · simp only [if_pos w3, if_neg w3]
                exact ⟨_, rfl, P2⟩
        · have u1 : ¬ Int32.ofNat o < 6 := by grind [zm_g]
          have hd' : ¬ ((zq_nx b n p st = 40 ∨ zq_nx b n p st = 33 ∨ zq_nx b n p st = 45) ∧ d = true) := by
            rintro ⟨-, h⟩
            rw [hd] at h
            exact u (of_decide_eq_true h)
          simp only [if_neg u1, if_neg hd']
          exact ⟨_, rfl, zq_stuck12 P⟩
      · have h92 : (if zq_nx b n p st = 40 then n_Text_single_12_n92 g (Int32.ofNat o) (zq_nx b n p st) 1 c else if zq_nx b n p st = 33 then n_Text_single_12_n92 g (Int32.ofNat o) (zq_nx b n p st) 1 c else if ¬ zq_nx b n p st = 45 then n_Text_single_12_n92 g (Int32.ofNat o) (zq_nx b n p st) 0 c else n_Text_single_12_n92 g (Int32.ofNat o) (zq_nx b n p st) 1 c) = n_Text_single_12_n92 g (Int32.ofNat o) (zq_nx b n p st) 0 c := by grind
        rw [h92]
        have hd' : ¬ ((zq_nx b n p st = 40 ∨ zq_nx b n p st = 33 ∨ zq_nx b n p st = 45) ∧ d = true) := fun h => w h.1
        unfold n_Text_single_12_n92 n_Text_single_12_n105
        simp only [if_pos z0, zm_let, if_neg hd']
        exact ⟨_, rfl, zq_stuck12 P⟩
    · have i1 : ¬ Int32.ofNat k < 0 := zm_nn (by omega)
      have i2 : (0 : Int32) ≤ Int32.ofNat k := Int32.not_lt.mp i1
      have i3 : ¬ 6 ≤ Int32.ofNat k := by grind [zm_g]
      have q0 : ¬ zq_nx b n p st = -1 := by
        intro h
        rw [h] at i0
        have : zx_io (-1) = -1 := by decide
        grind [zm_g]
      have P1 := zq_step12 P (zq_nx_on q0).1
      have tn : (Int32.ofNat k).toNatClampNeg = k := Int32.toNatClampNeg_ofNat_of_lt (by omega)
      have e14 : (zx_u1 c 12 3 (c.1 12 3 + 1)).1 14 = c0.1 14 := P1.2.2.1 14 (by omega)
      simp only [i0, if_neg i1, if_pos i2, if_neg i3, zm_let, zm_ix hk (by omega), zm_bs, tn, e14]
      exact ⟨_, rfl, P1⟩
theorem zq_E12 {c0 : zx_M} {b : Nat → Int32} {n : Nat} (A : zq_AC12 c0 b n) {j : Nat} {o : Int32} {f : Nat → Bool → ((Nat → Int32) → Int32) × Nat × Bool} (hf : zq_C12 c0 n ((g_bracketed_joined_single_12 j).2.1 o) f) : zq_C12 c0 n ((g_bracketed_joined_single_12 (j + 6)).1 0 o) (zq_E (zq_nx b n) f) := by
  have s5 : zq_C12 c0 n ((g_bracketed_joined_single_12 (j + 1)).1 5 o) f := zq_joinS12 hf
  have s4 : zq_C12 c0 n ((g_bracketed_joined_single_12 (j + 2)).1 4 o) _ := zq_joined12 A (k := 4) (by omega) (by decide) s5
  have s3 : zq_C12 c0 n ((g_bracketed_joined_single_12 (j + 3)).1 3 o) _ := zq_joined12 A (k := 3) (by omega) (by decide) s4
  have s2 : zq_C12 c0 n ((g_bracketed_joined_single_12 (j + 4)).1 2 o) _ := zq_joined12 A (k := 2) (by omega) (by decide) s3
  have s1 : zq_C12 c0 n ((g_bracketed_joined_single_12 (j + 5)).1 1 o) _ := zq_joined12 A (k := 1) (by omega) (by decide) s2
  exact zq_joined12 A (k := 0) (by omega) (by decide) s1
theorem zq_S12 {c0 : zx_M} {b : Nat → Int32} {n : Nat} (A : zq_AC12 c0 b n) : ∀ (k j : Nat), k ≤ 6 → 8 * k + 1 ≤ j → zq_C12 c0 n ((g_bracketed_joined_single_12 j).2.1 (Int32.ofNat (6 - k))) (zq_S (zq_nx b n) k) := by
  intro k
  induction k with
  | zero =>
    intro j h1 h2
    obtain ⟨j1, rfl⟩ : ∃ j1, j = j1 + 1 := ⟨j - 1, by omega⟩
    exact zq_single12 A (o := 6) (by omega) rfl (fun h => absurd h (by omega)) (fun h => absurd h (by omega))
  | succ k ih =>
    intro j h1 h2
    obtain ⟨j1, rfl⟩ : ∃ j1, j = j1 + 1 + 6 + 1 + 1 := ⟨j - 9, by omega⟩
    have e : 6 - (k + 1) + 1 = 6 - k := by omega
    refine zq_single12 A (o := 6 - (k + 1)) (by omega) (by symm; exact decide_eq_true (by omega)) (fun _ => ?_) (fun _ => ?_)
    · rw [e]
      exact zq_br12 A (zq_E12 A (ih (j1 + 1) (by omega) (by omega)))
    · rw [e]
      exact ih (j1 + 1 + 6 + 1) (by omega) (by omega)
theorem zq_E6412 {c0 : zx_M} {b : Nat → Int32} {n : Nat} (A : zq_AC12 c0 b n) : zq_C12 c0 n ((g_bracketed_joined_single_12 64).1 0 0) (zq_E (zq_nx b n) (zq_S (zq_nx b n) 6)) := zq_E12 A (j := 58) (zq_S12 A 6 58 (by omega) (by omega))
theorem zq_line12 {c0 : zx_M} {b : Nat → Int32} {n : Nat} (A : zq_AC12 c0 b n) {c : zx_M} {p : Nat} {st : Bool} (P : zq_PC12 c0 c n p st) {v1 v2 v3 : Int32} (h : ¬ 120 < v3) : ∃ c', b_Text_read_12_l16 v1 v2 v3 c = n_Text_read_12_b16_72 v1 v2 v3 ((zq_line (zq_nx b n) p st).2.1 (c0.1 14)) ((zq_line (zq_nx b n) p st).1 (c0.1 14)) c' ∧ zq_PC12 c0 c' n (zq_line (zq_nx b n) p st).2.2.1 (zq_line (zq_nx b n) p st).2.2.2 := by
  obtain ⟨c1, e1, P1⟩ := zq_E6412 A c p st P
  have e2 := zq_next12 A P1
  unfold b_Text_read_12_l16 n_Text_read_12_b16_62 zq_line
  generalize hE : zq_E (zq_nx b n) (zq_S (zq_nx b n) 6) = E at *
  simp only [if_neg h, e1, zm_bs, e2, zm_let]
  by_cases q : zq_nx b n (E p st).2.1 (E p st).2.2 = 63
  · have q' : ¬ ¬ zq_nx b n (E p st).2.1 (E p st).2.2 = 63 := fun h => h q
    have q0 : ¬ zq_nx b n (E p st).2.1 (E p st).2.2 = -1 := by grind
    have hE2 := zq_E6412 A
    rw [hE] at hE2
    obtain ⟨c2, e3, P2⟩ := hE2 _ _ _ (zq_step12 P1 (zq_nx_on q0).1)
    simp only [if_neg q', if_pos q, e3, zm_bs]
    refine ⟨c2, ?_, P2⟩
    by_cases w : (E p st).1 (c0.1 14) = 0
    · simp only [if_pos w]
    · simp only [if_neg w]
  · simp only [if_pos q, if_neg q]
    exact ⟨c1, rfl, P1⟩
theorem zq_lines12 {c0 : zx_M} {b : Nat → Int32} {n : Nat} (A : zq_AC12 c0 b n) : ∀ (j i : Nat), i + j = 121 → ∀ (s w : (Nat → Int32) → Int32) (c : zx_M) (p : Nat) (st : Bool), zq_PC12 c0 c n p st → ∀ N, j + 1 ≤ N → ∃ c' t, zx_lp N (fun s : Int32 × Int32 × Int32 × zx_M => b_Text_read_12_l16 s.1 s.2.1 s.2.2.1 s.2.2.2) (s (c0.1 14), w (c0.1 14), Int32.ofNat i, c) = some t ∧ (t = .inl ((zq_lines (zq_nx b n) j s w p st).1 (c0.1 14), c') ∨ t = .inr ((zq_lines (zq_nx b n) j s w p st).1 (c0.1 14), c')) ∧ zq_PC12 c0 c' n (zq_lines (zq_nx b n) j s w p st).2.1 (zq_lines (zq_nx b n) j s w p st).2.2 := by
  intro j
  induction j with
  | zero =>
    intro i hi s w c p st P N hN
    obtain ⟨N1, rfl⟩ : ∃ N1, N = N1 + 1 := ⟨N - 1, by omega⟩
    have g1 : (120 : Int32) < Int32.ofNat i := by grind [zm_g]
    refine ⟨c, .inr (w (c0.1 14), c), ?_, Or.inr rfl, P⟩
    unfold zx_lp b_Text_read_12_l16
    simp only [if_pos g1]
  | succ j ih =>
    intro i hi s w c p st P N hN
    obtain ⟨N1, rfl⟩ : ∃ N1, N = N1 + 1 := ⟨N - 1, by omega⟩
    have g1 : ¬ (120 : Int32) < Int32.ofNat i := by grind [zm_g]
    have a1 : Int32.ofNat i + 1 = Int32.ofNat (i + 1) := by simp
    obtain ⟨c1, e1, P1⟩ := zq_line12 A P (v1 := s (c0.1 14)) (v2 := w (c0.1 14)) g1
    have e2 := zq_next12 A P1
    have h72 : n_Text_read_12_b16_72 (s (c0.1 14)) (w (c0.1 14)) (Int32.ofNat i) ((zq_line (zq_nx b n) p st).2.1 (c0.1 14)) ((zq_line (zq_nx b n) p st).1 (c0.1 14)) c1 = n_Text_read_12_b16_86 (if ¬ (zq_line (zq_nx b n) p st).1 (c0.1 14) = 0 ∧ s (c0.1 14) = 0 then 1 else s (c0.1 14)) (if ¬ (zq_line (zq_nx b n) p st).1 (c0.1 14) = 0 ∧ s (c0.1 14) = 0 then (zq_line (zq_nx b n) p st).2.1 (c0.1 14) else w (c0.1 14)) (Int32.ofNat i) c1 := by
      unfold n_Text_read_12_b16_72
      by_cases x1 : (zq_line (zq_nx b n) p st).1 (c0.1 14) = 0
      · have x2 : ¬ (¬ (zq_line (zq_nx b n) p st).1 (c0.1 14) = 0 ∧ s (c0.1 14) = 0) := fun h => h.1 x1
        simp only [if_pos x1, if_neg x2]
      · by_cases x3 : s (c0.1 14) = 0
        · have x3' : ¬ ¬ s (c0.1 14) = 0 := fun h => h x3
          simp only [if_neg x1, if_neg x3', if_pos (And.intro x1 x3)]
        · have x2 : ¬ (¬ (zq_line (zq_nx b n) p st).1 (c0.1 14) = 0 ∧ s (c0.1 14) = 0) := fun h => x3 h.2
          simp only [if_neg x1, if_pos x3, if_neg x2]
    by_cases q : zq_nx b n (zq_line (zq_nx b n) p st).2.2.1 (zq_line (zq_nx b n) p st).2.2.2 = 59
    · have q0 : ¬ zq_nx b n (zq_line (zq_nx b n) p st).2.2.1 (zq_line (zq_nx b n) p st).2.2.2 = -1 := by grind
      obtain ⟨c2, t, e3, ht, P2⟩ := ih (i + 1) (by omega) (fun e => if ¬ (zq_line (zq_nx b n) p st).1 e = 0 ∧ s e = 0 then 1 else s e) (fun e => if ¬ (zq_line (zq_nx b n) p st).1 e = 0 ∧ s e = 0 then (zq_line (zq_nx b n) p st).2.1 e else w e) _ _ _ (zq_step12 P1 (zq_nx_on q0).1) N1 (by omega)
      refine ⟨c2, t, ?_, ?_, ?_⟩
      · unfold zx_lp
        simp only [e1, h72]
        unfold n_Text_read_12_b16_86
        simp only [e2, zm_bs, if_pos q, zm_let, a1]
        exact e3
      · unfold zq_lines
        simp only [if_pos q]
        exact ht
      · unfold zq_lines
        simp only [if_pos q]
        exact P2
    · refine ⟨c1, .inl (if ¬ (zq_line (zq_nx b n) p st).1 (c0.1 14) = 0 ∧ s (c0.1 14) = 0 then (zq_line (zq_nx b n) p st).2.1 (c0.1 14) else w (c0.1 14), c1), ?_, Or.inl ?_, ?_⟩
      · unfold zx_lp
        simp only [e1, h72]
        unfold n_Text_read_12_b16_86
        simp only [e2, zm_bs, if_neg q]
      · unfold zq_lines
        simp only [if_neg q]
      · unfold zq_lines
        simp only [if_neg q]
        exact P1
theorem zq_end12 {c0 c1 : zx_M} {n p : Nat} {st : Bool} (hn : n ≤ 120) (P1 : zq_PC12 c0 c1 n p st) (v : Int32) : ∃ c', n_Text_read_12_n114 v c1 = some (v, c') ∧ zq_PC12 c0 c' n p (st || decide (p < n)) := by
  obtain ⟨p1, p2, p3, p4, p5, p6⟩ := id P1
  have k : ∀ x : Bool, zq_PC12 c0 (zx_u1 c1 12 4 (if x then 1 else 0)) n p x := by
    intro x
    refine ⟨p1, p2, fun r hr => ?_, ?_, ?_, ?_⟩
    · rw [zm_u11, if_neg hr]; exact p3 r hr
    · simpa [zm_u11, zm_upd] using p4
    · simpa [zm_u11, zm_upd] using p5
    · simp [zm_u11, zm_upd]
  unfold n_Text_read_12_n114 n_Text_read_12_n133 n_Text_read_12_n138
  rw [p4, p5, p6]
  have z1 : ¬ ((1 : Int32) = 0) := by decide
  cases st
  · by_cases g : p < n
    · have g1 : ¬ Int32.ofNat n ≤ Int32.ofNat p := by grind [zm_g]
      have gd : (false || decide (p < n)) = true := by simp [g]
      rw [gd]
      simp only [Bool.false_eq_true, ↓reduceIte, not_true_eq_false, if_neg g1, if_neg z1, zm_let, or_true]
      exact ⟨_, rfl, k true⟩
    · have g1 : Int32.ofNat n ≤ Int32.ofNat p := by grind [zm_g]
      have gd : (false || decide (p < n)) = false := by simp [g]
      rw [gd]
      simp only [Bool.false_eq_true, ↓reduceIte, not_true_eq_false, if_pos g1, zm_let, true_or]
      exact ⟨_, rfl, k false⟩
  · simp only [↓reduceIte, if_pos z1, zm_let, or_true, Bool.true_or]
    exact ⟨_, rfl, k true⟩
theorem zq_read12 {c0 : zx_M} {b : Nat → Int32} {n : Nat} (A : zq_AC12 c0 b n) (h : c0.1 12 2 = Int32.ofNat n) : ∃ c', f_Text_read_12 c0 = some ((zq_all b n).1 (c0.1 14), c') ∧ zq_PC12 c0 c' n (zq_all b n).2.1 (zq_all b n).2.2 := by
  have P0 : zq_PC12 c0 (zx_u1 (zx_u1 c0 12 3 0) 12 4 0) n 0 false := by
    refine ⟨by omega, rfl, fun r hr => ?_, ?_, ?_, ?_⟩
    · rw [zm_u11, if_neg hr, zm_u11, if_neg hr]
    · simp [zm_u11, zm_upd, h]
    · simp [zm_u11, zm_upd]
    · simp [zm_u11, zm_upd]
  obtain ⟨c1, t, e1, ht, P1⟩ := zq_lines12 A 121 0 rfl (fun _ => 0) (fun _ => 0) _ 0 false P0 zx_N (by decide +kernel)
  rw [zq_L_eq] at ht P1
  obtain ⟨c2, f1, f2⟩ := zq_end12 A.1.1 P1 ((zq_L b n).1 (c0.1 14))
  rw [zq_all1, zq_all2, zq_all3]
  generalize zq_L b n = L at *
  refine ⟨c2, ?_, f2⟩
  have e1' : l_Text_read_12_l16 (0, 0, 0, zx_u1 (zx_u1 c0 12 3 0) 12 4 0) = some t := e1
  unfold f_Text_read_12
  simp only [zm_let, e1', zm_bs]
  rcases ht with rfl | rfl
  · exact f1
  · exact f1
