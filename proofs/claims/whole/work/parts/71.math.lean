/-! the best order -/
def zk_G (fr to wi sp wy : Int32) (cr : Nat → Int32) (cnt spot : Int32) (J : Nat) (s : List Nat) : Int32 := Int32.ofNat (zj_good J fr to wi (fun k => cnt * Int32.ofNat k) (fun k => spot + zo_yd sp wy cr (fun k => s.getD k 0) (fun k => cnt * Int32.ofNat k) k))
def zk_step (G : List Nat → Int32) (σ : Int32 × List Nat) (s : List Nat) : Int32 × List Nat := if G s ≤ σ.1 then σ else (G s, s)
theorem zk_ge {G : List Nat → Int32} (hG : ∀ s, 0 ≤ G s) : ∀ (l : List (List Nat)) (σ : Int32 × List Nat), (0 ≤ σ.1 ∨ (σ.1 = -1 ∧ ¬ l = [])) → 0 ≤ (l.foldl (zk_step G) σ).1 := by
  intro l
  induction l with
  | nil =>
    intro σ h
    rcases h with h | ⟨-, h⟩
    · exact h
    · exact absurd rfl h
  | cons s l ih =>
    intro σ h
    rw [List.foldl_cons]
    refine ih _ (Or.inl ?_)
    unfold zk_step
    by_cases e : G s ≤ σ.1
    · rw [if_pos e]
      rcases h with h | ⟨h, -⟩
      · exact h
      · rw [h] at e
        have := hG s
        exfalso
        grind
    · rw [if_neg e]; exact hG s
theorem zk_Tne : ∀ J < 6, ¬ zc_T J J [] = [] := by decide +kernel
theorem zk_getA {pre : List Nat} {j i : Nat} : (pre ++ [j]).getD i 0 = if i < pre.length then pre.getD i 0 else if i = pre.length then j else 0 := by
  rw [List.getD_eq_getElem?_getD, List.getElem?_append]
  by_cases h : i < pre.length
  · rw [if_pos h, if_pos h, ← List.getD_eq_getElem?_getD]
  · rw [if_neg h, if_neg h]
    by_cases e : i = pre.length
    · rw [if_pos e, e, Nat.sub_self]
      rfl
    · rw [if_neg e]
      have : ¬ i - pre.length = 0 := by omega
      obtain ⟨q, hq⟩ : ∃ q, i - pre.length = q + 1 := ⟨i - pre.length - 1, by omega⟩
      rw [hq]
      rfl
def zk_fr (m m' : zx_M) : Prop := m'.2 = m.2 ∧ (∀ r, ¬ r = 0 → ¬ r = 8 → ¬ r = 10 → ¬ r = 12 → m'.1 r = m.1 r) ∧ ∀ q, ¬ q = 24 → m'.1 0 q = m.1 0 q
theorem zk_fr_refl (m : zx_M) : zk_fr m m := ⟨rfl, fun _ _ _ _ _ => rfl, fun _ _ => rfl⟩
theorem zk_fr_trans {a b c : zx_M} (h1 : zk_fr a b) (h2 : zk_fr b c) : zk_fr a c := ⟨h2.1.trans h1.1, fun r q1 q2 q3 q4 => (h2.2.1 r q1 q2 q3 q4).trans (h1.2.1 r q1 q2 q3 q4), fun k k1 => (h2.2.2 k k1).trans (h1.2.2 k k1)⟩
def zk_rel (J : Nat) (m : zx_M) (σ : Int32 × List Nat) : Prop := m.1 0 24 = σ.1 ∧ (σ.1 = -1 ∨ ∀ k < J, m.1 12 k = Int32.ofNat (σ.2.getD k 0))
/-- the reference's numbers, of a memory -/
def zk_Gm (m : zx_M) (cnt spot : Int32) (J : Nat) : List Nat → Int32 := zk_G (m.1 1 28) (m.1 1 29) (m.1 1 30) (m.1 1 31) (m.1 0 21) (m.1 11) cnt spot J
theorem zk_Gfr {m m' : zx_M} (F : zk_fr m m') (cnt spot : Int32) (J : Nat) : zk_Gm m' cnt spot J = zk_Gm m cnt spot J := by
  unfold zk_Gm
  rw [F.2.1 1 (by omega) (by omega) (by omega) (by omega), F.2.1 11 (by omega) (by omega) (by omega) (by omega), F.2.2 21 (by omega)]
theorem zk_copy {g : GT_ordersOn_m} {m : zx_M} {J : Nat} (hJ : J ≤ 7) (h6 : m.1 0 6 = Int32.ofNat J) : ∃ m', l_M_ordersOn_l33 g (0, m) = some m' ∧ m'.2 = m.2 ∧ (∀ r, ¬ r = 12 → m'.1 r = m.1 r) ∧ ∀ k < J, m'.1 12 k = m.1 8 k := by
  unfold l_M_ordersOn_l33
  refine zm_lp1 (fun s : Int32 × zx_M => zm_up (Int32.ofNat J) s.1) (fun s => ∃ k, k ≤ J ∧ s.1 = Int32.ofNat k ∧ s.2.2 = m.2 ∧ (∀ r, ¬ r = 12 → s.2.1 r = m.1 r) ∧ ∀ i < k, s.2.1 12 i = m.1 8 i) _ ?_ zx_N _ ⟨0, by omega, rfl, rfl, fun _ _ => rfl, fun i hi => absurd hi (by omega)⟩ (zm_upN (by decide : (-30000 : Int32) ≤ 0) (by grind [zm_g]))
  rintro ⟨i, x⟩ ⟨k, h1, h2, h3, h4, h5⟩
  dsimp only at h2 h3 h4 h5 ⊢
  subst h2
  have hx : x.1 0 6 = Int32.ofNat J := by rw [h4 0 (by omega)]; exact h6
  unfold b_M_ordersOn_l33
  rw [hx]
  by_cases e : k = J
  · right
    subst e
    simp only [if_pos (Int32.le_refl _)]
    exact ⟨_, rfl, h3, h4, h5⟩
  · left
    have g1 : ¬ Int32.ofNat J ≤ Int32.ofNat k := by grind [zm_g]
    simp only [if_neg g1, zm_ix (show k < 7 by omega) (by omega), zm_bs, zm_let]
    refine ⟨_, rfl, ⟨k + 1, by omega, by simp, h3, fun r r12 => ?_, fun j hj => ?_⟩, zm_up1 (by grind [zm_g])⟩
    · rw [zm_u11, if_neg r12]; exact h4 r r12
    · rw [zm_u11, if_pos rfl, zm_upd]
      by_cases y : j = k
      · rw [if_pos y, y, h4 8 (by omega)]
      · rw [if_neg y]; exact h5 j (by omega)
theorem zk_dfs {J : Nat} (hJ : J ≤ 7) {cnt spot : Int32} : ∀ (n k f : Nat), k + n = J → n + 1 ≤ f → ∀ (pre : List Nat) (S : Nat) (m : zx_M) (σ : Int32 × List Nat), pre.length = k → (∀ i < k, pre.getD i 0 < J) → S < 128 → (∀ q < 7, Nat.testBit S q = pre.contains q) → m.1 0 6 = Int32.ofNat J → m.1 0 20 = Int32.ofNat J → (∀ i < J, m.1 9 i = cnt * Int32.ofNat i) → (∀ i < k, m.1 8 i = Int32.ofNat (pre.getD i 0)) → zk_rel J m σ → ∃ m', g_ordersOn_m f (Int32.ofNat k) (Int32.ofNat S) spot m = some m' ∧ zk_fr m m' ∧ (∀ i < k, m'.1 8 i = m.1 8 i) ∧ zk_rel J m' ((zc_T J n pre).foldl (zk_step (zk_Gm m cnt spot J)) σ) := by
  intro n
  induction n with
  | zero =>
    intro k f hk hf pre S m σ hl hp hS hb h6 h20 h9 h8 hR
    obtain ⟨f1, rfl⟩ : ∃ f1, f = f1 + 1 := ⟨f - 1, by omega⟩
    have e : k = J := by omega
    subst e
    show ∃ m', F_M_ordersOn (g_ordersOn_m f1) (Int32.ofNat k) (Int32.ofNat S) spot m = some m' ∧ _
    have Rm : zo_Rm m k k (fun i => pre.getD i 0) := ⟨hJ, hJ, h20, fun i hi => ⟨hp i hi, h8 i hi⟩⟩
    obtain ⟨m1, e1, e2, e3⟩ := zo_goodFrom Rm spot
    have hG : Int32.ofNat (zj_good k (m.1 1 28) (m.1 1 29) (m.1 1 30) (m.1 9) (fun i => spot + zo_yd (m.1 1 31) (m.1 0 21) (m.1 11) (fun i => pre.getD i 0) (m.1 9) i)) = zk_Gm m cnt spot k pre := by
      unfold zk_Gm zk_G
      congr 1
      refine zj_good_congr h9 (fun i hi => ?_)
      congr 1
      exact zo_ydc (h9 i hi)
    rw [hG] at e1
    have n1 : ¬ ¬ Int32.ofNat k = m.1 0 6 := fun h => h h6.symm
    have m124 : m1.1 0 24 = σ.1 := by rw [e3]; exact hR.1
    have fold : (zc_T k 0 pre).foldl (zk_step (zk_Gm m cnt spot k)) σ = zk_step (zk_Gm m cnt spot k) σ pre := rfl
    rw [fold]
    unfold F_M_ordersOn zk_step
    simp only [if_neg n1, e1, zm_bs, m124, zm_let]
    by_cases q : zk_Gm m cnt spot k pre ≤ σ.1
    · simp only [if_pos q]
      refine ⟨m1, rfl, ⟨e2.1, fun r r0 _ r10 _ => e2.2.1 r r0 r10, fun q _ => by rw [e3]⟩, fun i hi => by rw [e2.2.1 8 (by omega) (by omega)], m124, ?_⟩
      rcases hR.2 with h | h
      · exact Or.inl h
      · exact Or.inr (fun i hi => by rw [e2.2.1 12 (by omega) (by omega)]; exact h i hi)
    · obtain ⟨m3, c1, c2, c3, c4⟩ := zk_copy (g := g_ordersOn_m f1) (m := zx_u1 m1 0 24 (zk_Gm m cnt spot k pre)) hJ (by rw [zm_u11, if_pos rfl, zm_upd, if_neg (by omega), e3]; exact h6)
      simp only [if_neg q, c1, zm_bs]
      refine ⟨m3, rfl, ⟨by rw [c2, zm_u12]; exact e2.1, fun r r0 r8 r10 r12 => ?_, fun q hq => ?_⟩, fun i hi => ?_, ?_, Or.inr (fun i hi => ?_)⟩
      · rw [c3 r r12, zm_u11, if_neg r0]; exact e2.2.1 r r0 r10
      · rw [c3 0 (by omega), zm_u11, if_pos rfl, zm_upd, if_neg hq, e3]
      · rw [c3 8 (by omega), zm_u11, if_neg (by omega), e2.2.1 8 (by omega) (by omega)]
      · rw [c3 0 (by omega), zm_u11, if_pos rfl, zm_upd, if_pos rfl]
      · rw [c4 i hi, zm_u11, if_neg (by omega), e2.2.1 8 (by omega) (by omega)]; exact h8 i hi
  | succ n ih =>
    intro k f hk hf pre S m σ hl hp hS hb h6 h20 h9 h8 hR
    obtain ⟨f1, rfl⟩ : ∃ f1, f = f1 + 1 := ⟨f - 1, by omega⟩
    have hk7 : k < 7 := by omega
    have n1 : ¬ Int32.ofNat k = m.1 0 6 := by rw [h6]; grind [zm_g]
    have key : ∀ (i j : Nat), j + i = J → ∀ (x : zx_M), zk_fr m x → (∀ i < k, x.1 8 i = m.1 8 i) → zk_rel J x (((List.range j).flatMap (fun j => if pre.contains j then [] else zc_T J n (pre ++ [j]))).foldl (zk_step (zk_Gm m cnt spot J)) σ) → ∀ N, i + 1 ≤ N → ∃ m', zx_lp N (fun s : Int32 × zx_M => b_M_ordersOn_l66 (g_ordersOn_m f1) (Int32.ofNat k) (Int32.ofNat S) spot s.1 s.2) (Int32.ofNat j, x) = some m' ∧ zk_fr m m' ∧ (∀ i < k, m'.1 8 i = m.1 8 i) ∧ zk_rel J m' ((zc_T J (n + 1) pre).foldl (zk_step (zk_Gm m cnt spot J)) σ) := by
      intro i
      induction i with
      | zero =>
        intro j hj x F x8 R N hN
        obtain ⟨N1, rfl⟩ : ∃ N1, N = N1 + 1 := ⟨N - 1, by omega⟩
        have e : j = J := by omega
        subst e
        refine ⟨x, zj_lpE ?_, F, x8, R⟩
        show b_M_ordersOn_l66 (g_ordersOn_m f1) (Int32.ofNat k) (Int32.ofNat S) spot (Int32.ofNat j) x = _
        unfold b_M_ordersOn_l66
        rw [F.2.2 6 (by omega), h6, if_pos (Int32.le_refl _)]
      | succ i ih2 =>
        intro j hj x F x8 R N hN
        obtain ⟨N1, rfl⟩ : ∃ N1, N = N1 + 1 := ⟨N - 1, by omega⟩
        have hj7 : j < 7 := by omega
        have g1 : ¬ Int32.ofNat J ≤ Int32.ofNat j := by grind [zm_g]
        have a1 : Int32.ofNat j + 1 = Int32.ofNat (j + 1) := by simp
        have a2 : Int32.ofNat k + 1 = Int32.ofNat (k + 1) := by simp
        have x6 : x.1 0 6 = Int32.ofNat J := by rw [F.2.2 6 (by omega)]; exact h6
        have rng : ∀ (fn : Nat → List (List Nat)), (List.range (j + 1)).flatMap fn = (List.range j).flatMap fn ++ fn j := by
          intro fn
          rw [List.range_succ, List.flatMap_append]
          congr 1
          simp
        cases hc : pre.contains j
        · -- one more who may go here
          have tb : Nat.testBit S j = false := by rw [hb j hj7]; exact hc
          obtain ⟨-, b2, b3⟩ := zo_bit S hS j hj7
          have F1 : zk_fr m (zx_u1 x 8 k (Int32.ofNat j)) := ⟨by rw [zm_u12]; exact F.1, fun r r0 r8 r10 r12 => by rw [zm_u11, if_neg r8]; exact F.2.1 r r0 r8 r10 r12, fun q hq => by rw [zm_u11, if_neg (by omega)]; exact F.2.2 q hq⟩
          have R1 : zk_rel J (zx_u1 x 8 k (Int32.ofNat j)) (((List.range j).flatMap (fun j => if pre.contains j then [] else zc_T J n (pre ++ [j]))).foldl (zk_step (zk_Gm m cnt spot J)) σ) := by
            refine ⟨by rw [zm_u11, if_neg (by omega)]; exact R.1, ?_⟩
            rw [zm_u11, if_neg (by omega)]
            exact R.2
          obtain ⟨m2, r1, r2, r3, r4⟩ := ih (k + 1) f1 (by omega) (by omega) (pre ++ [j]) (S ||| 2 ^ j) (zx_u1 x 8 k (Int32.ofNat j)) _ (by simp [hl]) (fun i hi => by
            rw [zk_getA, hl]
            by_cases y : i < k
            · rw [if_pos y]; exact hp i y
            · rw [if_neg y, if_pos (by omega)]; omega) b3 (fun q hq => by
            rw [Nat.testBit_or, hb q hq, Nat.testBit_two_pow]
            by_cases y : j = q
            · subst y; simp
            · have y' : ¬ q = j := fun h => y h.symm
              simp [y, y']) (by rw [zm_u11, if_neg (by omega)]; exact x6) (by rw [F1.2.2 20 (by omega)]; exact h20) (fun i hi => by rw [F1.2.1 9 (by omega) (by omega) (by omega) (by omega)]; exact h9 i hi) (fun i hi => by
            rw [zm_u11, if_pos rfl, zm_upd, zk_getA, hl]
            by_cases y : i = k
            · rw [if_pos y, if_neg (by omega), if_pos y]
            · rw [if_neg y, if_pos (by omega), x8 i (by omega)]; exact h8 i (by omega)) R1
          rw [zk_Gfr F1] at r4
          have hb2 : b_M_ordersOn_l66 (g_ordersOn_m f1) (Int32.ofNat k) (Int32.ofNat S) spot (Int32.ofNat j) x = some (.inl (Int32.ofNat (j + 1), m2)) := by
            have z2 : ¬ ¬ ((0 : Int32) = 0) := fun h => h rfl
            have zi : (if Nat.testBit S j = true then (1 : Int32) else 0) = 0 := by rw [tb]; rfl
            unfold b_M_ordersOn_l66 n_M_ordersOn_b66_106
            simp only [x6, if_neg g1, zo_isIn hS hj7, zm_bs, zi, not_true_eq_false, ↓reduceIte, zm_ix hk7 (by omega), zm_let, a2, b2, r1, a1]
          obtain ⟨m', y1, y2⟩ := ih2 (j + 1) (by omega) m2 (zk_fr_trans F1 r2) (fun i hi => by
            rw [r3 i (by omega), zm_u11, if_pos rfl, zm_upd, if_neg (by omega)]; exact x8 i hi) (by
            rw [rng, List.foldl_append]
            have hcj : ¬ (pre.contains j = true) := by rw [hc]; decide
            rw [if_neg hcj]
            exact r4) N1 (by omega)
          refine ⟨m', ?_, y2⟩
          rw [zj_lpS (show (fun s : Int32 × zx_M => b_M_ordersOn_l66 (g_ordersOn_m f1) (Int32.ofNat k) (Int32.ofNat S) spot s.1 s.2) (Int32.ofNat j, x) = _ from hb2)]
          exact y1
        · have tb : Nat.testBit S j = true := by rw [hb j hj7]; exact hc
          have hb2 : b_M_ordersOn_l66 (g_ordersOn_m f1) (Int32.ofNat k) (Int32.ofNat S) spot (Int32.ofNat j) x = some (.inl (Int32.ofNat (j + 1), x)) := by
            have z1 : ¬ ((1 : Int32) = 0) := by decide
            have zi : (if Nat.testBit S j = true then (1 : Int32) else 0) = 1 := by rw [tb]; rfl
            unfold b_M_ordersOn_l66 n_M_ordersOn_b66_106
            simp only [x6, if_neg g1, zo_isIn hS hj7, zm_bs, zi, if_pos z1, zm_let, a1]
          obtain ⟨m', y1, y2⟩ := ih2 (j + 1) (by omega) x F x8 (by
            rw [rng, List.foldl_append, if_pos hc]
            exact R) N1 (by omega)
          refine ⟨m', ?_, y2⟩
          rw [zj_lpS (show (fun s : Int32 × zx_M => b_M_ordersOn_l66 (g_ordersOn_m f1) (Int32.ofNat k) (Int32.ofNat S) spot s.1 s.2) (Int32.ofNat j, x) = _ from hb2)]
          exact y1
    obtain ⟨m', y1, y2⟩ := key J 0 (by omega) m (zk_fr_refl m) (fun _ _ => rfl) hR zx_N (by have : zx_N = 100000 := rfl; omega)
    have y1' : l_M_ordersOn_l66 (g_ordersOn_m f1) (Int32.ofNat k) (Int32.ofNat S) spot (0, m) = some m' := y1
    refine ⟨m', ?_, y2⟩
    show F_M_ordersOn (g_ordersOn_m f1) (Int32.ofNat k) (Int32.ofNat S) spot m = some m'
    unfold F_M_ordersOn
    simp only [if_pos n1, y1', zm_bs, zm_let]
