/-! which -/
def zw_dig (s : List Nat) : Nat → Int32
  | 0 => 0
  | k + 1 => zw_dig s k * 10 + Int32.ofNat (s.getD k 0)
theorem zw_dig_congr {s s' : List Nat} : ∀ k : Nat, (∀ i < k, s.getD i 0 = s'.getD i 0) → zw_dig s k = zw_dig s' k := by
  intro k
  induction k with
  | zero => intro _; rfl
  | succ k ih =>
    intro h
    show zw_dig s k * 10 + _ = zw_dig s' k * 10 + _
    rw [ih (fun i hi => h i (by omega)), h k (by omega)]
/-- whether all come down where it was seen -/
def zw_M (y : Nat → Nat → Bool) (L : Nat) (s : List Nat) : Bool := (List.range L).all (fun k => y k (s.getD k 0))
theorem zw_ME {y : Nat → Nat → Bool} {L : Nat} {s : List Nat} : zw_M y L s = true ↔ ∀ k < L, y k (s.getD k 0) = true := by
  unfold zw_M
  rw [List.all_eq_true]
  exact ⟨fun h k hk => h k (List.mem_range.mpr hk), fun h k hk => h k (List.mem_range.mp hk)⟩
def zw_step (y : Nat → Nat → Bool) (L : Nat) (σ : Int32 × Int32) (s : List Nat) : Int32 × Int32 := if zw_M y L s = true then (σ.1 + 1, if σ.1 = 0 then zw_dig s L else σ.2) else σ
theorem zw_none {y : Nat → Nat → Bool} {L : Nat} : ∀ (l : List (List Nat)) (σ : Int32 × Int32), (∀ s ∈ l, zw_M y L s = false) → l.foldl (zw_step y L) σ = σ := by
  intro l
  induction l with
  | nil => intro σ _; rfl
  | cons s l ih =>
    intro σ h
    rw [List.foldl_cons]
    have : zw_step y L σ s = σ := by
      unfold zw_step
      rw [h s List.mem_cons_self]
      rfl
    rw [this]
    exact ih σ (fun s' hs => h s' (List.mem_cons_of_mem _ hs))
theorem zw_pre {J : Nat} : ∀ (n : Nat) (pre : List Nat), ∀ s ∈ zc_T J n pre, ∀ i < pre.length, s.getD i 0 = pre.getD i 0 := by
  intro n
  induction n with
  | zero =>
    intro pre s hs i hi
    have : s = pre := by
      have hs' : s ∈ [pre] := hs
      exact List.mem_singleton.mp hs'
    rw [this]
  | succ n ih =>
    intro pre s hs i hi
    have hs' : s ∈ (List.range J).flatMap (fun j => if pre.contains j then [] else zc_T J n (pre ++ [j])) := hs
    rw [List.mem_flatMap] at hs'
    obtain ⟨j, -, h⟩ := hs'
    by_cases e : pre.contains j = true
    · rw [if_pos e] at h
      exact absurd h List.not_mem_nil
    · rw [if_neg e] at h
      rw [ih (pre ++ [j]) s h i (by simp; omega), zk_getA, if_pos hi]
def zw_fr (m m' : zx_M) : Prop := m'.2 = m.2 ∧ (∀ r, ¬ r = 0 → m'.1 r = m.1 r) ∧ ∀ q, ¬ q = 26 → ¬ q = 27 → m'.1 0 q = m.1 0 q
theorem zw_fr_trans {a b c : zx_M} (h1 : zw_fr a b) (h2 : zw_fr b c) : zw_fr a c := ⟨h2.1.trans h1.1, fun r q => (h2.2.1 r q).trans (h1.2.1 r q), fun k k1 k2 => (h2.2.2 k k1 k2).trans (h1.2.2 k k1 k2)⟩
/-- whether one comes down so, at a place -/
def zw_y (m : zx_M) (e : Nat) (cnt spot : Int32) (k j : Nat) : Bool := decide ((spot + (zo_ah (m.1 1 31) (m.1 0 21) (cnt * Int32.ofNat k) + m.1 11 j)).toInt64 = m.2 21 (60 * e + k))
theorem zw_yfr {m m' : zx_M} (F : zw_fr m m') (e : Nat) (cnt spot : Int32) : zw_y m' e cnt spot = zw_y m e cnt spot := by
  unfold zw_y
  rw [F.2.1 1 (by omega), F.2.1 11 (by omega), F.2.2 21 (by omega) (by omega), F.1]
theorem zw_dfs {J L e : Nat} (hJ : J ≤ 7) (hL : L ≤ 4) (he : e < 6) {cnt spot : Int32} : ∀ (n k f : Nat), k + n = L → n + 1 ≤ f → ∀ (pre : List Nat) (S : Nat) (m : zx_M) (σ : Int32 × Int32), pre.length = k → (∀ i < k, zw_y m e cnt spot i (pre.getD i 0) = true) → S < 128 → (∀ q < 7, Nat.testBit S q = pre.contains q) → m.1 0 6 = Int32.ofNat J → m.1 0 20 = Int32.ofNat L → (∀ i < L, m.1 9 i = cnt * Int32.ofNat i) → m.1 0 26 = σ.1 → m.1 0 27 = σ.2 → ∃ m', g_waysOn_m f (Int32.ofNat e) (Int32.ofNat k) (Int32.ofNat S) spot (zw_dig pre k) m = some m' ∧ zw_fr m m' ∧ m'.1 0 26 = ((zc_T J n pre).foldl (zw_step (zw_y m e cnt spot) L) σ).1 ∧ m'.1 0 27 = ((zc_T J n pre).foldl (zw_step (zw_y m e cnt spot) L) σ).2 := by
  intro n
  induction n with
  | zero =>
    intro k f hk hf pre S m σ hl hp hS hb h6 h20 h9 h26 h27
    obtain ⟨f1, rfl⟩ : ∃ f1, f = f1 + 1 := ⟨f - 1, by omega⟩
    have ek : k = L := by omega
    subst ek
    have fold : (zc_T J 0 pre).foldl (zw_step (zw_y m e cnt spot) k) σ = (σ.1 + 1, if σ.1 = 0 then zw_dig pre k else σ.2) := by
      show zw_step (zw_y m e cnt spot) k σ pre = _
      unfold zw_step
      rw [if_pos (zw_ME.mpr hp)]
    rw [fold]
    have n1 : ¬ ¬ Int32.ofNat k = m.1 0 20 := fun h => h h20.symm
    show ∃ m', F_M_waysOn (g_waysOn_m f1) (Int32.ofNat e) (Int32.ofNat k) (Int32.ofNat S) spot (zw_dig pre k) m = some m' ∧ _
    unfold F_M_waysOn n_M_waysOn_n25
    have fr : ∀ t : Int32, zw_fr m (zx_u1 (zx_u1 m 0 27 t) 0 26 ((zx_u1 m 0 27 t).1 0 26 + 1)) := fun t => ⟨by rw [zm_u12, zm_u12], fun r r0 => by rw [zm_u11, if_neg r0, zm_u11, if_neg r0], fun q q26 q27 => by rw [zm_u11, if_pos rfl, zm_upd, if_neg q26, zm_u11, if_pos rfl, zm_upd, if_neg q27]⟩
    have v26 : ∀ t : Int32, (zx_u1 (zx_u1 m 0 27 t) 0 26 ((zx_u1 m 0 27 t).1 0 26 + 1)).1 0 26 = σ.1 + 1 := fun t => by rw [zm_u11, if_pos rfl, zm_upd, if_pos rfl, zm_u11, if_pos rfl, zm_upd, if_neg (by omega), h26]
    have v27 : ∀ t : Int32, (zx_u1 (zx_u1 m 0 27 t) 0 26 ((zx_u1 m 0 27 t).1 0 26 + 1)).1 0 27 = t := fun t => by rw [zm_u11, if_pos rfl, zm_upd, if_neg (by omega), zm_u11, if_pos rfl, zm_upd, if_pos rfl]
    by_cases z : σ.1 = 0
    · have z' : ¬ ¬ m.1 0 26 = 0 := fun h => h (by rw [h26]; exact z)
      simp only [if_neg n1, if_neg z', zm_let, if_pos z]
      exact ⟨_, rfl, fr _, v26 _, v27 _⟩
    · have z' : ¬ m.1 0 26 = 0 := by rw [h26]; exact z
      simp only [if_neg n1, if_pos z', zm_let, if_neg z]
      exact ⟨_, rfl, fr _, v26 _, by rw [v27]; exact h27⟩
  | succ n ih =>
    intro k f hk hf pre S m σ hl hp hS hb h6 h20 h9 h26 h27
    obtain ⟨f1, rfl⟩ : ∃ f1, f = f1 + 1 := ⟨f - 1, by omega⟩
    have hk7 : k < 7 := by omega
    have n1 : ¬ Int32.ofNat k = m.1 0 20 := by rw [h20]; grind [zm_g]
    have i31 : zx_ix 36 31 = some 31 := zm_ix (k := 31) (by omega) (by omega)
    have e60 : 60 * Int32.ofNat e + Int32.ofNat k = Int32.ofNat (60 * e + k) := by simp
    have key : ∀ (i j : Nat), j + i = J → ∀ (x : zx_M), zw_fr m x → x.1 0 26 = (((List.range j).flatMap (fun j => if pre.contains j then [] else zc_T J n (pre ++ [j]))).foldl (zw_step (zw_y m e cnt spot) L) σ).1 → x.1 0 27 = (((List.range j).flatMap (fun j => if pre.contains j then [] else zc_T J n (pre ++ [j]))).foldl (zw_step (zw_y m e cnt spot) L) σ).2 → ∀ N, i + 1 ≤ N → ∃ m', zx_lp N (fun s : Int32 × zx_M => b_M_waysOn_l42 (g_waysOn_m f1) (Int32.ofNat e) (Int32.ofNat k) (Int32.ofNat S) spot (zw_dig pre k) s.1 s.2) (Int32.ofNat j, x) = some m' ∧ zw_fr m m' ∧ m'.1 0 26 = ((zc_T J (n + 1) pre).foldl (zw_step (zw_y m e cnt spot) L) σ).1 ∧ m'.1 0 27 = ((zc_T J (n + 1) pre).foldl (zw_step (zw_y m e cnt spot) L) σ).2 := by
      intro i
      induction i with
      | zero =>
        intro j hj x F x26 x27 N hN
        obtain ⟨N1, rfl⟩ : ∃ N1, N = N1 + 1 := ⟨N - 1, by omega⟩
        have ej : j = J := by omega
        subst ej
        refine ⟨x, zj_lpE ?_, F, x26, x27⟩
        show b_M_waysOn_l42 (g_waysOn_m f1) (Int32.ofNat e) (Int32.ofNat k) (Int32.ofNat S) spot (zw_dig pre k) (Int32.ofNat j) x = _
        unfold b_M_waysOn_l42
        rw [F.2.2 6 (by omega) (by omega), h6, if_pos (Int32.le_refl _)]
      | succ i ih2 =>
        intro j hj x F x26 x27 N hN
        obtain ⟨N1, rfl⟩ : ∃ N1, N = N1 + 1 := ⟨N - 1, by omega⟩
        have hj7 : j < 7 := by omega
        have g1 : ¬ Int32.ofNat J ≤ Int32.ofNat j := by grind [zm_g]
        have a1 : Int32.ofNat j + 1 = Int32.ofNat (j + 1) := by simp
        have a2 : Int32.ofNat k + 1 = Int32.ofNat (k + 1) := by simp
        have x6 : x.1 0 6 = Int32.ofNat J := by rw [F.2.2 6 (by omega) (by omega)]; exact h6
        have rng : ∀ (fn : Nat → List (List Nat)), (List.range (j + 1)).flatMap fn = (List.range j).flatMap fn ++ fn j := by
          intro fn
          rw [List.range_succ, List.flatMap_append]
          congr 1
          simp
        have it : f_M_itemAt (Int32.ofNat e) (Int32.ofNat k) x = some (m.2 21 (60 * e + k)) := by
          unfold f_M_itemAt
          rw [e60, zm_ix (by omega) (by omega), zm_bs, F.1]
        -- the body, as far as to the likeness
        have hbody : b_M_waysOn_l42 (g_waysOn_m f1) (Int32.ofNat e) (Int32.ofNat k) (Int32.ofNat S) spot (zw_dig pre k) (Int32.ofNat j) x = (if ¬ (if Nat.testBit S j = true then (1 : Int32) else 0) = 0 then some (.inl (Int32.ofNat (j + 1), x)) else if ¬ lg_cmp (m.2 21 (60 * e + k)) ((spot + (zo_ah (m.1 1 31) (m.1 0 21) (cnt * Int32.ofNat k) + m.1 11 j)).toInt64) = 0 then some (.inl (Int32.ofNat (j + 1), x)) else (g_waysOn_m f1 (Int32.ofNat e) (Int32.ofNat (k + 1)) (Int32.ofNat S ||| zx_shl 1 (Int32.ofNat j)) spot (10 * zw_dig pre k + Int32.ofNat j) x).bind fun m17 => some (.inl (Int32.ofNat (j + 1), m17))) := by
          have h84 : ∀ t : Int32, t = zo_ah (m.1 1 31) (m.1 0 21) (cnt * Int32.ofNat k) → n_M_waysOn_b42_84 (g_waysOn_m f1) (Int32.ofNat e) (Int32.ofNat k) (Int32.ofNat S) spot (zw_dig pre k) (Int32.ofNat j) spot t x = (if ¬ (if Nat.testBit S j = true then (1 : Int32) else 0) = 0 then some (.inl (Int32.ofNat (j + 1), x)) else if ¬ lg_cmp (m.2 21 (60 * e + k)) ((spot + (zo_ah (m.1 1 31) (m.1 0 21) (cnt * Int32.ofNat k) + m.1 11 j)).toInt64) = 0 then some (.inl (Int32.ofNat (j + 1), x)) else (g_waysOn_m f1 (Int32.ofNat e) (Int32.ofNat (k + 1)) (Int32.ofNat S ||| zx_shl 1 (Int32.ofNat j)) spot (10 * zw_dig pre k + Int32.ofNat j) x).bind fun m17 => some (.inl (Int32.ofNat (j + 1), m17))) := by
            intro t ht
            subst ht
            have ass : spot + zo_ah (m.1 1 31) (m.1 0 21) (cnt * Int32.ofNat k) + m.1 11 j = spot + (zo_ah (m.1 1 31) (m.1 0 21) (cnt * Int32.ofNat k) + m.1 11 j) := by grind
            unfold n_M_waysOn_b42_84 n_M_waysOn_b42_141
            simp only [zm_ix hj7 (by omega), zm_bs, zm_let, zo_isIn hS hj7, it, F.2.1 11 (by omega), ass, a1, a2]
          unfold b_M_waysOn_l42
          rw [x6, if_neg g1, i31, zm_bs, zm_ix hk7 (by omega), zm_bs, zm_let, F.2.1 1 (by omega), F.2.1 9 (by omega), F.2.2 21 (by omega) (by omega), h9 k (by omega)]
          by_cases w : m.1 0 21 = 0
          · have w' : ¬ ¬ m.1 0 21 = 0 := fun h => h w
            rw [if_neg w']
            exact h84 _ (by unfold zo_ah; rw [if_neg w'])
          · rw [if_pos w]
            exact h84 _ (by unfold zo_ah; rw [if_pos w])
        have skip : ((if pre.contains j then [] else zc_T J n (pre ++ [j])).foldl (zw_step (zw_y m e cnt spot) L) (((List.range j).flatMap (fun j => if pre.contains j then [] else zc_T J n (pre ++ [j]))).foldl (zw_step (zw_y m e cnt spot) L) σ)) = (((List.range j).flatMap (fun j => if pre.contains j then [] else zc_T J n (pre ++ [j]))).foldl (zw_step (zw_y m e cnt spot) L) σ) → b_M_waysOn_l42 (g_waysOn_m f1) (Int32.ofNat e) (Int32.ofNat k) (Int32.ofNat S) spot (zw_dig pre k) (Int32.ofNat j) x = some (.inl (Int32.ofNat (j + 1), x)) → ∃ m', zx_lp (N1 + 1) (fun s : Int32 × zx_M => b_M_waysOn_l42 (g_waysOn_m f1) (Int32.ofNat e) (Int32.ofNat k) (Int32.ofNat S) spot (zw_dig pre k) s.1 s.2) (Int32.ofNat j, x) = some m' ∧ zw_fr m m' ∧ m'.1 0 26 = ((zc_T J (n + 1) pre).foldl (zw_step (zw_y m e cnt spot) L) σ).1 ∧ m'.1 0 27 = ((zc_T J (n + 1) pre).foldl (zw_step (zw_y m e cnt spot) L) σ).2 := by
          intro hs hb2
          obtain ⟨m', y1, y2⟩ := ih2 (j + 1) (by omega) x F (by rw [rng, List.foldl_append, hs]; exact x26) (by rw [rng, List.foldl_append, hs]; exact x27) N1 (by omega)
          refine ⟨m', ?_, y2⟩
          rw [zj_lpS (show (fun s : Int32 × zx_M => b_M_waysOn_l42 (g_waysOn_m f1) (Int32.ofNat e) (Int32.ofNat k) (Int32.ofNat S) spot (zw_dig pre k) s.1 s.2) (Int32.ofNat j, x) = _ from hb2)]
          exact y1
        cases hc : pre.contains j
        · have tb : Nat.testBit S j = false := by rw [hb j hj7]; exact hc
          have hcj : ¬ (pre.contains j = true) := by rw [hc]; decide
          obtain ⟨-, b2, b3⟩ := zo_bit S hS j hj7
          have zi : (if Nat.testBit S j = true then (1 : Int32) else 0) = 0 := by rw [tb]; rfl
          have nzi : ¬ ¬ (if Nat.testBit S j = true then (1 : Int32) else 0) = 0 := fun h => h zi
          rw [if_neg nzi] at hbody
          by_cases y : lg_cmp (m.2 21 (60 * e + k)) ((spot + (zo_ah (m.1 1 31) (m.1 0 21) (cnt * Int32.ofNat k) + m.1 11 j)).toInt64) = 0
          · -- like: on
            have y' : ¬ ¬ lg_cmp (m.2 21 (60 * e + k)) ((spot + (zo_ah (m.1 1 31) (m.1 0 21) (cnt * Int32.ofNat k) + m.1 11 j)).toInt64) = 0 := fun h => h y
            rw [if_neg y', b2] at hbody
            have hy : zw_y m e cnt spot k j = true := by
              unfold zw_y
              exact decide_eq_true (zg_cmp0.mp y).symm
            have hdig : 10 * zw_dig pre k + Int32.ofNat j = zw_dig (pre ++ [j]) (k + 1) := by
              show _ = zw_dig (pre ++ [j]) k * 10 + Int32.ofNat ((pre ++ [j]).getD k 0)
              have h1 : zw_dig (pre ++ [j]) k = zw_dig pre k := zw_dig_congr k (fun i hi => by rw [zk_getA, hl, if_pos hi])
              have h2 : (pre ++ [j]).getD k 0 = j := by rw [zk_getA, hl, if_neg (by omega), if_pos rfl]
              rw [h1, h2]
              grind
            rw [hdig] at hbody
            obtain ⟨m2, r1, r2, r3, r4⟩ := ih (k + 1) f1 (by omega) (by omega) (pre ++ [j]) (S ||| 2 ^ j) x _ (by simp [hl]) (fun i hi => by
              rw [zw_yfr F, zk_getA, hl]
              by_cases q : i < k
              · rw [if_pos q]; exact hp i q
              · have : i = k := by omega
                subst this
                rw [if_neg q, if_pos rfl]; exact hy) b3 (fun q hq => by
              rw [Nat.testBit_or, hb q hq, Nat.testBit_two_pow]
              by_cases z : j = q
              · subst z; simp
              · have z' : ¬ q = j := fun h => z h.symm
                simp [z, z']) x6 (by rw [F.2.2 20 (by omega) (by omega)]; exact h20) (fun i hi => by rw [F.2.1 9 (by omega)]; exact h9 i hi) x26 x27
            rw [zw_yfr F] at r3 r4
            rw [r1, zm_bs] at hbody
            obtain ⟨m', y1, y2⟩ := ih2 (j + 1) (by omega) m2 (zw_fr_trans F r2) (by rw [rng, List.foldl_append, if_neg hcj]; exact r3) (by rw [rng, List.foldl_append, if_neg hcj]; exact r4) N1 (by omega)
            refine ⟨m', ?_, y2⟩
            rw [zj_lpS (show (fun s : Int32 × zx_M => b_M_waysOn_l42 (g_waysOn_m f1) (Int32.ofNat e) (Int32.ofNat k) (Int32.ofNat S) spot (zw_dig pre k) s.1 s.2) (Int32.ofNat j, x) = _ from hbody)]
            exact y1
          · rw [if_pos y] at hbody
            refine skip ?_ hbody
            rw [if_neg hcj]
            refine zw_none _ _ (fun s hs => ?_)
            cases hM : zw_M (zw_y m e cnt spot) L s
            · rfl
            · exfalso
              have h1 := zw_ME.mp hM k (by omega)
              have h2 := zw_pre n (pre ++ [j]) s hs k (by simp [hl])
              rw [zk_getA, hl, if_neg (by omega), if_pos rfl] at h2
              rw [h2] at h1
              unfold zw_y at h1
              exact y (zg_cmp0.mpr (of_decide_eq_true h1).symm)
        · have tb : Nat.testBit S j = true := by rw [hb j hj7]; exact hc
          have zi : ¬ (if Nat.testBit S j = true then (1 : Int32) else 0) = 0 := by rw [tb]; decide
          rw [if_pos zi] at hbody
          refine skip ?_ hbody
          rw [if_pos hc]
          rfl
    obtain ⟨m', y1, y2⟩ := key J 0 (by omega) m ⟨rfl, fun _ _ => rfl, fun _ _ _ => rfl⟩ h26 h27 zx_N (by have : zx_N = 100000 := rfl; omega)
    have y1' : l_M_waysOn_l42 (g_waysOn_m f1) (Int32.ofNat e) (Int32.ofNat k) (Int32.ofNat S) spot (zw_dig pre k) (0, m) = some m' := y1
    refine ⟨m', ?_, y2⟩
    show F_M_waysOn (g_waysOn_m f1) (Int32.ofNat e) (Int32.ofNat k) (Int32.ofNat S) spot (zw_dig pre k) m = some m'
    unfold F_M_waysOn
    simp only [if_pos n1, y1', zm_bs, zm_let]
