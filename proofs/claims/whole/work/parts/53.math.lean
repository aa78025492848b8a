/-! acts -/
def za_own (k w : Nat) : Int32 := zx_sA3.getD (4 * k + w) 0
def za_up (k : Nat) : Nat := (zx_sA2.getD k 0).toNatClampNeg
/-- the kind whose body runs -/
def za_K (w : Nat) : Nat → Nat → Nat
  | 0, k => k
  | f + 1, k => if za_own k w = 0 then za_K w f (za_up k) else k
theorem za_own0 : ∀ w < 4, ¬ za_own 0 w = 0 := by decide +kernel
theorem za_upK : ∀ k < 8, ¬ k = 0 → zx_sA2.getD k 0 = Int32.ofNat (za_up k) ∧ za_up k < 8 := by decide +kernel
theorem za_KK : ∀ w < 4, ∀ k < 8, za_K w 8 k < 8 ∧ ¬ za_own (za_K w 8 k) w = 0 := by decide +kernel
theorem za_isKind {k : Nat} (hk : k < 8) (c : zx_M) : f_Acts_isKind (Int32.ofNat k) c = some 1 := by
  have a0 : ¬ Int32.ofNat k < 0 := zm_nn (by omega)
  have a1 : ¬ 8 ≤ Int32.ofNat k := by grind [zm_g]
  unfold f_Acts_isKind
  rw [if_neg a0, if_neg a1]
theorem za_ownBody {k w : Nat} (hk : k < 8) (hw : w < 4) (c : zx_M) : f_Acts_ownBody (Int32.ofNat k) (Int32.ofNat w) c = some (za_own k w) := by
  have e : Int32.ofNat k * 4 + Int32.ofNat w = Int32.ofNat (4 * k + w) := by grind [zm_g]
  have a0 : ¬ Int32.ofNat (4 * k + w) < 0 := zm_nn (by omega)
  have a1 : ¬ 32 ≤ Int32.ofNat (4 * k + w) := by
    have := zm_g (k := 4 * k + w) (by omega)
    grind
  unfold f_Acts_ownBody za_own
  rw [zm_let, e, if_neg a0, if_neg a1, zm_ix (by omega) (by omega), zm_bs]
theorem za_find {g : GT_from_more_own_plain} {w : Nat} (hw : w < 4) {x d : Int32} {c : zx_M} : ∀ (f k s : Nat), k < 8 → s + f = 8 → ¬ za_own (za_K w f k) w = 0 → ∀ N, f + 1 ≤ N → zx_lp N (fun st : Int32 × Int32 => b_Acts_from_l6 g (Int32.ofNat w) x d st.1 st.2 c) (Int32.ofNat k, Int32.ofNat s) = some (Int32.ofNat (za_K w f k)) := by
  intro f
  induction f with
  | zero =>
    intro k s hk hs ho N hN
    obtain ⟨N1, rfl⟩ : ∃ N1, N = N1 + 1 := ⟨N - 1, by omega⟩
    refine zj_lpE ?_
    show b_Acts_from_l6 g (Int32.ofNat w) x d (Int32.ofNat k) (Int32.ofNat s) c = _
    have g1 : 8 ≤ Int32.ofNat s := by
      have : s = 8 := by omega
      rw [this]; decide
    unfold b_Acts_from_l6
    rw [if_pos g1]
    rfl
  | succ f ih =>
    intro k s hk hs ho N hN
    obtain ⟨N1, rfl⟩ : ∃ N1, N = N1 + 1 := ⟨N - 1, by omega⟩
    have g1 : ¬ 8 ≤ Int32.ofNat s := by grind [zm_g]
    have z1 : ¬ ((1 : Int32) = 0) := by decide
    by_cases q : za_own k w = 0
    · have hk0 : ¬ k = 0 := fun h => za_own0 w hw (by rw [← h]; exact q)
      obtain ⟨u1, u2⟩ := za_upK k hk hk0
      have e : za_K w (f + 1) k = za_K w f (za_up k) := by
        show (if za_own k w = 0 then za_K w f (za_up k) else k) = _
        rw [if_pos q]
      rw [e] at ho ⊢
      have hb : (fun st : Int32 × Int32 => b_Acts_from_l6 g (Int32.ofNat w) x d st.1 st.2 c) (Int32.ofNat k, Int32.ofNat s) = some (.inl (Int32.ofNat (za_up k), Int32.ofNat (s + 1))) := by
        show b_Acts_from_l6 g (Int32.ofNat w) x d (Int32.ofNat k) (Int32.ofNat s) c = _
        have q' : ¬ ¬ za_own k w = 0 := fun h => h q
        have a1 : Int32.ofNat s + 1 = Int32.ofNat (s + 1) := by simp
        unfold b_Acts_from_l6
        rw [if_neg g1, za_isKind hk, zm_bs, if_neg z1, za_ownBody hk hw, zm_bs, if_neg q', zm_ix hk (by omega), zm_bs, zm_let, zm_let, u1, a1]
      rw [zj_lpS hb]
      exact ih (za_up k) (s + 1) u2 (by omega) ho N1 (by omega)
    · have e : za_K w (f + 1) k = k := by
        show (if za_own k w = 0 then za_K w f (za_up k) else k) = _
        rw [if_neg q]
      rw [e]
      refine zj_lpE ?_
      show b_Acts_from_l6 g (Int32.ofNat w) x d (Int32.ofNat k) (Int32.ofNat s) c = _
      unfold b_Acts_from_l6
      rw [if_neg g1, za_isKind hk, zm_bs, if_neg z1, za_ownBody hk hw, zm_bs, if_pos q]
theorem za_pair {α β γ : Type} (o : Option (α × β)) : (o.bind fun (r, m) => some (r, m)) = o := by
  cases o <;> rfl
/-- whose body runs, and that it is noted -/
theorem za_from {g : GT_from_more_own_plain} {k w d k' : Nat} {o : Int32} (hk : k < 8) (hw : w < 4) (hd : d ≤ 40) (hK : za_K w 8 k = k') (ho : za_own k' w = o) {x : Int32} {c : zx_M} : F_Acts_from g (Int32.ofNat k) (Int32.ofNat w) x (Int32.ofNat d) c = (f_Acts_note o c).bind fun c2 => if 20 ≤ o then g.2.2.2 o (zx_sA2.getD k' 0) x (Int32.ofNat (d + 1)) c2 else g.2.2.1 o x (Int32.ofNat (d + 1)) c2 := by
  obtain ⟨h1, h2⟩ := za_KK w hw k hk
  have l : l_Acts_from_l6 g (Int32.ofNat w) x (Int32.ofNat d) c (Int32.ofNat k, 0) = some (Int32.ofNat k') := by
    have := za_find (g := g) hw (x := x) (d := Int32.ofNat d) (c := c) 8 k 0 hk rfl h2 zx_N (by decide +kernel)
    rw [hK] at this
    exact this
  rw [hK] at h1 h2
  have z1 : ¬ ((1 : Int32) = 0) := by decide
  have dd : Int32.ofNat d ≤ 40 := by grind [zm_g]
  have a1 : Int32.ofNat d + 1 = Int32.ofNat (d + 1) := by simp
  unfold F_Acts_from n_Acts_from_n45 f_Acts_ofDrop
  rw [l, zm_bs, zm_let, za_isKind h1, zm_bs, if_neg z1, if_pos dd, za_ownBody h1 hw, zm_bs, ho, a1, zm_ix h1 (by omega)]
  congr 1
  funext c2
  by_cases q : 20 ≤ o
  · rw [if_pos q, zm_bs, if_pos rfl, zm_bs, if_pos q, za_pair (γ := Unit)]
  · rw [if_neg q, zm_bs, if_neg z1, if_neg q, za_pair (γ := Unit)]
def za_T (c0 m0 c m : zx_M) (r : Nat) : Prop := c.2 = c0.2 ∧ (∀ q, ¬ q = 38 → ¬ q = 40 → c.1 q = c0.1 q) ∧ (∀ k, ¬ k = 3 → c.1 38 k = c0.1 38 k) ∧ c.1 38 3 = Int32.ofNat r ∧ m.2 = m0.2 ∧ (∀ q, ¬ q = 0 → ¬ q = 18 → m.1 q = m0.1 q) ∧ (∀ k, ¬ k = 46 → m.1 0 k = m0.1 0 k) ∧ m.1 0 46 = Int32.ofNat r ∧ ∀ i < 24, i < r → c.1 40 i = m.1 18 i
theorem za_note {c0 m0 c m : zx_M} {r : Nat} (T : za_T c0 m0 c m r) (hr : r ≤ 100) (v : Int32) : ∃ c' m', f_Acts_note v c = some c' ∧ f_M_begins v m = some m' ∧ za_T c0 m0 c' m' (r + 1) := by
  obtain ⟨c1, c2, c3, c4, m1, m2, m3, m4, h⟩ := T
  have a0 : ¬ Int32.ofNat r < 0 := zm_nn (by omega)
  have a1 : Int32.ofNat r + 1 = Int32.ofNat (r + 1) := by simp
  unfold f_Acts_note f_M_begins n_Acts_note_n26 n_M_begins_n19
  rw [c4, m4, if_neg a0]
  by_cases q : r < 24
  · have b1 : ¬ 24 ≤ Int32.ofNat r := by grind [zm_g]
    have u1 : (zx_u1 c 40 r v).1 38 3 = Int32.ofNat r := by rw [zm_u11, if_neg (by omega)]; exact c4
    have u2 : (zx_u1 m 18 r v).1 0 46 = Int32.ofNat r := by rw [zm_u11, if_neg (by omega)]; exact m4
    rw [if_neg b1, if_neg b1, zm_ix q (by omega), zm_bs, zm_bs, zm_let, zm_let, zm_let, zm_let, u1, u2, a1]
    refine ⟨_, _, rfl, rfl, ?_, fun x q1 q2 => ?_, fun k hk => ?_, ?_, ?_, fun x q1 q2 => ?_, fun k hk => ?_, ?_, fun i hi hir => ?_⟩
    · rw [zm_u12, zm_u12]; exact c1
    · rw [zm_u11, if_neg q1, zm_u11, if_neg q2]; exact c2 x q1 q2
    · rw [zm_u11, if_pos rfl, zm_upd, if_neg hk, zm_u11, if_neg (by omega)]; exact c3 k hk
    · rw [zm_u11, if_pos rfl, zm_upd, if_pos rfl]
    · rw [zm_u12, zm_u12]; exact m1
    · rw [zm_u11, if_neg q1, zm_u11, if_neg q2]; exact m2 x q1 q2
    · rw [zm_u11, if_pos rfl, zm_upd, if_neg hk, zm_u11, if_neg (by omega)]; exact m3 k hk
    · rw [zm_u11, if_pos rfl, zm_upd, if_pos rfl]
    · rw [zm_u11, if_neg (by omega), zm_u11, if_pos rfl, zm_u11, if_neg (by omega), zm_u11, if_pos rfl, zm_upd, zm_upd]
      by_cases e : i = r
      · rw [if_pos e, if_pos e]
      · rw [if_neg e, if_neg e]; exact h i hi (by omega)
  · have b1 : 24 ≤ Int32.ofNat r := by grind [zm_g]
    rw [if_pos b1, if_pos b1, zm_let, zm_let, a1]
    refine ⟨_, _, rfl, rfl, ?_, fun x q1 q2 => ?_, fun k hk => ?_, ?_, ?_, fun x q1 q2 => ?_, fun k hk => ?_, ?_, fun i hi hir => ?_⟩
    · rw [zm_u12]; exact c1
    · rw [zm_u11, if_neg q1]; exact c2 x q1 q2
    · rw [zm_u11, if_pos rfl, zm_upd, if_neg hk]; exact c3 k hk
    · rw [zm_u11, if_pos rfl, zm_upd, if_pos rfl]
    · rw [zm_u12]; exact m1
    · rw [zm_u11, if_neg q1]; exact m2 x q1 q2
    · rw [zm_u11, if_pos rfl, zm_upd, if_neg hk]; exact m3 k hk
    · rw [zm_u11, if_pos rfl, zm_upd, if_pos rfl]
    · rw [zm_u11, if_neg (by omega), zm_u11, if_neg (by omega)]; exact h i hi (by omega)
def za_S (c0 m0 : zx_M) (L : Nat) (hc hm : zx_M → Option (Int32 × zx_M)) : Prop := ∀ c m r, r + L ≤ 100 → za_T c0 m0 c m r → ∃ v c' m' r', hc c = some (v, c') ∧ hm m = some (v, m') ∧ za_T c0 m0 c' m' r' ∧ r' ≤ r + L
