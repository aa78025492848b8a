/-! the law's text: what it says, byte by byte; worths as functions of what the names stand for -/
/-- the byte at a place; -1: none, or all is stuck -/
def zq_nx (b : Nat → Int32) (n p : Nat) (st : Bool) : Int32 := if st then -1 else if p < n then b p else -1
def zq_rank (s : Int32) : Int32 := if s = 37 then 4 else if s = 38 then 1 else if s = 42 then 4 else if s = 43 then 3 else if s = 45 then 3 else if s = 47 then 4 else if s = 60 then 2 else if s = 61 then 2 else if s = 62 then 2 else if s = 124 then 0 else -1
def zq_rk (s x y : Int32) : Int32 := if s = 38 then (if x = 0 ∨ y = 0 then 0 else 1) else if s = 42 then x * y else if s = 43 then x + y else if s = 45 then x - y else if s = 47 then (if y = 0 then 0 else x / y) else if s = 60 then (if y ≤ x then 0 else 1) else if s = 61 then (if x = y then 1 else 0) else if s = 62 then (if x ≤ y then 0 else 1) else if s = 124 then (if x = 0 ∧ y = 0 then 0 else 1) else if y = 0 then 0 else zx_rem x y
/-- further signs of a rank, each with what follows it -/
def zq_join (X : Nat → Bool → Int32) (k : Int32) (f : Nat → Bool → ((Nat → Int32) → Int32) × Nat × Bool) : Nat → ((Nat → Int32) → Int32) → Nat → Bool → ((Nat → Int32) → Int32) × Nat × Bool
  | 0, l, p, st => (l, p, st)
  | i + 1, l, p, st => if zq_rank (X p st) = k then (if k = 2 then (fun e => zq_rk (X p st) (l e) ((f (p + 1) st).1 e), (f (p + 1) st).2.1, (f (p + 1) st).2.2) else zq_join X k f i (fun e => zq_rk (X p st) (l e) ((f (p + 1) st).1 e)) (f (p + 1) st).2.1 (f (p + 1) st).2.2) else (l, p, st)
def zq_J (X : Nat → Bool → Int32) (k : Int32) (f : Nat → Bool → ((Nat → Int32) → Int32) × Nat × Bool) (p : Nat) (st : Bool) : ((Nat → Int32) → Int32) × Nat × Bool := zq_join X k f 120 (f p st).1 (f p st).2.1 (f p st).2.2
def zq_num (X : Nat → Bool → Int32) : Nat → Int32 → Nat → Int32 × Nat
  | 0, v, p => (v, p)
  | i + 1, v, p => if 48 ≤ X p false ∧ X p false ≤ 57 then zq_num X i (v * 10 + X p false - 48) (p + 1) else (v, p)
/-- within a bracket, and its end -/
def zq_br (X : Nat → Bool → Int32) (f : Nat → Bool → ((Nat → Int32) → Int32) × Nat × Bool) (p : Nat) (st : Bool) : ((Nat → Int32) → Int32) × Nat × Bool := if X (f p st).2.1 (f p st).2.2 = 41 then ((f p st).1, (f p st).2.1 + 1, (f p st).2.2) else ((f p st).1, (f p st).2.1, true)
/-- what begins with a letter, where fb is the bracket's inside and fs a single one; none: no more may open -/
def zq_single (X : Nat → Bool → Int32) (o : Bool) (fb fs : Nat → Bool → ((Nat → Int32) → Int32) × Nat × Bool) (p : Nat) (st : Bool) : ((Nat → Int32) → Int32) × Nat × Bool :=
  if 48 ≤ X p st ∧ X p st ≤ 57 then (fun _ => (zq_num X 4 0 p).1, (zq_num X 4 0 p).2, st)
  else if 0 ≤ zx_io (X p st) then (fun e => e (zx_io (X p st)).toNatClampNeg, p + 1, st)
  else if (X p st = 40 ∨ X p st = 33 ∨ X p st = 45) ∧ o = true then (if X p st = 40 then fb (p + 1) st else (fun e => if X p st = 45 then -(fs (p + 1) st).1 e else if (fs (p + 1) st).1 e = 0 then 1 else 0, (fs (p + 1) st).2.1, (fs (p + 1) st).2.2))
  else (fun _ => 0, p, true)
def zq_E (X : Nat → Bool → Int32) (f : Nat → Bool → ((Nat → Int32) → Int32) × Nat × Bool) : Nat → Bool → ((Nat → Int32) → Int32) × Nat × Bool := zq_J X 0 (zq_J X 1 (zq_J X 2 (zq_J X 3 (zq_J X 4 f))))
/-- with so many that may still open -/
def zq_S (X : Nat → Bool → Int32) : Nat → Nat → Bool → ((Nat → Int32) → Int32) × Nat × Bool
  | 0 => zq_single X false (fun p st => (fun _ => 0, p, st)) (fun p st => (fun _ => 0, p, st))
  | k + 1 => zq_single X true (zq_br X (zq_E X (zq_S X k))) (zq_S X k)
/-- a line: whether it counts, its worth -/
def zq_line (X : Nat → Bool → Int32) (p : Nat) (st : Bool) : ((Nat → Int32) → Int32) × ((Nat → Int32) → Int32) × Nat × Bool :=
  if X (zq_E X (zq_S X 6) p st).2.1 (zq_E X (zq_S X 6) p st).2.2 = 63 then (fun e => if (zq_E X (zq_S X 6) p st).1 e = 0 then 0 else 1, zq_E X (zq_S X 6) ((zq_E X (zq_S X 6) p st).2.1 + 1) (zq_E X (zq_S X 6) p st).2.2)
  else (fun _ => 1, zq_E X (zq_S X 6) p st)
def zq_lines (X : Nat → Bool → Int32) : Nat → ((Nat → Int32) → Int32) → ((Nat → Int32) → Int32) → Nat → Bool → ((Nat → Int32) → Int32) × Nat × Bool
  | 0, _, w, p, st => (w, p, st)
  | i + 1, s, w, p, st =>
    if X (zq_line X p st).2.2.1 (zq_line X p st).2.2.2 = 59 then zq_lines X i (fun e => if ¬ (zq_line X p st).1 e = 0 ∧ s e = 0 then 1 else s e) (fun e => if ¬ (zq_line X p st).1 e = 0 ∧ s e = 0 then (zq_line X p st).2.1 e else w e) ((zq_line X p st).2.2.1 + 1) (zq_line X p st).2.2.2
    else (fun e => if ¬ (zq_line X p st).1 e = 0 ∧ s e = 0 then (zq_line X p st).2.1 e else w e, (zq_line X p st).2.2)
/-- all lines -/
def zq_L (b : Nat → Int32) (n : Nat) : ((Nat → Int32) → Int32) × Nat × Bool := zq_lines (zq_nx b n) 121 (fun _ => 0) (fun _ => 0) 0 false
theorem zq_L_eq (b : Nat → Int32) (n : Nat) : zq_lines (zq_nx b n) 121 (fun _ => 0) (fun _ => 0) 0 false = zq_L b n := by unfold zq_L; exact id rfl
/-- the text whole: its worth, the place where it stops, whether that is a fault -/
def zq_all (b : Nat → Int32) (n : Nat) : ((Nat → Int32) → Int32) × Nat × Bool := ((zq_L b n).1, (zq_L b n).2.1, (zq_L b n).2.2 || decide ((zq_L b n).2.1 < n))
theorem zq_all1 (b : Nat → Int32) (n : Nat) : (zq_all b n).1 = (zq_L b n).1 := by unfold zq_all; dsimp only
theorem zq_all2 (b : Nat → Int32) (n : Nat) : (zq_all b n).2.1 = (zq_L b n).2.1 := by unfold zq_all; dsimp only
theorem zq_all3 (b : Nat → Int32) (n : Nat) : (zq_all b n).2.2 = ((zq_L b n).2.2 || decide ((zq_L b n).2.1 < n)) := by unfold zq_all; dsimp only
def zq_V (k : Nat) (b : Nat → Int32) : Prop := (zq_all b k).2.2 = false
theorem zq_nx_congr {b b' : Nat → Int32} {n : Nat} (h : ∀ i < n, b i = b' i) : zq_nx b n = zq_nx b' n := by
  funext p st
  unfold zq_nx
  by_cases g : p < n
  · rw [if_pos g, if_pos g, h p g]
  · rw [if_neg g, if_neg g]
theorem zq_V_congr {b b' : Nat → Int32} {n : Nat} (h : ∀ i < n, b i = b' i) (v : zq_V n b) : zq_V n b' := by
  unfold zq_V zq_all zq_L at v ⊢
  rw [← zq_nx_congr h]
  exact v
theorem zq_all_congr {b b' : Nat → Int32} {n : Nat} (h : ∀ i < n, b i = b' i) : zq_all b n = zq_all b' n := by
  unfold zq_all zq_L
  rw [← zq_nx_congr h]
/-- bytes below a text's end -/
def zq_by (b : Nat → Int32) (n : Nat) : Prop := n ≤ 120 ∧ ∀ i < n, 0 ≤ b i ∧ b i ≤ 255
theorem zq_nx_t (b : Nat → Int32) (n p : Nat) : zq_nx b n p true = -1 := rfl
theorem zq_nx_f (b : Nat → Int32) (n p : Nat) : zq_nx b n p false = if p < n then b p else -1 := rfl
theorem zq_nx_on {b : Nat → Int32} {n p : Nat} {st : Bool} (h : ¬ zq_nx b n p st = -1) : p < n ∧ st = false := by
  unfold zq_nx at h
  grind
theorem zq_nx_r {b : Nat → Int32} {n p : Nat} {st : Bool} (h : zq_by b n) : -1 ≤ zq_nx b n p st ∧ zq_nx b n p st ≤ 255 := by
  unfold zq_nx
  have := h.2 p
  grind
theorem zq_rank_on {s : Int32} (h : ¬ zq_rank s = -1) : ¬ s = -1 := by
  rintro rfl
  exact h (by decide)
theorem zq_rankC (v : Int32) (c : zx_M) : f_Text_rankOf v c = some (zq_rank v) := by
  unfold f_Text_rankOf zq_rank
  grind (splits := 40)
theorem zq_rkC (s x y : Int32) (c : zx_M) : f_Text_reckoned s x y c = some (zq_rk s x y) := by
  unfold f_Text_reckoned zq_rk
  grind (splits := 40)
theorem zq_ioN (c : Int32) : zx_io c = -1 ∨ ∃ k : Nat, k < 6 ∧ zx_io c = Int32.ofNat k := by
  unfold zx_io
  by_cases h0 : c = 119
  · rw [if_pos h0]; exact Or.inr ⟨0, by omega, rfl⟩
  rw [if_neg h0]
  by_cases h1 : c = 115
  · rw [if_pos h1]; exact Or.inr ⟨1, by omega, rfl⟩
  rw [if_neg h1]
  by_cases h2 : c = 113
  · rw [if_pos h2]; exact Or.inr ⟨2, by omega, rfl⟩
  rw [if_neg h2]
  by_cases h3 : c = 97
  · rw [if_pos h3]; exact Or.inr ⟨3, by omega, rfl⟩
  rw [if_neg h3]
  by_cases h4 : c = 98
  · rw [if_pos h4]; exact Or.inr ⟨4, by omega, rfl⟩
  rw [if_neg h4]
  by_cases h5 : c = 104
  · rw [if_pos h5]; exact Or.inr ⟨5, by omega, rfl⟩
  rw [if_neg h5]
  exact Or.inl rfl
theorem zq_i2c {c : Int32} (h0 : 0 ≤ c) (h1 : c ≤ 255) : zx_i2c c = c := by
  obtain ⟨k, hk, rfl⟩ := zm_in (v := c) (n := 256) (by omega) (by grind) (by grind)
  have key : ∀ k : Fin 256, zx_i2c (Int32.ofNat k.val) = Int32.ofNat k.val := by decide +kernel
  exact key ⟨k, hk⟩
