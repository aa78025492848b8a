/-! the machine's shapes as a world of the Java machine -/
def zx_v (ρ : Nat → Nat) : Value → Value
  | .ref q => .ref (ρ q)
  | v => v
theorem zx_v_cat (ρ : Nat → Nat) (v : Value) : (zx_v ρ v).category = v.category := by cases v <;> rfl
def zx_fo (ρ : Nat → Nat) (x : Int32) : Option (Option Nat) → Value
  | none => .int x
  | some none => .null
  | some (some q) => .ref (ρ q)
def zx_f (ρ : Nat → Nat) (g : Nat → Int32) : Nat → List (Option (Option Nat)) → List Value
  | _, [] => []
  | j, o :: t => zx_fo ρ (g j) o :: zx_f ρ g (j + 1) t
def zx_e (ρ : Nat → Nat) (κ : Nat → ClassId) (m : zx_M) (q : Nat) : zx_Sh → va_E
  | .inl (ci, rs) => .inr (ci, zx_f ρ (m.1 q) 0 rs)
  | .inr (k, n) => .inl (κ k, n, if k = 1 then .inr (.inl (m.2 q)) else .inl (m.1 q))
def zx_w (ρ : Nat → Nat) (κ : Nat → ClassId) (m : zx_M) : Nat → List zx_Sh → va_W
  | _, [] => []
  | k, s :: t => (ρ k, zx_e ρ κ m k s) :: zx_w ρ κ m (k + 1) t
def zx_tys (κ : Nat → ClassId) : List (ClassId × FieldType) := [(κ 0, .int), (κ 1, .long), (κ 2, .boolean)]
theorem zx_f_get (ρ : Nat → Nat) (g : Nat → Int32) (rs : List (Option (Option Nat))) : ∀ j k : Nat, (zx_f ρ g j rs)[k]? = (rs[k]?).map (zx_fo ρ (g (j + k))) := by
  induction rs with
  | nil => intro j k; simp [zx_f]
  | cons o t ih =>
    intro j k
    cases k with
    | zero => simp [zx_f]
    | succ k =>
      simp only [zx_f, List.getElem?_cons_succ]
      rw [ih (j + 1) k, show j + 1 + k = j + (k + 1) by omega]
theorem zx_f_len (ρ : Nat → Nat) (g : Nat → Int32) (rs : List (Option (Option Nat))) : ∀ j : Nat, (zx_f ρ g j rs).length = rs.length := by
  induction rs with
  | nil => intro j; rfl
  | cons o t ih => intro j; simp [zx_f, ih]
theorem zx_w_get (ρ : Nat → Nat) (κ : Nat → ClassId) (m : zx_M) (S : List zx_Sh) : ∀ j k : Nat, (zx_w ρ κ m j S)[k]? = (S[k]?).map (fun s => (ρ (j + k), zx_e ρ κ m (j + k) s)) := by
  induction S with
  | nil => intro j k; simp [zx_w]
  | cons o t ih =>
    intro j k
    cases k with
    | zero => simp [zx_w]
    | succ k =>
      simp only [zx_w, List.getElem?_cons_succ]
      rw [ih (j + 1) k, show j + 1 + k = j + (k + 1) by omega]
theorem zx_w_len (ρ : Nat → Nat) (κ : Nat → ClassId) (m : zx_M) (S : List zx_Sh) : ∀ j : Nat, (zx_w ρ κ m j S).length = S.length := by
  induction S with
  | nil => intro j; rfl
  | cons o t ih => intro j; simp [zx_w, ih]
theorem zx_put_set {α : Type} (l : List α) : ∀ (i : Nat) (a : α), zx_put l i a = l.set i a := by
  induction l with
  | nil => intro i a; rfl
  | cons b t ih =>
    intro i a
    cases i with
    | zero => rfl
    | succ i => simp [zx_put, ih]
theorem zx_w_at {ρ : Nat → Nat} {κ : Nat → ClassId} {m : zx_M} {S : List zx_Sh} {q : Nat} {s : zx_Sh} (h : S[q]? = some s) : (zx_w ρ κ m 0 S)[q]? = some (ρ q, zx_e ρ κ m q s) := by
  rw [zx_w_get, h]
  simp
theorem zx_w_obj {ρ : Nat → Nat} {κ : Nat → ClassId} {m : zx_M} {S : List zx_Sh} {q ci : Nat} {rs : List (Option (Option Nat))} (h : S[q]? = some (.inl (ci, rs))) : (zx_w ρ κ m 0 S)[q]? = some (ρ q, .inr (ci, zx_f ρ (m.1 q) 0 rs)) := zx_w_at h
theorem zx_w_int {ρ : Nat → Nat} {κ : Nat → ClassId} {m : zx_M} {S : List zx_Sh} {q k n : Nat} (hk : k ≠ 1) (h : S[q]? = some (.inr (k, n))) : (zx_w ρ κ m 0 S)[q]? = some (ρ q, .inl (κ k, n, .inl (m.1 q))) := by
  rw [zx_w_at h]
  simp [zx_e, hk]
theorem zx_w_lon {ρ : Nat → Nat} {κ : Nat → ClassId} {m : zx_M} {S : List zx_Sh} {q n : Nat} (h : S[q]? = some (.inr (1, n))) : (zx_w ρ κ m 0 S)[q]? = some (ρ q, .inl (κ 1, n, .inr (.inl (m.2 q)))) := by
  rw [zx_w_at h]
  simp [zx_e]
theorem zx_e_congr {ρ : Nat → Nat} {κ : Nat → ClassId} {m m' : zx_M} {q : Nat} (h1 : m'.1 q = m.1 q) (h2 : m'.2 q = m.2 q) (s : zx_Sh) : zx_e ρ κ m' q s = zx_e ρ κ m q s := by
  obtain ⟨ci, rs⟩ | ⟨k, n⟩ := s
  · simp [zx_e, h1]
  · simp [zx_e, h1, h2]
theorem zx_w_set {ρ : Nat → Nat} {κ : Nat → ClassId} {m m' : zx_M} {S : List zx_Sh} {q : Nat} {s s' : zx_Sh} {e : va_E} (h : S[q]? = some s) (he : e = zx_e ρ κ m' q s') (hm : ∀ j, j ≠ q → m'.1 j = m.1 j ∧ m'.2 j = m.2 j) : (zx_w ρ κ m 0 S).set q (ρ q, e) = zx_w ρ κ m' 0 (S.set q s') := by
  apply List.ext_getElem?
  intro j
  have hq : q < S.length := (List.getElem?_eq_some_iff.mp h).1
  rw [zx_w_get]
  by_cases hj : j = q
  · subst hj
    rw [List.getElem?_set_self (by rw [zx_w_len]; exact hq), List.getElem?_set_self hq, he]
    simp
  · rw [List.getElem?_set_ne (Ne.symm hj), List.getElem?_set_ne (Ne.symm hj), zx_w_get]
    obtain ⟨g1, g2⟩ := hm j hj
    cases S[j]? with
    | none => rfl
    | some x =>
      have := zx_e_congr (ρ := ρ) (κ := κ) g1 g2 x
      simp [this]
theorem zx_set_same {S : List zx_Sh} {q : Nat} {s : zx_Sh} (h : S[q]? = some s) : S.set q s = S := by
  apply List.ext_getElem?
  intro j
  by_cases hj : j = q
  · subst hj
    rw [List.getElem?_set_self (List.getElem?_eq_some_iff.mp h).1, h]
  · rw [List.getElem?_set_ne (Ne.symm hj)]
theorem zx_beq_ne {a b : Nat} (h : a ≠ b) : Nat.beq a b = false := by
  cases hb : Nat.beq a b with
  | false => rfl
  | true => exact absurd (Nat.eq_of_beq_eq_true hb) h
theorem zx_w1_ne (m : zx_M) (q : Nat) (f : Nat → Int32) : ∀ j, j ≠ q → (zx_w1 m q f).1 j = m.1 j ∧ (zx_w1 m q f).2 j = m.2 j := fun j hj => by
  refine ⟨?_, rfl⟩
  unfold zx_w1
  simp [zx_beq_ne hj]
theorem zx_w2_ne (m : zx_M) (q : Nat) (f : Nat → Int64) : ∀ j, j ≠ q → (zx_w2 m q f).1 j = m.1 j ∧ (zx_w2 m q f).2 j = m.2 j := fun j hj => by
  refine ⟨rfl, ?_⟩
  unfold zx_w2
  simp [zx_beq_ne hj]
theorem zx_w1_at (m : zx_M) (q : Nat) (f : Nat → Int32) : (zx_w1 m q f).1 q = f := by simp [zx_w1, Nat.beq_refl]
theorem zx_w2_at (m : zx_M) (q : Nat) (f : Nat → Int64) : (zx_w2 m q f).2 q = f := by simp [zx_w2, Nat.beq_refl]
/-- an int field set -/
theorem zx_w_pf {ρ : Nat → Nat} {κ : Nat → ClassId} {m : zx_M} {S : List zx_Sh} {q ci k : Nat} {rs : List (Option (Option Nat))} (h : S[q]? = some (.inl (ci, rs))) (hk : rs[k]? = some none) (x : Int32) : (zx_w ρ κ m 0 S).set q (ρ q, .inr (ci, (zx_f ρ (m.1 q) 0 rs).set k (.int x))) = zx_w ρ κ (zx_u1 m q k x) 0 S := by
  have hr := zx_w_set (ρ := ρ) (κ := κ) (m := m) (m' := zx_u1 m q k x) (s' := .inl (ci, rs)) (e := .inr (ci, (zx_f ρ (m.1 q) 0 rs).set k (.int x))) h ?_ (zx_w1_ne _ _ _)
  · rw [hr, zx_set_same h]
  · show _ = Sum.inr (ci, zx_f ρ ((zx_u1 m q k x).1 q) 0 rs)
    rw [zx_u1, zx_w1_at]
    congr 2
    apply List.ext_getElem?
    intro j
    rw [zx_f_get]
    by_cases hj : j = k
    · subst hj
      rw [List.getElem?_set_self (by rw [zx_f_len]; exact (List.getElem?_eq_some_iff.mp hk).1), hk]
      simp [zx_fo, upd]
    · rw [List.getElem?_set_ne (Ne.symm hj), zx_f_get]
      cases rs[j]? with
      | none => rfl
      | some o => simp [upd, hj]
/-- a reference set -/
theorem zx_w_pr {ρ : Nat → Nat} {κ : Nat → ClassId} {m : zx_M} {S : List zx_Sh} {q ci k t : Nat} {o : Option Nat} {rs : List (Option (Option Nat))} (h : S[q]? = some (.inl (ci, rs))) (hk : rs[k]? = some (some o)) : (zx_w ρ κ m 0 S).set q (ρ q, .inr (ci, (zx_f ρ (m.1 q) 0 rs).set k (.ref (ρ t)))) = zx_w ρ κ m 0 (S.set q (.inl (ci, rs.set k (some (some t))))) := by
  refine zx_w_set (m' := m) (s' := .inl (ci, rs.set k (some (some t)))) h ?_ (fun _ _ => ⟨rfl, rfl⟩)
  show _ = Sum.inr (ci, zx_f ρ (m.1 q) 0 (rs.set k (some (some t))))
  congr 2
  apply List.ext_getElem?
  intro j
  have hl := (List.getElem?_eq_some_iff.mp hk).1
  rw [zx_f_get]
  by_cases hj : j = k
  · subst hj
    rw [List.getElem?_set_self (by rw [zx_f_len]; exact hl), List.getElem?_set_self hl]
    simp [zx_fo]
  · rw [List.getElem?_set_ne (Ne.symm hj), List.getElem?_set_ne (Ne.symm hj), zx_f_get]
/-- a row of ints set -/
theorem zx_w_ri {ρ : Nat → Nat} {κ : Nat → ClassId} {m : zx_M} {S : List zx_Sh} {q k n : Nat} (hk : k ≠ 1) (h : S[q]? = some (.inr (k, n))) (f : Nat → Int32) : (zx_w ρ κ m 0 S).set q (ρ q, .inl (κ k, n, .inl f)) = zx_w ρ κ (zx_w1 m q f) 0 S := by
  have hr := zx_w_set (ρ := ρ) (κ := κ) (m := m) (m' := zx_w1 m q f) (s' := .inr (k, n)) (e := .inl (κ k, n, .inl f)) h ?_ (zx_w1_ne _ _ _)
  · rw [hr, zx_set_same h]
  · simp [zx_e, hk, zx_w1_at]
theorem zx_w_rl {ρ : Nat → Nat} {κ : Nat → ClassId} {m : zx_M} {S : List zx_Sh} {q n : Nat} (h : S[q]? = some (.inr (1, n))) (f : Nat → Int64) : (zx_w ρ κ m 0 S).set q (ρ q, .inl (κ 1, n, .inr (.inl f))) = zx_w ρ κ (zx_w2 m q f) 0 S := by
  have hr := zx_w_set (ρ := ρ) (κ := κ) (m := m) (m' := zx_w2 m q f) (s' := .inr (1, n)) (e := .inl (κ 1, n, .inr (.inl f))) h ?_ (zx_w2_ne _ _ _)
  · rw [hr, zx_set_same h]
  · simp [zx_e, zx_w2_at]
/-- addresses that agree below n, and on the statics -/
def zx_ag (n : Nat) (ρ ρ' : Nat → Nat) : Prop := ∀ k, zx_kq n k = true → ρ' k = ρ k
def zx_ro (ρ : Nat → Nat) (n a : Nat) : Nat → Nat := fun k => bif Nat.beq k n then a else ρ k
theorem zx_ro_ag {ρ : Nat → Nat} {n a : Nat} (hn : n < 999) : zx_ag n ρ (zx_ro ρ n a) := by
  intro k hk
  unfold zx_ro
  have hne : k ≠ n := by
    intro e
    subst e
    unfold zx_kq at hk
    rw [Bool.or_eq_true] at hk
    rcases hk with h | h
    · have := Nat.blt_eq.mp h
      omega
    · have := Nat.le_of_ble_eq_true h
      omega
  simp [zx_beq_ne hne]
theorem zx_ro_at {ρ : Nat → Nat} {n a : Nat} : zx_ro ρ n a n = a := by simp [zx_ro, Nat.beq_refl]
theorem zx_kq_mono {n n' k : Nat} (hn : n ≤ n') (h : zx_kq n k = true) : zx_kq n' k = true := by
  unfold zx_kq at *
  rw [Bool.or_eq_true] at *
  rcases h with h | h
  · exact Or.inl (Nat.blt_eq.mpr (Nat.lt_of_lt_of_le (Nat.blt_eq.mp h) hn))
  · exact Or.inr h
theorem zx_ag.trans {n n' : Nat} {a b c : Nat → Nat} (h1 : zx_ag n a b) (h2 : zx_ag n' b c) (hn : n ≤ n') : zx_ag n a c := fun k hk => (h2 k (zx_kq_mono hn hk)).trans (h1 k hk)
theorem zx_ag.rf {n : Nat} {a : Nat → Nat} : zx_ag n a a := fun _ _ => rfl
theorem zx_v_ag {n : Nat} {ρ ρ' : Nat → Nat} (h : zx_ag n ρ ρ') {v : Value} (hv : zx_kv n v = true) : zx_v ρ' v = zx_v ρ v := by
  cases v with
  | ref q => simp only [zx_v]; rw [h q hv]
  | _ => rfl
theorem zx_V_ag {n : Nat} {ρ ρ' : Nat → Nat} (h : zx_ag n ρ ρ') : ∀ {st : List Value}, zx_kV n st = true → st.map (zx_v ρ') = st.map (zx_v ρ) := by
  intro st
  induction st with
  | nil => intro _; rfl
  | cons v t ih =>
    intro hv
    unfold zx_kV at hv
    rw [Bool.and_eq_true] at hv
    simp only [List.map_cons]
    rw [zx_v_ag h hv.1, ih hv.2]
theorem zx_kL_at {n : Nat} : ∀ {L : zx_L}, zx_kL n L = true → ∀ {i : Nat} {v : Value}, L[i]? = some (some v) → zx_kv n v = true := by
  intro L
  induction L with
  | nil => intro _ i v h; simp at h
  | cons o t ih =>
    intro hk i v h
    cases o with
    | none =>
      unfold zx_kL at hk
      cases i with
      | zero => simp at h
      | succ i => exact ih hk (by simpa using h)
    | some w =>
      unfold zx_kL at hk
      rw [Bool.and_eq_true] at hk
      cases i with
      | zero => simp at h; subst h; exact hk.1
      | succ i => exact ih hk.2 (by simpa using h)
theorem zx_f_ag {n : Nat} {ρ ρ' : Nat → Nat} (h : zx_ag n ρ ρ') (g : Nat → Int32) : ∀ {rs : List (Option (Option Nat))} (j : Nat), zx_kr n rs = true → zx_f ρ' g j rs = zx_f ρ g j rs := by
  intro rs
  induction rs with
  | nil => intro j _; rfl
  | cons o t ih =>
    intro j hk
    cases o with
    | none =>
      unfold zx_kr at hk
      simp only [zx_f, zx_fo]
      rw [ih (j + 1) hk]
    | some o =>
      cases o with
      | none =>
        unfold zx_kr at hk
        simp only [zx_f, zx_fo]
        rw [ih (j + 1) hk]
      | some q =>
        unfold zx_kr at hk
        rw [Bool.and_eq_true] at hk
        simp only [zx_f, zx_fo]
        rw [ih (j + 1) hk.2, h q hk.1]
theorem zx_kS_at {n : Nat} : ∀ {S : List zx_Sh}, zx_kS n S = true → ∀ {i ci : Nat} {rs : List (Option (Option Nat))}, S[i]? = some (.inl (ci, rs)) → zx_kr n rs = true := by
  intro S
  induction S with
  | nil => intro _ i ci rs h; simp at h
  | cons o t ih =>
    intro hk i ci rs h
    obtain ⟨cj, rj⟩ | x := o
    · unfold zx_kS at hk
      rw [Bool.and_eq_true] at hk
      cases i with
      | zero => simp at h; obtain ⟨-, rfl⟩ := h; exact hk.1
      | succ i => exact ih hk.2 (by simpa using h)
    · unfold zx_kS at hk
      cases i with
      | zero => simp at h
      | succ i => exact ih hk (by simpa using h)
/-- a cell more -/
theorem zx_w_app {ρ : Nat → Nat} {κ : Nat → ClassId} {m m' : zx_M} {S : List zx_Sh} {a : Nat} {s : zx_Sh} (hn : S.length < 999) (hS : zx_kS S.length S = true) (hm : ∀ j, j ≠ S.length → m'.1 j = m.1 j ∧ m'.2 j = m.2 j) {e : va_E} (he : zx_e (zx_ro ρ S.length a) κ m' S.length s = e) : zx_w ρ κ m 0 S ++ [(a, e)] = zx_w (zx_ro ρ S.length a) κ m' 0 (S ++ [s]) := by
  apply List.ext_getElem?
  intro j
  rw [zx_w_get]
  by_cases hj : j < S.length
  · rw [List.getElem?_append_left (by rw [zx_w_len]; exact hj), List.getElem?_append_left hj, zx_w_get]
    obtain ⟨g1, g2⟩ := hm j (by omega)
    have hag := zx_ro_ag (ρ := ρ) (a := a) hn
    have hr : zx_ro ρ S.length a j = ρ j := hag j (by unfold zx_kq; rw [Bool.or_eq_true]; exact Or.inl (Nat.blt_eq.mpr hj))
    cases hs : S[j]? with
    | none => rfl
    | some x =>
      simp only [Nat.zero_add, Option.map_some]
      rw [hr]
      congr 2
      rw [zx_e_congr g1 g2]
      obtain ⟨ci, rs⟩ | ⟨k, n⟩ := x
      · simp only [zx_e]
        rw [zx_f_ag hag _ 0 (zx_kS_at hS hs)]
      · rfl
  · rw [List.getElem?_append_right (by rw [zx_w_len]; omega), List.getElem?_append_right (by omega), zx_w_len]
    by_cases h0 : j = S.length
    · subst h0
      simp [zx_ro_at, he]
    · rw [List.getElem?_eq_none (by simp; omega), List.getElem?_eq_none (by simp; omega)]
      rfl
/-! locals -/
def zx_lr (ρ : Nat → Nat) (L : zx_L) (ls : Array Slot) : Prop := ls.size = L.length ∧ lv_wf ls ∧ ∀ (i : Nat) (v : Value), L[i]? = some (some v) → ls[i]? = some (.val (zx_v ρ v))
def zx_la (ρ : Nat → Nat) : Nat → zx_L → List (Nat × Value)
  | _, [] => []
  | k, none :: t => zx_la ρ (k + 1) t
  | k, some v :: t => (k, zx_v ρ v) :: zx_la ρ (k + 1) t
theorem zx_la_mem {ρ : Nat → Nat} : ∀ {L : zx_L} {a : Nat} {q : Nat × Value}, q ∈ zx_la ρ a L ↔ ∃ (i : Nat) (v : Value), q.1 = a + i ∧ L[i]? = some (some v) ∧ q.2 = zx_v ρ v := by
  intro L
  induction L with
  | nil => intro a q; simp [zx_la]
  | cons o t ih =>
    intro a q
    constructor
    · intro h
      cases o with
      | none =>
        obtain ⟨i, v, h1, h2, h3⟩ := ih.mp h
        exact ⟨i + 1, v, by omega, by simpa using h2, h3⟩
      | some w =>
        rcases List.mem_cons.mp h with rfl | h
        · exact ⟨0, w, rfl, rfl, rfl⟩
        · obtain ⟨i, v, h1, h2, h3⟩ := ih.mp h
          exact ⟨i + 1, v, by omega, by simpa using h2, h3⟩
    · rintro ⟨i, v, h1, h2, h3⟩
      cases i with
      | zero =>
        simp at h2
        subst h2
        show q ∈ (a, zx_v ρ v) :: zx_la ρ (a + 1) t
        exact List.mem_cons.mpr (Or.inl (Prod.ext h1 h3))
      | succ i =>
        have hm : q ∈ zx_la ρ (a + 1) t := ih.mpr ⟨i, v, by omega, by simpa using h2, h3⟩
        cases o with
        | none => exact hm
        | some w => exact List.mem_cons_of_mem _ hm
theorem zx_lr_has {ρ : Nat → Nat} {L : zx_L} {ls : Array Slot} (h : zx_lr ρ L ls) : lv_has ls L.length (zx_la ρ 0 L) := by
  refine ⟨h.1, h.2.1, fun q hq => ?_⟩
  obtain ⟨i, v, h1, h2, h3⟩ := zx_la_mem.mp hq
  rw [h1, h3, Nat.zero_add]
  exact h.2.2 i v h2
theorem zx_lr_of {ρ : Nat → Nat} {L : zx_L} {ls : Array Slot} {n : Nat} {lv : List (Nat × Value)} (h : lv_has ls n lv) (hn : n = L.length) (hm : ∀ (i : Nat) (v : Value), L[i]? = some (some v) → (i, zx_v ρ v) ∈ lv) : zx_lr ρ L ls :=
  ⟨h.1.trans hn, h.2.1, fun i v hi => h.2.2 (i, zx_v ρ v) (hm i v hi)⟩
theorem zx_lr_ag {n : Nat} {ρ ρ' : Nat → Nat} {L : zx_L} {ls : Array Slot} (hag : zx_ag n ρ ρ') (hk : zx_kL n L = true) (h : zx_lr ρ L ls) : zx_lr ρ' L ls :=
  ⟨h.1, h.2.1, fun i v hi => by rw [zx_v_ag hag (zx_kL_at hk hi)]; exact h.2.2 i v hi⟩
theorem zx_k2_len (L : zx_L) (i : Nat) : (zx_k2 L i).length = L.length := by
  unfold zx_k2
  cases i with
  | zero => rfl
  | succ j =>
    simp only
    cases zx_c2 L j with
    | false => rfl
    | true => simp [zx_put_set]
/-- what is left: as it was, and no long right ahead -/
theorem zx_k2_at {L : zx_L} {i j : Nat} {v : Value} (h : (zx_k2 L i)[j]? = some (some v)) : L[j]? = some (some v) ∧ (j + 1 = i → ¬ v.category = 2) := by
  unfold zx_k2 at h
  cases i with
  | zero => exact ⟨h, fun e => by omega⟩
  | succ k =>
    simp only at h
    cases hc : zx_c2 L k with
    | false =>
      rw [hc] at h
      simp only [cond_false] at h
      refine ⟨h, fun e => ?_⟩
      have e : j = k := by omega
      subst e
      unfold zx_c2 at hc
      rw [zx_nth_get, h] at hc
      cases v <;> simp_all [Value.category]
    | true =>
      rw [hc] at h
      simp only [cond_true, zx_put_set] at h
      by_cases hj : j = k
      · subst hj
        by_cases hl : j < L.length
        · rw [List.getElem?_set_self hl] at h; cases h
        · rw [List.getElem?_eq_none (by simp; omega)] at h; cases h
      · rw [List.getElem?_set_ne (Ne.symm hj)] at h
        exact ⟨h, fun e => by omega⟩
theorem zx_lr_s1 {ρ : Nat → Nat} {L L' : zx_L} {i : Nat} {v : Value} {ls' : Array Slot} (hs : zx_s1 L i v = some L') (h' : lv_has ls' L.length ((i, zx_v ρ v) :: (zx_la ρ 0 L).filter (fun q => !(q.1 == i) && !(q.1 + 1 == i && q.2.category == 2)))) : zx_lr ρ L' ls' ∧ i < L.length := by
  unfold zx_s1 at hs
  cases hlt : Nat.blt i L.length with
  | false => rw [hlt] at hs; cases hs
  | true =>
    rw [hlt] at hs
    simp only [cond_true, Option.some.injEq] at hs
    have hi := Nat.blt_eq.mp hlt
    subst hs
    refine ⟨zx_lr_of h' (by rw [zx_put_set]; simp [zx_k2_len]) (fun j w hj => ?_), hi⟩
    rw [zx_put_set] at hj
    by_cases hji : j = i
    · subst hji
      rw [List.getElem?_set_self (by rw [zx_k2_len]; exact hi)] at hj
      cases hj
      exact List.mem_cons_self
    · rw [List.getElem?_set_ne (Ne.symm hji)] at hj
      obtain ⟨hj, h2⟩ := zx_k2_at hj
      refine List.mem_cons_of_mem _ (List.mem_filter.mpr ⟨zx_la_mem.mpr ⟨j, w, by simp, hj, rfl⟩, ?_⟩)
      simp only [zx_v_cat]
      simp [hji]
      by_cases e : j + 1 = i
      · exact Or.inr (h2 e)
      · exact Or.inl e
theorem zx_lr_s2 {ρ : Nat → Nat} {L L' : zx_L} {i : Nat} {v : Value} {ls' : Array Slot} (hs : zx_s2 L i v = some L') (h' : lv_has ls' L.length ((i, zx_v ρ v) :: (zx_la ρ 0 L).filter (fun q => !(q.1 == i) && (!(q.1 == i + 1) && !(q.1 + 1 == i && q.2.category == 2))))) : zx_lr ρ L' ls' ∧ i + 1 < L.length := by
  unfold zx_s2 at hs
  cases hlt : Nat.blt (i + 1) L.length with
  | false => rw [hlt] at hs; cases hs
  | true =>
    rw [hlt] at hs
    simp only [cond_true, Option.some.injEq] at hs
    have hi := Nat.blt_eq.mp hlt
    subst hs
    refine ⟨zx_lr_of h' (by rw [zx_put_set, zx_put_set]; simp [zx_k2_len]) (fun j w hj => ?_), hi⟩
    rw [zx_put_set, zx_put_set] at hj
    by_cases hj1 : j = i + 1
    · subst hj1
      rw [List.getElem?_set_self (by simp [zx_k2_len]; omega)] at hj
      cases hj
    · rw [List.getElem?_set_ne (Ne.symm hj1)] at hj
      by_cases hji : j = i
      · subst hji
        rw [List.getElem?_set_self (by rw [zx_k2_len]; omega)] at hj
        cases hj
        exact List.mem_cons_self
      · rw [List.getElem?_set_ne (Ne.symm hji)] at hj
        obtain ⟨hj, h2⟩ := zx_k2_at hj
        refine List.mem_cons_of_mem _ (List.mem_filter.mpr ⟨zx_la_mem.mpr ⟨j, w, by simp, hj, rfl⟩, ?_⟩)
        simp only [zx_v_cat]
        simp [hji, hj1]
        by_cases e : j + 1 = i
        · exact Or.inr (h2 e)
        · exact Or.inl e
/-! the statics -/
def zx_Ss (A : Nat → Prop) (a : Nat) (U : State) (H : Heap) : Prop := (∃ t : Nat, vk_S 1 [6] [[119, 115, 113, 97, 98, 104]] (fun _ => a) (fun _ => t) A U H) ∧ va_Z "java/lang/String" "COMPACT_STRINGS" "Z" (.int 1) A U H
def zx_St (A : Nat → Prop) (ρ : Nat → Nat) (U : State) (H : Heap) : Prop := (∀ (k : Nat) (q : String × String) (l : List Int32), zx_sn[k]? = some q → zx_sa[k]? = some l → va_Z q.1 q.2 "[I" (.ref (ρ (1000 + k))) A U H ∧ va_T .int (ρ (1000 + k)) l.length (fun j => .int (l.getD j 0)) A U H) ∧ vk_R RX7 60 "wsqabh" (ρ 2000) U ∧ (∀ q ∈ zx_nests, va_Nw (.methodLinkNest RX8 q.1 q.2 RX8) U) ∧ zx_Ss A (ρ 2000) U H
theorem zx_St.warm {A : Nat → Prop} {ρ : Nat → Nat} {s U : State} {H : Heap} (hW : s.WarmedH U.vm) (h : zx_St A ρ s H) : zx_St A ρ U H := by
  obtain ⟨h1, h2, h5, ⟨t, h3⟩, h4⟩ := h
  exact ⟨fun k q l a b => ⟨va_Z.moved hW.alike (h1 k q l a b).1, va_T.moved hW.alike (h1 k q l a b).2⟩, vk_R.warm hW h2, fun q hq => va_Nw.warmM hW (h5 q hq), ⟨t, vk_S.moved hW.alike h3⟩, va_Z.moved hW.alike h4⟩
theorem zx_St.same {A : Nat → Prop} {ρ : Nat → Nat} {s U : State} {H : Heap} (hv : U.vm = s.vm) (h : zx_St A ρ s H) : zx_St A ρ U H := by
  obtain ⟨h1, h2, h5, ⟨t, h3⟩, h4⟩ := h
  have ha : s.vm.Alike U.vm := by rw [hv]; exact Vm.Alike.refl s.vm
  exact ⟨fun k q l a b => ⟨va_Z.moved ha (h1 k q l a b).1, va_T.moved ha (h1 k q l a b).2⟩, vk_R.same hv h2, fun q hq => va_Nw.same rfl hv.symm (h5 q hq), ⟨t, vk_S.moved ha h3⟩, va_Z.moved ha h4⟩
theorem zx_St.kept {A : Nat → Prop} {ρ : Nat → Nat} {U : State} {H H1 : Heap} (hq : ∀ a : Nat, a < H.size → ¬ A a → H1[a]? = H[a]?) (h : zx_St A ρ U H) : zx_St A ρ U H1 := by
  obtain ⟨h1, h2, h5, ⟨t, h3⟩, h4⟩ := h
  exact ⟨fun k q l a b => ⟨(h1 k q l a b).1.kept hq, (h1 k q l a b).2.kept hq⟩, h2, h5, ⟨t, h3.kept hq⟩, h4.kept hq⟩
theorem zx_St.narrow {A B : Nat → Prop} {ρ : Nat → Nat} {U : State} {H : Heap} (hAB : ∀ q, B q → A q) (h : zx_St A ρ U H) : zx_St B ρ U H := by
  obtain ⟨h1, h2, h5, ⟨t, h3⟩, h4⟩ := h
  exact ⟨fun k q l a b => ⟨(h1 k q l a b).1.narrow hAB, (h1 k q l a b).2.narrow hAB⟩, h2, h5, ⟨t, h3.narrow hAB⟩, h4.narrow hAB⟩
theorem zx_St.ag {A : Nat → Prop} {n : Nat} {ρ ρ' : Nat → Nat} {U : State} {H : Heap} (hag : zx_ag n ρ ρ') (h : zx_St A ρ U H) : zx_St A ρ' U H := by
  obtain ⟨h1, h2, h5, h3⟩ := h
  have e : ∀ k, 1000 ≤ k → ρ' k = ρ k := fun k hk => hag k (by unfold zx_kq; rw [Bool.or_eq_true]; exact Or.inr (Nat.ble_eq.mpr hk))
  refine ⟨fun k q l a b => ?_, ?_, h5, ?_⟩
  · rw [e _ (by omega)]; exact h1 k q l a b
  · rw [e _ (by omega)]; exact h2
  · rw [e _ (by omega)]; exact h3
