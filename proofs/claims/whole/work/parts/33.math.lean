/-! pictures -/
theorem zm_RD_congr {o gone : Nat → Int32} {jn : Int32} {js jy jm : Nat → Int32} {isOn onM onY onS ld lj lg lf lw : Int32} {ow os od : Nat → Int32} (R : zm_RD o gone jn js jy jm isOn onM onY onS ld lj lg lf lw ow os od) {o2 gone2 : Nat → Int32} {js2 jy2 jm2 ow2 os2 od2 : Nat → Int32} (h1 : ∀ k, 3 ≤ k → k ≤ 10 → o2 k = o k) (h2 : ∀ k < 7, gone2 k = gone k) (h3 : ∀ k < 7, js2 k = js k) (h4 : ∀ k < 7, jy2 k = jy k) (h5 : ∀ k < 7, jm2 k = jm k) (h6 : ∀ k < 7, ow2 k = ow k) (h7 : ∀ k < 7, os2 k = os k) (h8 : ∀ k < 7, od2 k = od k) : zm_RD o2 gone2 jn js2 jy2 jm2 isOn onM onY onS ld lj lg lf lw ow2 os2 od2 := by
  obtain ⟨d1, d2, d3, d4, d5, d6, d7, d8, d9, d10, d11, d12, n, g, n7, n1, n2, r, r2⟩ := R
  refine ⟨by rw [h1 3 (by omega) (by omega)]; exact d1, d2, by rw [h1 4 (by omega) (by omega)]; exact d3, by rw [h1 5 (by omega) (by omega)]; exact d4, by rw [h1 6 (by omega) (by omega)]; exact d5, by rw [h1 7 (by omega) (by omega)]; exact d6, by rw [h1 8 (by omega) (by omega)]; exact d7, by rw [h1 9 (by omega) (by omega)]; exact d8, by rw [h1 10 (by omega) (by omega)]; exact d9, d10, fun j hj => by rw [h2 j hj]; exact d11 j hj, fun j hj => by rw [h5 j hj]; exact d12 j hj, n, g, n7, n1, n2, fun k hk => ?_, fun j hj => by rw [h2 j hj]; exact r2 j hj⟩
  obtain ⟨q1, q2, q3, q4, q5, q6⟩ := r k hk
  have hm : zm_meets n os2 od2 k ↔ zm_meets n os od k := by
    unfold zm_meets
    constructor
    · rintro ⟨x, hx, y1, y2, y3⟩
      rw [h8 x (by omega), h8 k (by omega)] at y2
      rw [h7 x (by omega), h7 k (by omega)] at y3
      exact ⟨x, hx, y1, y2, y3⟩
    · rintro ⟨x, hx, y1, y2, y3⟩
      refine ⟨x, hx, y1, ?_, ?_⟩
      · rw [h8 x (by omega), h8 k (by omega)]; exact y2
      · rw [h7 x (by omega), h7 k (by omega)]; exact y3
  rw [h3 k (by omega), h4 k (by omega), h5 k (by omega), h6 k (by omega), h7 k (by omega), h8 k (by omega), hm]
  exact ⟨q1, q2, q3, q4, q5, q6⟩
theorem zm_01 {f : Nat → Int32} : ∀ n : Nat, (∀ k < n, f k = 0 ∨ f k = 1) → zx_01 f n = true := by
  intro n
  induction n with
  | zero => intro _; rfl
  | succ n ih =>
    intro h
    unfold zx_01
    rw [ih (fun k hk => h k (by omega))]
    rcases h n (by omega) with e | e <;> simp [e]
theorem zm_becomeP {c : zx_M} (h1 : ∀ k < 7, c.1 31 k = 0 ∨ c.1 31 k = 1) (h2 : ∀ k < 7, c.1 27 k = 0 ∨ c.1 27 k = 1) (h3 : c.1 26 3 = 0 ∨ c.1 26 3 = 1) : ∃ c', f_Deed_become_32_26 c = some c' ∧ (∀ r, ¬ r = 32 → ¬ r = 33 → ¬ r = 34 → ¬ r = 35 → ¬ r = 36 → ¬ r = 37 → c'.1 r = c.1 r) ∧ c'.2 = c.2 ∧ (∀ k, 3 ≤ k → k ≤ 10 → c'.1 32 k = c.1 26 k) ∧ c'.1 34 4 = c.1 28 4 ∧ (∀ k < 7, c'.1 33 k = c.1 27 k) ∧ (∀ k < 7, c'.1 35 k = c.1 29 k) ∧ (∀ k < 7, c'.1 36 k = c.1 30 k) ∧ ∀ k < 7, c'.1 37 k = c.1 31 k := by
  have ck : zx_ck 7 7 0 0 7 = some 7 := by decide
  have o0 : (0 : Int32).toNatClampNeg = 0 := rfl
  have j1 : zx_01 (fun i => (zx_w1 (zx_w1 c 35 (va_cpy (c.1 29) (c.1 35) 0 0 7)) 36 (va_cpy ((zx_w1 c 35 (va_cpy (c.1 29) (c.1 35) 0 0 7)).1 30) ((zx_w1 c 35 (va_cpy (c.1 29) (c.1 35) 0 0 7)).1 36) 0 0 7)).1 31 (0 + i)) 7 = true := zm_01 7 (fun k hk => by simpa [zm_w11] using h1 k hk)
  unfold f_Deed_become_32_26 f_Jumps_become_34_28
  simp only [ck, zm_bs, zm_let, o0]
  rw [if_pos j1]
  simp only [zm_bs]
  rw [if_pos (zm_01 7 (fun k hk => by simpa [zm_w11, zm_u11] using h2 k hk)), if_pos (by simpa [zm_w11, zm_u11] using h3)]
  refine ⟨_, rfl, fun r r2 r3 r4 r5 r6 r7 => ?_, rfl, fun k k3 k10 => ?_, ?_, fun k hk => ?_, fun k hk => ?_, fun k hk => ?_, fun k hk => ?_⟩
  · simp [zm_w11, zm_u11, r2, r3, r4, r5, r6, r7]
  · have hc : k = 3 ∨ k = 4 ∨ k = 5 ∨ k = 6 ∨ k = 7 ∨ k = 8 ∨ k = 9 ∨ k = 10 := by omega
    rcases hc with rfl | rfl | rfl | rfl | rfl | rfl | rfl | rfl <;> simp [zm_w11, zm_u11, zm_upd]
  · simp [zm_w11, zm_u11, zm_upd]
  · simp [zm_w11, zm_u11, zm_cpy, hk]
  · simp [zm_w11, zm_u11, zm_cpy, hk]
  · simp [zm_w11, zm_u11, zm_cpy, hk]
  · simp [zm_w11, zm_u11, zm_cpy, hk]
