theorem zi_R {C M : zx_M} (h : zi_P C M) : zm_R zq_V C M := by
  obtain ⟨⟨a1, a2⟩, b, ⟨c1, c2, c3⟩, d1, d2, ⟨e1, e2, e3, e4⟩, ⟨f1, f2⟩, ⟨g1, g2⟩, hs, ⟨i1, i2⟩, ⟨j1, j2, j3, j4, j5, j6, j7⟩, j8, k1, k2, ⟨l1, l2⟩, ⟨n1, n2⟩, ⟨o1, o2, o3, o4⟩⟩ := h
  have hrng : zm_rng (M.1 0 6) (M.1 1) := by
    rw [a2]
    refine ⟨fun j hj hlt => ?_, fun j hj _ => b j hj, c1, c2, c3⟩
    exact absurd hlt (zm_nn (by omega))
  refine ⟨⟨⟨0, by omega, a1, a2⟩, hrng, d1, d2⟩, ?_, ⟨0, by omega, f1, f2, fun i hi => absurd hi (by omega)⟩, Or.inl ⟨g1, g2⟩, fun d hd => Or.inl (hs d hd), ?_, ⟨n1.trans n2.symm, Or.inl n2, fun hz => absurd (n2.symm.trans hz) (by decide)⟩, ⟨0, by omega, o1, o2, by rw [o3, o4], by rw [o4]; exact Int32.le_refl _, fun i hi => absurd hi (by omega), fun i hi hlt => ?_⟩⟩
  · exact ⟨0, 0, fun _ => 0, fun _ => M.1 1, Nat.le_refl _, by omega, e1, e2, e3, e4, fun i hi => hrng, fun q _ => rfl, fun i hi => absurd hi (by omega)⟩
  · refine ⟨i1.trans i2.symm, Or.inl i2, j1, j2, j3, j4, j5, j6, j7, j8, fun j hj => Or.inl (k1 j hj), fun k hk => Or.inl (k2 k hk), 0, fun _ => 0, by omega, l1, l2, fun k hk => absurd hk (by omega), fun j hj => ?_⟩
    rw [k1 j hj]
    exact ⟨fun z => absurd z (by decide), fun ⟨k, hk, _⟩ => absurd hk (by omega)⟩
  · rw [o4] at hlt
    exact absurd hlt (zm_nn (by omega))
theorem zi_runs : ∃ C M : zx_M, zx_run 400 78 86 0 (zx_en zr_86.2.2.1 [.ref 0]) [] ([.inl (8, zx_df 8)], zi_M) = some (none, (zx_SC, C)) ∧ zx_run 400 78 160 0 (zx_en zr_160.2.2.1 [.ref 0]) [] ([.inl (9, zx_df 9)], zi_M) = some (none, (zx_SM, M)) ∧ zm_R zq_V C M := by
  have hck := zi_c
  generalize zx_run 400 78 86 0 (zx_en zr_86.2.2.1 [.ref 0]) [] ([.inl (8, zx_df 8)], zi_M) = a at hck ⊢
  generalize zx_run 400 78 160 0 (zx_en zr_160.2.2.1 [.ref 0]) [] ([.inl (9, zx_df 9)], zi_M) = b at hck ⊢
  unfold zi_ck at hck
  split at hck
  · rename_i S C S' M
    rw [Bool.and_eq_true, Bool.and_eq_true] at hck
    obtain ⟨h1, h2, h3⟩ := hck
    have h1 := of_decide_eq_true h1
    have h2 := of_decide_eq_true h2
    subst h1 h2
    exact ⟨C, M, rfl, rfl, zi_R (@of_decide_eq_true _ (zi_dec C M) h3)⟩
  · cases hck
