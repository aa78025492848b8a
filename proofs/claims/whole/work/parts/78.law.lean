/-! each call, in runs of the two machines; the words of its links -/
theorem zl_k172 : Cond.constantLong "OutByTurnsLaw" 172 4294967295 ∈ zx_B := zx_t7 112 rfl rfl
theorem zl_w13 : zl_wk 13 zr_87 2 := ⟨zx_t2 12 rfl rfl, zs_87, zx_t2 14 rfl rfl, by decide +kernel⟩
theorem zl_w17 : zl_wk 17 zr_169 2 := ⟨zx_t5 188 rfl rfl, zs_169, zx_t5 190 rfl rfl, by decide +kernel⟩
theorem zl_r_jumper {C M : zx_M} (H : zm_R zq_V C M) (a1 : Int32) (a2 : Int32) : ∃ (r : Int32) (C1 M1 : zx_M), zx_Ev 78 87 0 (zx_en zr_87.2.2.1 [.ref 0, .int a1, .int a2]) [] (zx_SC, C) (some (.int r), (zx_SC, C1)) ∧ zx_Ev 78 169 0 (zx_en zr_169.2.2.1 [.ref 0, .int a1, .int a2]) [] (zx_SM, M) (some (.int r), (zx_SM, M1)) ∧ zm_R zq_V C1 M1 := by
  obtain ⟨r, C1, M1, e1, e2, H1⟩ := t_jumper H a1 a2
  exact ⟨r, C1, M1, s_C_jumper a1 a2 C (d := 76) e1, s_M_jumper a1 a2 M (d := 76) e2, H1⟩
theorem zl_w18 : zl_wk 18 zr_88 3 := ⟨zx_t2 36 rfl rfl, zs_88, zx_t2 38 rfl rfl, by decide +kernel⟩
theorem zl_w22 : zl_wk 22 zr_170 3 := ⟨zx_t5 203 rfl rfl, zs_170, zx_t5 205 rfl rfl, by decide +kernel⟩
theorem zl_r_jumpers {C M : zx_M} (H : zm_R zq_V C M) (a1 : Int32) (a2 : Int32) (a3 : Int32) : ∃ (r : Int32) (C1 M1 : zx_M), zx_Ev 78 88 0 (zx_en zr_88.2.2.1 [.ref 0, .int a1, .int a2, .int a3]) [] (zx_SC, C) (some (.int r), (zx_SC, C1)) ∧ zx_Ev 78 170 0 (zx_en zr_170.2.2.1 [.ref 0, .int a1, .int a2, .int a3]) [] (zx_SM, M) (some (.int r), (zx_SM, M1)) ∧ zm_R zq_V C1 M1 := by
  obtain ⟨r, C1, M1, e1, e2, H1⟩ := t_jumpers H a1 a2 a3
  exact ⟨r, C1, M1, s_C_jumpers a1 a2 a3 C (d := 74) e1, s_M_jumpers a1 a2 a3 M (d := 76) e2, H1⟩
theorem zl_w23 : zl_wk 23 zr_90 3 := ⟨zx_t2 65 rfl rfl, zs_90, zx_t2 67 rfl rfl, by decide +kernel⟩
theorem zl_w26 : zl_wk 26 zr_173 3 := ⟨zx_t5 212 rfl rfl, zs_173, zx_t5 214 rfl rfl, by decide +kernel⟩
theorem zl_r_mend {C M : zx_M} (H : zm_R zq_V C M) (a1 : Int32) (a2 : Int32) (a3 : Int32) : ∃ (r : Int32) (C1 M1 : zx_M), zx_Ev 78 90 0 (zx_en zr_90.2.2.1 [.ref 0, .int a1, .int a2, .int a3]) [] (zx_SC, C) (some (.int r), (zx_SC, C1)) ∧ zx_Ev 78 173 0 (zx_en zr_173.2.2.1 [.ref 0, .int a1, .int a2, .int a3]) [] (zx_SM, M) (some (.int r), (zx_SM, M1)) ∧ zm_R zq_V C1 M1 := by
  obtain ⟨r, C1, M1, e1, e2, H1⟩ := t_mend H a1 a2 a3
  exact ⟨r, C1, M1, s_C_mend a1 a2 a3 C (d := 75) e1, s_M_mend a1 a2 a3 M (d := 75) e2, H1⟩
theorem zl_w27 : zl_wk 27 zr_91 2 := ⟨zx_t2 91 rfl rfl, zs_91, zx_t2 93 rfl rfl, by decide +kernel⟩
theorem zl_w30 : zl_wk 30 zr_174 2 := ⟨zx_t6 4 rfl rfl, zs_174, zx_t6 6 rfl rfl, by decide +kernel⟩
theorem zl_r_of {C M : zx_M} (H : zm_R zq_V C M) (a1 : Int32) (a2 : Int32) : ∃ (r : Int32) (C1 M1 : zx_M), zx_Ev 78 91 0 (zx_en zr_91.2.2.1 [.ref 0, .int a1, .int a2]) [] (zx_SC, C) (some (.int r), (zx_SC, C1)) ∧ zx_Ev 78 174 0 (zx_en zr_174.2.2.1 [.ref 0, .int a1, .int a2]) [] (zx_SM, M) (some (.int r), (zx_SM, M1)) ∧ zm_R zq_V C1 M1 := by
  obtain ⟨r, e1, e2⟩ := t_of (H.1) a1 a2
  exact ⟨r, C, M, s_C_of a1 a2 C (d := 76) e1, s_M_of a1 a2 M (d := 75) e2, H⟩
theorem zl_w31 : zl_wk 31 zr_92 1 := ⟨zx_t2 95 rfl rfl, zs_92, zx_t2 97 rfl rfl, by decide +kernel⟩
theorem zl_w35 : zl_wk 35 zr_175 1 := ⟨zx_t6 8 rfl rfl, zs_175, zx_t6 10 rfl rfl, by decide +kernel⟩
theorem zl_r_feed {C M : zx_M} (H : zm_R zq_V C M) (a1 : Int32) : ∃ (r : Int32) (C1 M1 : zx_M), zx_Ev 78 92 0 (zx_en zr_92.2.2.1 [.ref 0, .int a1]) [] (zx_SC, C) (some (.int r), (zx_SC, C1)) ∧ zx_Ev 78 175 0 (zx_en zr_175.2.2.1 [.ref 0, .int a1]) [] (zx_SM, M) (some (.int r), (zx_SM, M1)) ∧ zm_R zq_V C1 M1 := by
  obtain ⟨r, C1, M1, e1, e2, H1⟩ := t_feed H a1
  exact ⟨r, C1, M1, s_C_feed a1 C (d := 77) e1, s_M_feed a1 M (d := 77) e2, H1⟩
theorem zl_w36 : zl_wk 36 zr_93 0 := ⟨zx_t2 103 rfl rfl, zs_93, zx_t2 105 rfl rfl, by decide +kernel⟩
theorem zl_w40 : zl_wk 40 zr_187 0 := ⟨zx_t6 13 rfl rfl, zs_187, zx_t6 15 rfl rfl, by decide +kernel⟩
theorem zl_r_law {C M : zx_M} (H : zm_R zq_V C M)  : ∃ (r : Int32) (C1 M1 : zx_M), zx_Ev 78 93 0 (zx_en zr_93.2.2.1 [.ref 0]) [] (zx_SC, C) (some (.int r), (zx_SC, C1)) ∧ zx_Ev 78 187 0 (zx_en zr_187.2.2.1 [.ref 0]) [] (zx_SM, M) (some (.int r), (zx_SM, M1)) ∧ zm_R zq_V C1 M1 := by
  obtain ⟨r, C1, M1, e1, e2, H1⟩ := t_law H 
  exact ⟨r, C1, M1, s_C_law  C (d := 3) e1, s_M_law  M (d := 11) e2, H1⟩
theorem zl_w41 : zl_wk 41 zr_94 1 := ⟨zx_t3 0 rfl rfl, zs_94, zx_t3 2 rfl rfl, by decide +kernel⟩
theorem zl_w44 : zl_wk 44 zr_189 1 := ⟨zx_t6 60 rfl rfl, zs_189, zx_t6 62 rfl rfl, by decide +kernel⟩
theorem zl_r_carried {C M : zx_M} (H : zm_R zq_V C M) (a1 : Int32) : ∃ (r : Int32) (C1 M1 : zx_M), zx_Ev 78 94 0 (zx_en zr_94.2.2.1 [.ref 0, .int a1]) [] (zx_SC, C) (some (.int r), (zx_SC, C1)) ∧ zx_Ev 78 189 0 (zx_en zr_189.2.2.1 [.ref 0, .int a1]) [] (zx_SM, M) (some (.int r), (zx_SM, M1)) ∧ zm_R zq_V C1 M1 := by
  obtain ⟨r, C1, M1, e1, e2, H1⟩ := t_carried H a1
  exact ⟨r, C1, M1, s_C_carried a1 C (d := 2) e1, s_M_carried a1 M (d := 10) e2, H1⟩
theorem zl_w45 : zl_wk 45 zr_113 3 := ⟨zx_t3 23 rfl rfl, zs_113, zx_t3 25 rfl rfl, by decide +kernel⟩
theorem zl_w48 : zl_wk 48 zr_205 3 := ⟨zx_t6 72 rfl rfl, zs_205, zx_t6 74 rfl rfl, by decide +kernel⟩
theorem zl_r_down {C M : zx_M} (H : zm_R zq_V C M) (a1 : Int32) (a2 : Int32) (a3 : Int32) : ∃ (r : Int32) (C1 M1 : zx_M), zx_Ev 78 113 0 (zx_en zr_113.2.2.1 [.ref 0, .int a1, .int a2, .int a3]) [] (zx_SC, C) (some (.int r), (zx_SC, C1)) ∧ zx_Ev 78 205 0 (zx_en zr_205.2.2.1 [.ref 0, .int a1, .int a2, .int a3]) [] (zx_SM, M) (some (.int r), (zx_SM, M1)) ∧ zm_R zq_V C1 M1 := by
  obtain ⟨r, C1, M1, e1, e2, H1⟩ := t_down H a1 a2 a3
  exact ⟨r, C1, M1, s_C_down a1 a2 a3 C (d := 0) e1, s_M_down a1 a2 a3 M (d := 8) e2, H1⟩
theorem zl_w49 : zl_wk 49 zr_114 3 := ⟨zx_t3 112 rfl rfl, zs_114, zx_t3 114 rfl rfl, by decide +kernel⟩
theorem zl_w52 : zl_wk 52 zr_206 3 := ⟨zx_t6 113 rfl rfl, zs_206, zx_t6 115 rfl rfl, by decide +kernel⟩
theorem zl_r_drop {C M : zx_M} (H : zm_R zq_V C M) (a1 : Int32) (a2 : Int32) (a3 : Int32) : ∃ (r : Int32) (C1 M1 : zx_M), zx_Ev 78 114 0 (zx_en zr_114.2.2.1 [.ref 0, .int a1, .int a2, .int a3]) [] (zx_SC, C) (some (.int r), (zx_SC, C1)) ∧ zx_Ev 78 206 0 (zx_en zr_206.2.2.1 [.ref 0, .int a1, .int a2, .int a3]) [] (zx_SM, M) (some (.int r), (zx_SM, M1)) ∧ zm_R zq_V C1 M1 := by
  obtain ⟨r, C1, M1, e1, e2, H1⟩ := t_drop H a1 a2 a3
  exact ⟨r, C1, M1, s_C_drop a1 a2 a3 C (d := 0) e1, s_M_drop a1 a2 a3 M (d := 8) e2, H1⟩
theorem zl_w53 : zl_wk 53 zr_115 3 := ⟨zx_t3 133 rfl rfl, zs_115, zx_t3 135 rfl rfl, by decide +kernel⟩
theorem zl_w56 : zl_wk 56 zr_208 3 := ⟨zx_t6 141 rfl rfl, zs_208, zx_t6 143 rfl rfl, by decide +kernel⟩
theorem zl_r_spotFor {C M : zx_M} (H : zm_R zq_V C M) (a1 : Int32) (a2 : Int32) (a3 : Int32) : ∃ (r : Int32) (C1 M1 : zx_M), zx_Ev 78 115 0 (zx_en zr_115.2.2.1 [.ref 0, .int a1, .int a2, .int a3]) [] (zx_SC, C) (some (.int r), (zx_SC, C1)) ∧ zx_Ev 78 208 0 (zx_en zr_208.2.2.1 [.ref 0, .int a1, .int a2, .int a3]) [] (zx_SM, M) (some (.int r), (zx_SM, M1)) ∧ zm_R zq_V C1 M1 := by
  obtain ⟨r, C1, M1, e1, e2, H1⟩ := t_spotFor H a1 a2 a3
  exact ⟨r, C1, M1, s_C_spotFor a1 a2 a3 C (d := 0) e1, s_M_spotFor a1 a2 a3 M (d := 8) e2, H1⟩
theorem zl_w57 : zl_wk 57 zr_116 3 := ⟨zx_t3 148 rfl rfl, zs_116, zx_t3 150 rfl rfl, by decide +kernel⟩
theorem zl_w60 : zl_wk 60 zr_209 3 := ⟨zx_t6 153 rfl rfl, zs_209, zx_t6 155 rfl rfl, by decide +kernel⟩
theorem zl_r_countFor {C M : zx_M} (H : zm_R zq_V C M) (a1 : Int32) (a2 : Int32) (a3 : Int32) : ∃ (r : Int32) (C1 M1 : zx_M), zx_Ev 78 116 0 (zx_en zr_116.2.2.1 [.ref 0, .int a1, .int a2, .int a3]) [] (zx_SC, C) (some (.int r), (zx_SC, C1)) ∧ zx_Ev 78 209 0 (zx_en zr_209.2.2.1 [.ref 0, .int a1, .int a2, .int a3]) [] (zx_SM, M) (some (.int r), (zx_SM, M1)) ∧ zm_R zq_V C1 M1 := by
  obtain ⟨r, C1, M1, e1, e2, H1⟩ := t_countFor H a1 a2 a3
  exact ⟨r, C1, M1, s_C_countFor a1 a2 a3 C (d := 0) e1, s_M_countFor a1 a2 a3 M (d := 8) e2, H1⟩
theorem zl_w61 : zl_wk 61 zr_117 2 := ⟨zx_t3 155 rfl rfl, zs_117, zx_t3 157 rfl rfl, by decide +kernel⟩
theorem zl_w64 : zl_wk 64 zr_211 2 := ⟨zx_t6 157 rfl rfl, zs_211, zx_t6 159 rfl rfl, by decide +kernel⟩
theorem zl_r_orderFor {C M : zx_M} (H : zm_R zq_V C M) (a1 : Int32) (a2 : Int32) : ∃ (r : Int32) (C1 M1 : zx_M), zx_Ev 78 117 0 (zx_en zr_117.2.2.1 [.ref 0, .int a1, .int a2]) [] (zx_SC, C) (some (.int r), (zx_SC, C1)) ∧ zx_Ev 78 211 0 (zx_en zr_211.2.2.1 [.ref 0, .int a1, .int a2]) [] (zx_SM, M) (some (.int r), (zx_SM, M1)) ∧ zm_R zq_V C1 M1 := by
  obtain ⟨r, C1, M1, e1, e2, H1⟩ := t_orderFor H a1 a2
  exact ⟨r, C1, M1, s_C_orderFor a1 a2 C (d := 1) e1, s_M_orderFor a1 a2 M (d := 9) e2, H1⟩
theorem zl_w65 : zl_wk 65 zr_118 3 := ⟨zx_t3 170 rfl rfl, zs_118, zx_t3 172 rfl rfl, by decide +kernel⟩
theorem zl_w68 : zl_wk 68 zr_213 3 := ⟨zx_t6 165 rfl rfl, zs_213, zx_t6 167 rfl rfl, by decide +kernel⟩
theorem zl_r_pass {C M : zx_M} (H : zm_R zq_V C M) (a1 : Int32) (a2 : Int32) (a3 : Int32) : ∃ (r : Int32) (C1 M1 : zx_M), zx_Ev 78 118 0 (zx_en zr_118.2.2.1 [.ref 0, .int a1, .int a2, .int a3]) [] (zx_SC, C) (some (.int r), (zx_SC, C1)) ∧ zx_Ev 78 213 0 (zx_en zr_213.2.2.1 [.ref 0, .int a1, .int a2, .int a3]) [] (zx_SM, M) (some (.int r), (zx_SM, M1)) ∧ zm_R zq_V C1 M1 := by
  obtain ⟨r, C1, M1, e1, e2, H1⟩ := t_pass H a1 a2 a3
  exact ⟨r, C1, M1, s_C_pass a1 a2 a3 C (d := 0) e1, s_M_pass a1 a2 a3 M (d := 8) e2, H1⟩
theorem zl_w69 : zl_wk 69 zr_121 2 := ⟨zx_t3 186 rfl rfl, zs_121, zx_t3 188 rfl rfl, by decide +kernel⟩
theorem zl_w72 : zl_wk 72 zr_214 2 := ⟨zx_t6 173 rfl rfl, zs_214, zx_t6 175 rfl rfl, by decide +kernel⟩
theorem zl_r_runIn {C M : zx_M} (H : zm_R zq_V C M) (a1 : Int32) (a2 : Int32) : ∃ (r : Int32) (C1 M1 : zx_M), zx_Ev 78 121 0 (zx_en zr_121.2.2.1 [.ref 0, .int a1, .int a2]) [] (zx_SC, C) (some (.int r), (zx_SC, C1)) ∧ zx_Ev 78 214 0 (zx_en zr_214.2.2.1 [.ref 0, .int a1, .int a2]) [] (zx_SM, M) (some (.int r), (zx_SM, M1)) ∧ zm_R zq_V C1 M1 := by
  obtain ⟨r, C1, M1, e1, e2, H1⟩ := t_runIn H a1 a2
  exact ⟨r, C1, M1, s_C_runIn a1 a2 C (d := 0) e1, s_M_runIn a1 a2 M (d := 8) e2, H1⟩
theorem zl_w73 : zl_wk 73 zr_122 1 := ⟨zx_t3 190 rfl rfl, zs_122, zx_t3 192 rfl rfl, by decide +kernel⟩
theorem zl_w76 : zl_wk 76 zr_215 1 := ⟨zx_t6 177 rfl rfl, zs_215, zx_t6 179 rfl rfl, by decide +kernel⟩
theorem zl_r_room {C M : zx_M} (H : zm_R zq_V C M) (a1 : Int32) : ∃ (r : Int32) (C1 M1 : zx_M), zx_Ev 78 122 0 (zx_en zr_122.2.2.1 [.ref 0, .int a1]) [] (zx_SC, C) (some (.int r), (zx_SC, C1)) ∧ zx_Ev 78 215 0 (zx_en zr_215.2.2.1 [.ref 0, .int a1]) [] (zx_SM, M) (some (.int r), (zx_SM, M1)) ∧ zm_R zq_V C1 M1 := by
  obtain ⟨r, C1, M1, e1, e2, H1⟩ := t_room H a1
  exact ⟨r, C1, M1, s_C_room a1 C (d := 0) e1, s_M_room a1 M (d := 8) e2, H1⟩
theorem zl_w77 : zl_wk 77 zr_123 2 := ⟨zx_t3 194 rfl rfl, zs_123, zx_t3 196 rfl rfl, by decide +kernel⟩
theorem zl_w80 : zl_wk 80 zr_216 2 := ⟨zx_t6 181 rfl rfl, zs_216, zx_t6 183 rfl rfl, by decide +kernel⟩
theorem zl_r_last {C M : zx_M} (H : zm_R zq_V C M) (a1 : Int32) (a2 : Int32) : ∃ (r : Int32) (C1 M1 : zx_M), zx_Ev 78 123 0 (zx_en zr_123.2.2.1 [.ref 0, .int a1, .int a2]) [] (zx_SC, C) (some (.int r), (zx_SC, C1)) ∧ zx_Ev 78 216 0 (zx_en zr_216.2.2.1 [.ref 0, .int a1, .int a2]) [] (zx_SM, M) (some (.int r), (zx_SM, M1)) ∧ zm_R zq_V C1 M1 := by
  obtain ⟨r, C1, M1, e1, e2, H1⟩ := t_last H a1 a2
  exact ⟨r, C1, M1, s_C_last a1 a2 C (d := 0) e1, s_M_last a1 a2 M (d := 8) e2, H1⟩
theorem zl_w81 : zl_wk 81 zr_124 4 := ⟨zx_t3 203 rfl rfl, zs_124, zx_t3 205 rfl rfl, by decide +kernel⟩
theorem zl_w85 : zl_wk 85 zr_218 4 := ⟨zx_t6 185 rfl rfl, zs_218, zx_t6 187 rfl rfl, by decide +kernel⟩
theorem zl_r_sticks {C M : zx_M} (H : zm_R zq_V C M) (a1 : Int32) (a2 : Int32) (a3 : Int32) (a4 : Int32) : ∃ (r : Int32) (C1 M1 : zx_M), zx_Ev 78 124 0 (zx_en zr_124.2.2.1 [.ref 0, .int a1, .int a2, .int a3, .int a4]) [] (zx_SC, C) (some (.int r), (zx_SC, C1)) ∧ zx_Ev 78 218 0 (zx_en zr_218.2.2.1 [.ref 0, .int a1, .int a2, .int a3, .int a4]) [] (zx_SM, M) (some (.int r), (zx_SM, M1)) ∧ zm_R zq_V C1 M1 := by
  obtain ⟨r, C1, M1, e1, e2, H1⟩ := t_sticks H a1 a2 a3 a4
  exact ⟨r, C1, M1, s_C_sticks a1 a2 a3 a4 C (d := 0) e1, s_M_sticks a1 a2 a3 a4 M (d := 8) e2, H1⟩
theorem zl_w86 : zl_wk 86 zr_128 2 := ⟨zx_t3 215 rfl rfl, zs_128, zx_t3 217 rfl rfl, by decide +kernel⟩
theorem zl_w90 : zl_wk 90 zr_221 2 := ⟨zx_t6 193 rfl rfl, zs_221, zx_t6 195 rfl rfl, by decide +kernel⟩
theorem zl_r_sure {C M : zx_M} (H : zm_R zq_V C M) (a1 : Int32) (a2 : Int32) : ∃ (r : Int64) (C1 M1 : zx_M), zx_Ev 78 128 0 (zx_en zr_128.2.2.1 [.ref 0, .int a1, .int a2]) [] (zx_SC, C) (some (.long r), (zx_SC, C1)) ∧ zx_Ev 78 221 0 (zx_en zr_221.2.2.1 [.ref 0, .int a1, .int a2]) [] (zx_SM, M) (some (.long r), (zx_SM, M1)) ∧ zm_R zq_V C1 M1 := by
  obtain ⟨r, C1, M1, e1, e2, H1⟩ := t_sure H a1 a2
  exact ⟨r, C1, M1, s_C_sure a1 a2 C (d := 0) e1, s_M_sure a1 a2 M (d := 8) e2, H1⟩
theorem zl_w91 : zl_wk 91 zr_129 4 := ⟨zx_t3 227 rfl rfl, zs_129, zx_t3 229 rfl rfl, by decide +kernel⟩
theorem zl_w95 : zl_wk 95 zr_222 4 := ⟨zx_t6 204 rfl rfl, zs_222, zx_t6 206 rfl rfl, by decide +kernel⟩
theorem zl_r_mean {C M : zx_M} (H : zm_R zq_V C M) (a1 : Int32) (a2 : Int32) (a3 : Int32) (a4 : Int32) : ∃ (r : Int64) (C1 M1 : zx_M), zx_Ev 78 129 0 (zx_en zr_129.2.2.1 [.ref 0, .int a1, .int a2, .int a3, .int a4]) [] (zx_SC, C) (some (.long r), (zx_SC, C1)) ∧ zx_Ev 78 222 0 (zx_en zr_222.2.2.1 [.ref 0, .int a1, .int a2, .int a3, .int a4]) [] (zx_SM, M) (some (.long r), (zx_SM, M1)) ∧ zm_R zq_V C1 M1 := by
  obtain ⟨r, C1, M1, e1, e2, H1⟩ := t_mean H a1 a2 a3 a4
  exact ⟨r, C1, M1, s_C_mean a1 a2 a3 a4 C (d := 0) e1, s_M_mean a1 a2 a3 a4 M (d := 8) e2, H1⟩
theorem zl_w96 : zl_wk 96 zr_131 1 := ⟨zx_t3 235 rfl rfl, zs_131, zx_t3 237 rfl rfl, by decide +kernel⟩
theorem zl_w99 : zl_wk 99 zr_223 1 := ⟨zx_t6 208 rfl rfl, zs_223, zx_t6 210 rfl rfl, by decide +kernel⟩
theorem zl_r_paper {C M : zx_M} (H : zm_R zq_V C M) (a1 : Int32) : ∃ (r : Int32) (C1 M1 : zx_M), zx_Ev 78 131 0 (zx_en zr_131.2.2.1 [.ref 0, .int a1]) [] (zx_SC, C) (some (.int r), (zx_SC, C1)) ∧ zx_Ev 78 223 0 (zx_en zr_223.2.2.1 [.ref 0, .int a1]) [] (zx_SM, M) (some (.int r), (zx_SM, M1)) ∧ zm_R zq_V C1 M1 := by
  obtain ⟨r, e1, e2⟩ := t_paper (H.1) a1
  exact ⟨r, C, M, s_C_paper a1 C (d := 77) e1, s_M_paper a1 M (d := 76) e2, H⟩
theorem zl_w100 : zl_wk 100 zr_132 2 := ⟨zx_t3 239 rfl rfl, zs_132, zx_t4 1 rfl rfl, by decide +kernel⟩
theorem zl_w103 : zl_wk 103 zr_224 2 := ⟨zx_t6 212 rfl rfl, zs_224, zx_t6 214 rfl rfl, by decide +kernel⟩
theorem zl_r_windBy {C M : zx_M} (H : zm_R zq_V C M) (a1 : Int32) (a2 : Int32) : ∃ (r : Int32) (C1 M1 : zx_M), zx_Ev 78 132 0 (zx_en zr_132.2.2.1 [.ref 0, .int a1, .int a2]) [] (zx_SC, C) (some (.int r), (zx_SC, C1)) ∧ zx_Ev 78 224 0 (zx_en zr_224.2.2.1 [.ref 0, .int a1, .int a2]) [] (zx_SM, M) (some (.int r), (zx_SM, M1)) ∧ zm_R zq_V C1 M1 := by
  obtain ⟨r, e1, e2⟩ := t_windBy (H.1) a1 a2
  exact ⟨r, C, M, s_C_windBy a1 a2 C (d := 77) e1, s_M_windBy a1 a2 M (d := 76) e2, H⟩
theorem zl_w104 : zl_wk 104 zr_135 2 := ⟨zx_t4 4 rfl rfl, zs_135, zx_t4 6 rfl rfl, by decide +kernel⟩
theorem zl_w107 : zl_wk 107 zr_227 2 := ⟨zx_t6 216 rfl rfl, zs_227, zx_t6 218 rfl rfl, by decide +kernel⟩
theorem zl_r_judge {C M : zx_M} (H : zm_R zq_V C M) (a1 : Int32) (a2 : Int32) : ∃ (r : Int32) (C1 M1 : zx_M), zx_Ev 78 135 0 (zx_en zr_135.2.2.1 [.ref 0, .int a1, .int a2]) [] (zx_SC, C) (some (.int r), (zx_SC, C1)) ∧ zx_Ev 78 227 0 (zx_en zr_227.2.2.1 [.ref 0, .int a1, .int a2]) [] (zx_SM, M) (some (.int r), (zx_SM, M1)) ∧ zm_R zq_V C1 M1 := by
  obtain ⟨r, C1, M1, e1, e2, H1⟩ := t_judge H a1 a2
  exact ⟨r, C1, M1, s_C_judge a1 a2 C (d := 0) e1, s_M_judge a1 a2 M (d := 8) e2, H1⟩
theorem zl_w108 : zl_wk 108 zr_136 2 := ⟨zx_t4 16 rfl rfl, zs_136, zx_t4 18 rfl rfl, by decide +kernel⟩
theorem zl_w111 : zl_wk 111 zr_228 2 := ⟨zx_t6 228 rfl rfl, zs_228, zx_t6 230 rfl rfl, by decide +kernel⟩
theorem zl_r_fromWhere {C M : zx_M} (H : zm_R zq_V C M) (a1 : Int32) (a2 : Int32) : ∃ (r : Int32) (C1 M1 : zx_M), zx_Ev 78 136 0 (zx_en zr_136.2.2.1 [.ref 0, .int a1, .int a2]) [] (zx_SC, C) (some (.int r), (zx_SC, C1)) ∧ zx_Ev 78 228 0 (zx_en zr_228.2.2.1 [.ref 0, .int a1, .int a2]) [] (zx_SM, M) (some (.int r), (zx_SM, M1)) ∧ zm_R zq_V C1 M1 := by
  obtain ⟨r, C1, M1, e1, e2, H1⟩ := t_fromWhere H a1 a2
  exact ⟨r, C1, M1, s_C_fromWhere a1 a2 C (d := 0) e1, s_M_fromWhere a1 a2 M (d := 8) e2, H1⟩
theorem zl_w112 : zl_wk 112 zr_137 3 := ⟨zx_t4 20 rfl rfl, zs_137, zx_t4 22 rfl rfl, by decide +kernel⟩
theorem zl_w115 : zl_wk 115 zr_230 3 := ⟨zx_t6 232 rfl rfl, zs_230, zx_t6 234 rfl rfl, by decide +kernel⟩
theorem zl_r_which {C M : zx_M} (H : zm_R zq_V C M) (a1 : Int32) (a2 : Int32) (a3 : Int32) : ∃ (r : Int32) (C1 M1 : zx_M), zx_Ev 78 137 0 (zx_en zr_137.2.2.1 [.ref 0, .int a1, .int a2, .int a3]) [] (zx_SC, C) (some (.int r), (zx_SC, C1)) ∧ zx_Ev 78 230 0 (zx_en zr_230.2.2.1 [.ref 0, .int a1, .int a2, .int a3]) [] (zx_SM, M) (some (.int r), (zx_SM, M1)) ∧ zm_R zq_V C1 M1 := by
  obtain ⟨r, C1, M1, e1, e2, H1⟩ := t_which H a1 a2 a3
  exact ⟨r, C1, M1, s_C_which a1 a2 a3 C (d := 1) e1, s_M_which a1 a2 a3 M (d := 9) e2, H1⟩
theorem zl_w116 : zl_wk 116 zr_138 4 := ⟨zx_t4 28 rfl rfl, zs_138, zx_t4 30 rfl rfl, by decide +kernel⟩
theorem zl_w119 : zl_wk 119 zr_231 4 := ⟨zx_t7 0 rfl rfl, zs_231, zx_t7 2 rfl rfl, by decide +kernel⟩
theorem zl_r_drawn {C M : zx_M} (H : zm_R zq_V C M) (a1 : Int32) (a2 : Int32) (a3 : Int32) (a4 : Int32) : ∃ (r : Int32) (C1 M1 : zx_M), zx_Ev 78 138 0 (zx_en zr_138.2.2.1 [.ref 0, .int a1, .int a2, .int a3, .int a4]) [] (zx_SC, C) (some (.int r), (zx_SC, C1)) ∧ zx_Ev 78 231 0 (zx_en zr_231.2.2.1 [.ref 0, .int a1, .int a2, .int a3, .int a4]) [] (zx_SM, M) (some (.int r), (zx_SM, M1)) ∧ zm_R zq_V C1 M1 := by
  obtain ⟨r, C1, M1, e1, e2, H1⟩ := t_drawn H a1 a2 a3 a4
  exact ⟨r, C1, M1, s_C_drawn a1 a2 a3 a4 C (d := 0) e1, s_M_drawn a1 a2 a3 a4 M (d := 8) e2, H1⟩
theorem zl_w120 : zl_wk 120 zr_139 1 := ⟨zx_t4 33 rfl rfl, zs_139, zx_t4 35 rfl rfl, by decide +kernel⟩
theorem zl_w123 : zl_wk 123 zr_232 1 := ⟨zx_t7 5 rfl rfl, zs_232, zx_t7 7 rfl rfl, by decide +kernel⟩
theorem zl_r_begin {C M : zx_M} (H : zm_R zq_V C M) (a1 : Int32) : ∃ (r : Int32) (C1 M1 : zx_M), zx_Ev 78 139 0 (zx_en zr_139.2.2.1 [.ref 0, .int a1]) [] (zx_SC, C) (some (.int r), (zx_SC, C1)) ∧ zx_Ev 78 232 0 (zx_en zr_232.2.2.1 [.ref 0, .int a1]) [] (zx_SM, M) (some (.int r), (zx_SM, M1)) ∧ zm_R zq_V C1 M1 := by
  obtain ⟨r, C1, M1, e1, e2, H1⟩ := t_begin H a1
  exact ⟨r, C1, M1, s_C_begin a1 C (d := 76) e1, s_M_begin a1 M (d := 76) e2, H1⟩
theorem zl_w124 : zl_wk 124 zr_140 2 := ⟨zx_t4 43 rfl rfl, zs_140, zx_t4 45 rfl rfl, by decide +kernel⟩
theorem zl_w127 : zl_wk 127 zr_234 2 := ⟨zx_t7 9 rfl rfl, zs_234, zx_t7 11 rfl rfl, by decide +kernel⟩
theorem zl_r_go {C M : zx_M} (H : zm_R zq_V C M) (a1 : Int32) (a2 : Int32) : ∃ (r : Int32) (C1 M1 : zx_M), zx_Ev 78 140 0 (zx_en zr_140.2.2.1 [.ref 0, .int a1, .int a2]) [] (zx_SC, C) (some (.int r), (zx_SC, C1)) ∧ zx_Ev 78 234 0 (zx_en zr_234.2.2.1 [.ref 0, .int a1, .int a2]) [] (zx_SM, M) (some (.int r), (zx_SM, M1)) ∧ zm_R zq_V C1 M1 := by
  obtain ⟨r, C1, M1, e1, e2, H1⟩ := t_go H a1 a2
  exact ⟨r, C1, M1, s_C_go a1 a2 C (d := 2) e1, s_M_go a1 a2 M (d := 10) e2, H1⟩
theorem zl_w128 : zl_wk 128 zr_141 0 := ⟨zx_t4 58 rfl rfl, zs_141, zx_t4 60 rfl rfl, by decide +kernel⟩
theorem zl_w131 : zl_wk 131 zr_235 0 := ⟨zx_t7 17 rfl rfl, zs_235, zx_t7 19 rfl rfl, by decide +kernel⟩
theorem zl_r_over {C M : zx_M} (H : zm_R zq_V C M)  : ∃ (r : Int32) (C1 M1 : zx_M), zx_Ev 78 141 0 (zx_en zr_141.2.2.1 [.ref 0]) [] (zx_SC, C) (some (.int r), (zx_SC, C1)) ∧ zx_Ev 78 235 0 (zx_en zr_235.2.2.1 [.ref 0]) [] (zx_SM, M) (some (.int r), (zx_SM, M1)) ∧ zm_R zq_V C1 M1 := by
  obtain ⟨r, C1, M1, e1, e2, H1⟩ := t_over H 
  exact ⟨r, C1, M1, s_C_over  C (d := 74) e1, s_M_over  M (d := 75) e2, H1⟩
theorem zl_w132 : zl_wk 132 zr_142 1 := ⟨zx_t4 67 rfl rfl, zs_142, zx_t4 69 rfl rfl, by decide +kernel⟩
theorem zl_w135 : zl_wk 135 zr_236 1 := ⟨zx_t7 21 rfl rfl, zs_236, zx_t7 23 rfl rfl, by decide +kernel⟩
theorem zl_r_led {C M : zx_M} (H : zm_R zq_V C M) (a1 : Int32) : ∃ (r : Int32) (C1 M1 : zx_M), zx_Ev 78 142 0 (zx_en zr_142.2.2.1 [.ref 0, .int a1]) [] (zx_SC, C) (some (.int r), (zx_SC, C1)) ∧ zx_Ev 78 236 0 (zx_en zr_236.2.2.1 [.ref 0, .int a1]) [] (zx_SM, M) (some (.int r), (zx_SM, M1)) ∧ zm_R zq_V C1 M1 := by
  obtain ⟨h3, -, h4, -, h6, h7, h8, h9, h10, -⟩ := id H.2.2.2.2.2.1
  obtain ⟨r, e1, e2⟩ := t_led h3 h4 h6 h7 h8 h9 h10 a1
  exact ⟨r, C, M, s_C_led a1 C (d := 77) e1, s_M_led a1 M (d := 78) e2, H⟩
theorem zl_w136 : zl_wk 136 zr_143 0 := ⟨zx_t4 75 rfl rfl, zs_143, zx_t4 77 rfl rfl, by decide +kernel⟩
theorem zl_w139 : zl_wk 139 zr_237 0 := ⟨zx_t7 25 rfl rfl, zs_237, zx_t7 27 rfl rfl, by decide +kernel⟩
theorem zl_r_image {C M : zx_M} (H : zm_R zq_V C M)  : ∃ (r : Int32) (C1 M1 : zx_M), zx_Ev 78 143 0 (zx_en zr_143.2.2.1 [.ref 0]) [] (zx_SC, C) (some (.int r), (zx_SC, C1)) ∧ zx_Ev 78 237 0 (zx_en zr_237.2.2.1 [.ref 0]) [] (zx_SM, M) (some (.int r), (zx_SM, M1)) ∧ zm_R zq_V C1 M1 := by
  obtain ⟨r, C1, M1, e1, e2, H1⟩ := t_image H 
  exact ⟨r, C1, M1, s_C_image  C (d := 75) e1, s_M_image  M (d := 77) e2, H1⟩
theorem zl_w140 : zl_wk 140 zr_144 0 := ⟨zx_t4 93 rfl rfl, zs_144, zx_t4 95 rfl rfl, by decide +kernel⟩
theorem zl_w143 : zl_wk 143 zr_238 0 := ⟨zx_t7 30 rfl rfl, zs_238, zx_t7 32 rfl rfl, by decide +kernel⟩
theorem zl_r_back {C M : zx_M} (H : zm_R zq_V C M)  : ∃ (r : Int32) (C1 M1 : zx_M), zx_Ev 78 144 0 (zx_en zr_144.2.2.1 [.ref 0]) [] (zx_SC, C) (some (.int r), (zx_SC, C1)) ∧ zx_Ev 78 238 0 (zx_en zr_238.2.2.1 [.ref 0]) [] (zx_SM, M) (some (.int r), (zx_SM, M1)) ∧ zm_R zq_V C1 M1 := by
  obtain ⟨r, C1, M1, e1, e2, H1⟩ := t_back H 
  exact ⟨r, C1, M1, s_C_back  C (d := 75) e1, s_M_back  M (d := 78) e2, H1⟩
theorem zl_w144 : zl_wk 144 zr_145 0 := ⟨zx_t4 97 rfl rfl, zs_145, zx_t4 99 rfl rfl, by decide +kernel⟩
theorem zl_w147 : zl_wk 147 zr_162 0 := ⟨zx_t5 180 rfl rfl, zs_162, zx_t5 182 rfl rfl, by decide +kernel⟩
theorem zl_r_undo {C M : zx_M} (H : zm_R zq_V C M)  : ∃ (r : Int32) (C1 M1 : zx_M), zx_Ev 78 145 0 (zx_en zr_145.2.2.1 [.ref 0]) [] (zx_SC, C) (some (.int r), (zx_SC, C1)) ∧ zx_Ev 78 162 0 (zx_en zr_162.2.2.1 [.ref 0]) [] (zx_SM, M) (some (.int r), (zx_SM, M1)) ∧ zm_R zq_V C1 M1 := by
  obtain ⟨r, C1, M1, e1, e2, H1⟩ := t_undo H 
  exact ⟨r, C1, M1, s_C_undo  C (d := 76) e1, s_M_undo  M (d := 78) e2, H1⟩
theorem zl_w148 : zl_wk 148 zr_146 0 := ⟨zx_t4 106 rfl rfl, zs_146, zx_t4 108 rfl rfl, by decide +kernel⟩
theorem zl_w151 : zl_wk 151 zr_163 0 := ⟨zx_t5 184 rfl rfl, zs_163, zx_t5 186 rfl rfl, by decide +kernel⟩
theorem zl_r_redo {C M : zx_M} (H : zm_R zq_V C M)  : ∃ (r : Int32) (C1 M1 : zx_M), zx_Ev 78 146 0 (zx_en zr_146.2.2.1 [.ref 0]) [] (zx_SC, C) (some (.int r), (zx_SC, C1)) ∧ zx_Ev 78 163 0 (zx_en zr_163.2.2.1 [.ref 0]) [] (zx_SM, M) (some (.int r), (zx_SM, M1)) ∧ zm_R zq_V C1 M1 := by
  obtain ⟨r, C1, M1, e1, e2, H1⟩ := t_redo H 
  exact ⟨r, C1, M1, s_C_redo  C (d := 76) e1, s_M_redo  M (d := 78) e2, H1⟩
theorem zl_w152 : zl_wk 152 zr_147 1 := ⟨zx_t4 114 rfl rfl, zs_147, zx_t4 116 rfl rfl, by decide +kernel⟩
theorem zl_w155 : zl_wk 155 zr_241 1 := ⟨zx_t7 34 rfl rfl, zs_241, zx_t7 36 rfl rfl, by decide +kernel⟩
theorem zl_r_body {C M : zx_M} (H : zm_R zq_V C M) (a1 : Int32) : ∃ (r : Int32) (C1 M1 : zx_M), zx_Ev 78 147 0 (zx_en zr_147.2.2.1 [.ref 0, .int a1]) [] (zx_SC, C) (some (.int r), (zx_SC, C1)) ∧ zx_Ev 78 241 0 (zx_en zr_241.2.2.1 [.ref 0, .int a1]) [] (zx_SM, M) (some (.int r), (zx_SM, M1)) ∧ zm_R zq_V C1 M1 := by
  obtain ⟨r, C1, M1, e1, e2, H1⟩ := t_body H a1
  exact ⟨r, C1, M1, s_C_body a1 C (d := 76) e1, s_M_body a1 M (d := 77) e2, H1⟩
theorem zl_w156 : zl_wk 156 zr_148 3 := ⟨zx_t4 126 rfl rfl, zs_148, zx_t4 128 rfl rfl, by decide +kernel⟩
theorem zl_w159 : zl_wk 159 zr_248 3 := ⟨zx_t7 38 rfl rfl, zs_248, zx_t7 40 rfl rfl, by decide +kernel⟩
theorem zl_r_act {C M : zx_M} (H : zm_R zq_V C M) (a1 : Int32) (a2 : Int32) (a3 : Int32) : ∃ (r : Int32) (C1 M1 : zx_M), zx_Ev 78 148 0 (zx_en zr_148.2.2.1 [.ref 0, .int a1, .int a2, .int a3]) [] (zx_SC, C) (some (.int r), (zx_SC, C1)) ∧ zx_Ev 78 248 0 (zx_en zr_248.2.2.1 [.ref 0, .int a1, .int a2, .int a3]) [] (zx_SM, M) (some (.int r), (zx_SM, M1)) ∧ zm_R zq_V C1 M1 := by
  obtain ⟨r, C1, M1, e1, e2, H1⟩ := t_act H a1 a2 a3
  exact ⟨r, C1, M1, s_C_act a1 a2 a3 C (d := 12) e1, s_M_act a1 a2 a3 M (d := 29) e2, H1⟩
theorem zl_w160 : zl_wk 160 zr_149 1 := ⟨zx_t4 172 rfl rfl, zs_149, zx_t4 174 rfl rfl, by decide +kernel⟩
theorem zl_w163 : zl_wk 163 zr_249 1 := ⟨zx_t7 66 rfl rfl, zs_249, zx_t7 68 rfl rfl, by decide +kernel⟩
theorem zl_r_trace {C M : zx_M} (H : zm_R zq_V C M) (a1 : Int32) : ∃ (r : Int32) (C1 M1 : zx_M), zx_Ev 78 149 0 (zx_en zr_149.2.2.1 [.ref 0, .int a1]) [] (zx_SC, C) (some (.int r), (zx_SC, C1)) ∧ zx_Ev 78 249 0 (zx_en zr_249.2.2.1 [.ref 0, .int a1]) [] (zx_SM, M) (some (.int r), (zx_SM, M1)) ∧ zm_R zq_V C1 M1 := by
  obtain ⟨r, e1, e2⟩ := t_trace (H.2.2.2.2.2.2.2) a1
  exact ⟨r, C, M, s_C_trace a1 C (d := 77) e1, s_M_trace a1 M (d := 78) e2, H⟩
theorem zl_w164 : zl_wk 164 zr_150 2 := ⟨zx_t4 180 rfl rfl, zs_150, zx_t4 182 rfl rfl, by decide +kernel⟩
theorem zl_w167 : zl_wk 167 zr_251 2 := ⟨zx_t7 70 rfl rfl, zs_251, zx_t7 72 rfl rfl, by decide +kernel⟩
theorem zl_r_keep {C M : zx_M} (H : zm_R zq_V C M) (a1 : Int32) (a2 : Int32) : ∃ (r : Int32) (C1 M1 : zx_M), zx_Ev 78 150 0 (zx_en zr_150.2.2.1 [.ref 0, .int a1, .int a2]) [] (zx_SC, C) (some (.int r), (zx_SC, C1)) ∧ zx_Ev 78 251 0 (zx_en zr_251.2.2.1 [.ref 0, .int a1, .int a2]) [] (zx_SM, M) (some (.int r), (zx_SM, M1)) ∧ zm_R zq_V C1 M1 := by
  obtain ⟨r, C1, M1, e1, e2, H1⟩ := t_keep H a1 a2
  exact ⟨r, C1, M1, s_C_keep a1 a2 C (d := 75) e1, s_M_keep a1 a2 M (d := 76) e2, H1⟩
theorem zl_w168 : zl_wk 168 zr_151 3 := ⟨zx_t4 195 rfl rfl, zs_151, zx_t4 197 rfl rfl, by decide +kernel⟩
theorem zl_w171 : zl_wk 171 zr_252 3 := ⟨zx_t7 74 rfl rfl, zs_252, zx_t7 76 rfl rfl, by decide +kernel⟩
theorem zl_r_row {C M : zx_M} (H : zm_R zq_V C M) (a1 : Int32) (a2 : Int32) (a3 : Int32) : ∃ (r : Int32) (C1 M1 : zx_M), zx_Ev 78 151 0 (zx_en zr_151.2.2.1 [.ref 0, .int a1, .int a2, .int a3]) [] (zx_SC, C) (some (.int r), (zx_SC, C1)) ∧ zx_Ev 78 252 0 (zx_en zr_252.2.2.1 [.ref 0, .int a1, .int a2, .int a3]) [] (zx_SM, M) (some (.int r), (zx_SM, M1)) ∧ zm_R zq_V C1 M1 := by
  obtain ⟨r, C1, M1, e1, e2, H1⟩ := t_row H a1 a2 a3
  exact ⟨r, C1, M1, s_C_row a1 a2 a3 C (d := 75) e1, s_M_row a1 a2 a3 M (d := 76) e2, H1⟩
theorem zl_w174 : zl_wk 174 zr_152 3 := ⟨zx_t4 199 rfl rfl, zs_152, zx_t4 201 rfl rfl, by decide +kernel⟩
theorem zl_w178 : zl_wk 178 zr_255 3 := ⟨zx_t7 78 rfl rfl, zs_255, zx_t7 80 rfl rfl, by decide +kernel⟩
theorem zl_r_put {C M : zx_M} (H : zm_R zq_V C M) (a1 : Int32) (a2 : Int32) (a3 : Int64) : ∃ (r : Int32) (C1 M1 : zx_M), zx_Ev 78 152 0 (zx_en zr_152.2.2.1 [.ref 0, .int a1, .int a2, .long a3]) [] (zx_SC, C) (some (.int r), (zx_SC, C1)) ∧ zx_Ev 78 255 0 (zx_en zr_255.2.2.1 [.ref 0, .int a1, .int a2, .long a3]) [] (zx_SM, M) (some (.int r), (zx_SM, M1)) ∧ zm_R zq_V C1 M1 := by
  obtain ⟨r, C1, M1, e1, e2, H1⟩ := t_put H a1 a2 a3
  exact ⟨r, C1, M1, s_C_put a1 a2 a3 C (d := 75) e1, s_M_put a1 a2 a3 M (d := 75) e2, H1⟩
theorem zl_w179 : zl_wk 179 zr_153 2 := ⟨zx_t4 211 rfl rfl, zs_153, zx_t4 213 rfl rfl, by decide +kernel⟩
theorem zl_w182 : zl_wk 182 zr_256 2 := ⟨zx_t7 89 rfl rfl, zs_256, zx_t7 91 rfl rfl, by decide +kernel⟩
theorem zl_r_element {C M : zx_M} (H : zm_R zq_V C M) (a1 : Int32) (a2 : Int32) : ∃ (r : Int64) (C1 M1 : zx_M), zx_Ev 78 153 0 (zx_en zr_153.2.2.1 [.ref 0, .int a1, .int a2]) [] (zx_SC, C) (some (.long r), (zx_SC, C1)) ∧ zx_Ev 78 256 0 (zx_en zr_256.2.2.1 [.ref 0, .int a1, .int a2]) [] (zx_SM, M) (some (.long r), (zx_SM, M1)) ∧ zm_R zq_V C1 M1 := by
  obtain ⟨r, e1, e2⟩ := t_element (H.2.2.2.2.1) a1 a2
  exact ⟨r, C, M, s_C_element a1 a2 C (d := 75) e1, s_M_element a1 a2 M (d := 75) e2, H⟩
theorem zl_w183 : zl_wk 183 zr_154 5 := ⟨zx_t4 215 rfl rfl, zs_154, zx_t4 217 rfl rfl, by decide +kernel⟩
theorem zl_w187 : zl_wk 187 zr_257 5 := ⟨zx_t7 93 rfl rfl, zs_257, zx_t7 95 rfl rfl, by decide +kernel⟩
theorem zl_r_shift {C M : zx_M} (H : zm_R zq_V C M) (a1 : Int32) (a2 : Int32) (a3 : Int32) (a4 : Int32) (a5 : Int32) : ∃ (r : Int32) (C1 M1 : zx_M), zx_Ev 78 154 0 (zx_en zr_154.2.2.1 [.ref 0, .int a1, .int a2, .int a3, .int a4, .int a5]) [] (zx_SC, C) (some (.int r), (zx_SC, C1)) ∧ zx_Ev 78 257 0 (zx_en zr_257.2.2.1 [.ref 0, .int a1, .int a2, .int a3, .int a4, .int a5]) [] (zx_SM, M) (some (.int r), (zx_SM, M1)) ∧ zm_R zq_V C1 M1 := by
  obtain ⟨r, C1, M1, e1, e2, H1⟩ := t_shift H a1 a2 a3 a4 a5
  exact ⟨r, C1, M1, s_C_shift a1 a2 a3 a4 a5 C (d := 76) e1, s_M_shift a1 a2 a3 a4 a5 M (d := 76) e2, H1⟩
theorem zl_w188 : zl_wk 188 zr_155 2 := ⟨zx_t4 227 rfl rfl, zs_155, zx_t4 229 rfl rfl, by decide +kernel⟩
theorem zl_w191 : zl_wk 191 zr_258 2 := ⟨zx_t7 97 rfl rfl, zs_258, zx_t7 99 rfl rfl, by decide +kernel⟩
theorem zl_r_taken {C M : zx_M} (H : zm_R zq_V C M) (a1 : Int32) (a2 : Int32) : ∃ (r : Int32) (C1 M1 : zx_M), zx_Ev 78 155 0 (zx_en zr_155.2.2.1 [.ref 0, .int a1, .int a2]) [] (zx_SC, C) (some (.int r), (zx_SC, C1)) ∧ zx_Ev 78 258 0 (zx_en zr_258.2.2.1 [.ref 0, .int a1, .int a2]) [] (zx_SM, M) (some (.int r), (zx_SM, M1)) ∧ zm_R zq_V C1 M1 := by
  obtain ⟨r, e1, e2⟩ := t_taken H a1 a2
  exact ⟨r, C, M, s_C_taken a1 a2 C (d := 76) e1, s_M_taken a1 a2 M (d := 76) e2, H⟩
theorem zl_w192 : zl_wk 192 zr_156 1 := ⟨zx_t4 237 rfl rfl, zs_156, zx_t4 239 rfl rfl, by decide +kernel⟩
theorem zl_w195 : zl_wk 195 zr_259 1 := ⟨zx_t7 108 rfl rfl, zs_259, zx_t7 110 rfl rfl, by decide +kernel⟩
theorem zl_r_count {C M : zx_M} (H : zm_R zq_V C M) (a1 : Int32) : ∃ (r : Int32) (C1 M1 : zx_M), zx_Ev 78 156 0 (zx_en zr_156.2.2.1 [.ref 0, .int a1]) [] (zx_SC, C) (some (.int r), (zx_SC, C1)) ∧ zx_Ev 78 259 0 (zx_en zr_259.2.2.1 [.ref 0, .int a1]) [] (zx_SM, M) (some (.int r), (zx_SM, M1)) ∧ zm_R zq_V C1 M1 := by
  have h1 : C.1 1 2 = M.1 0 6 := by obtain ⟨⟨k, -, e1, e2⟩, -⟩ := H.1; rw [e1, e2]
  have h2 : C.1 9 2 = M.1 0 8 := by obtain ⟨k, -, e1, e2, -⟩ := H.2.2.1; rw [e1, e2]
  have h3 : C.1 4 5 = M.1 0 5 := by obtain ⟨x, y, q, F, -, -, e1, -, e2, -⟩ := H.2.1; rw [e1, e2]
  have h4 : C.1 38 1 = M.1 0 43 := by obtain ⟨k, -, e1, e2, -⟩ := H.2.2.2.2.2.2.2; rw [e1, e2]
  have h5 : C.1 38 3 = M.1 0 46 := by obtain ⟨k, -, e1, e2, e3, -⟩ := H.2.2.2.2.2.2.2; exact e3
  obtain ⟨r, e1, e2⟩ := t_count h1 h2 h3 h4 h5 a1
  exact ⟨r, C, M, s_C_count a1 C (d := 77) e1, s_M_count a1 M (d := 78) e2, H⟩
