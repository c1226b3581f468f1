def mO_0 : List (Nat × Nat) := [(0, 0), (2, 1), (0, 0), (0, 0), (2, 2), (2, 3), (2, 4), (0, 0), (0, 0), (2, 5), (2, 6), (2, 7), (2, 8), (2, 9), (0, 0), (2, 10), (2, 11), (0, 0), (0, 0), (0, 0), (2, 12), (2, 13), (2, 14), (2, 15), (2, 16), (0, 0), (2, 17), (0, 0), (2, 18), (2, 19), (0, 0), (0, 0), (0, 0), (0, 0), (0, 0), (0, 0), (2, 20), (2, 21), (2, 22), (2, 23), (2, 24), (0, 0), (0, 0), (2, 25)]
def mLyL : List ((Nat × Nat) ⊕ (Nat × Nat × (Nat → Nat × Nat))) := [.inr (11, 44, fun k => mO_0.getD k (0, 0)), .inl (0, 1000), .inl (0, 1002), .inl (0, 1002), .inl (1, 1002), .inl (1, 30), .inl (0, 320), .inl (0, 36), .inl (0, 2200), .inl (0, 2200), .inl (1, 13), .inl (0, 13), .inl (0, 5), .inl (0, 2), .inl (0, 5), .inl (0, 1100), .inl (0, 6000), .inl (3, 4), .inl (0, 3200), .inl (0, 7), .inl (0, 726), .inl (0, 1407), .inl (0, 6), .inl (0, 7), .inl (0, 7), .inl (0, 64)]
def mLy : LyT := (26, fun i => mLyL.getD i (.inl (0, 0)), fun _ => 0)
theorem mc_0 {w : WT} (hw : w.1 = mLy) : isC w 0 (.inr (11, 44, fun k => mO_0.getD k (0, 0))) := ⟨by rw [hw]; decide, by show w.1.2.1 0 = _; rw [hw]; rfl⟩
theorem mc_1 {w : WT} (hw : w.1 = mLy) : isC w 1 (.inl (0, 1000)) := ⟨by rw [hw]; decide, by show w.1.2.1 1 = _; rw [hw]; rfl⟩
theorem mc_2 {w : WT} (hw : w.1 = mLy) : isC w 2 (.inl (0, 1002)) := ⟨by rw [hw]; decide, by show w.1.2.1 2 = _; rw [hw]; rfl⟩
theorem mc_3 {w : WT} (hw : w.1 = mLy) : isC w 3 (.inl (0, 1002)) := ⟨by rw [hw]; decide, by show w.1.2.1 3 = _; rw [hw]; rfl⟩
theorem mc_4 {w : WT} (hw : w.1 = mLy) : isC w 4 (.inl (1, 1002)) := ⟨by rw [hw]; decide, by show w.1.2.1 4 = _; rw [hw]; rfl⟩
theorem mc_5 {w : WT} (hw : w.1 = mLy) : isC w 5 (.inl (1, 30)) := ⟨by rw [hw]; decide, by show w.1.2.1 5 = _; rw [hw]; rfl⟩
theorem mc_6 {w : WT} (hw : w.1 = mLy) : isC w 6 (.inl (0, 320)) := ⟨by rw [hw]; decide, by show w.1.2.1 6 = _; rw [hw]; rfl⟩
theorem mc_7 {w : WT} (hw : w.1 = mLy) : isC w 7 (.inl (0, 36)) := ⟨by rw [hw]; decide, by show w.1.2.1 7 = _; rw [hw]; rfl⟩
theorem mc_8 {w : WT} (hw : w.1 = mLy) : isC w 8 (.inl (0, 2200)) := ⟨by rw [hw]; decide, by show w.1.2.1 8 = _; rw [hw]; rfl⟩
theorem mc_9 {w : WT} (hw : w.1 = mLy) : isC w 9 (.inl (0, 2200)) := ⟨by rw [hw]; decide, by show w.1.2.1 9 = _; rw [hw]; rfl⟩
theorem mc_10 {w : WT} (hw : w.1 = mLy) : isC w 10 (.inl (1, 13)) := ⟨by rw [hw]; decide, by show w.1.2.1 10 = _; rw [hw]; rfl⟩
theorem mc_11 {w : WT} (hw : w.1 = mLy) : isC w 11 (.inl (0, 13)) := ⟨by rw [hw]; decide, by show w.1.2.1 11 = _; rw [hw]; rfl⟩
theorem mc_12 {w : WT} (hw : w.1 = mLy) : isC w 12 (.inl (0, 5)) := ⟨by rw [hw]; decide, by show w.1.2.1 12 = _; rw [hw]; rfl⟩
theorem mc_13 {w : WT} (hw : w.1 = mLy) : isC w 13 (.inl (0, 2)) := ⟨by rw [hw]; decide, by show w.1.2.1 13 = _; rw [hw]; rfl⟩
theorem mc_14 {w : WT} (hw : w.1 = mLy) : isC w 14 (.inl (0, 5)) := ⟨by rw [hw]; decide, by show w.1.2.1 14 = _; rw [hw]; rfl⟩
theorem mc_15 {w : WT} (hw : w.1 = mLy) : isC w 15 (.inl (0, 1100)) := ⟨by rw [hw]; decide, by show w.1.2.1 15 = _; rw [hw]; rfl⟩
theorem mc_16 {w : WT} (hw : w.1 = mLy) : isC w 16 (.inl (0, 6000)) := ⟨by rw [hw]; decide, by show w.1.2.1 16 = _; rw [hw]; rfl⟩
theorem mc_17 {w : WT} (hw : w.1 = mLy) : isC w 17 (.inl (3, 4)) := ⟨by rw [hw]; decide, by show w.1.2.1 17 = _; rw [hw]; rfl⟩
theorem mc_18 {w : WT} (hw : w.1 = mLy) : isC w 18 (.inl (0, 3200)) := ⟨by rw [hw]; decide, by show w.1.2.1 18 = _; rw [hw]; rfl⟩
theorem mc_19 {w : WT} (hw : w.1 = mLy) : isC w 19 (.inl (0, 7)) := ⟨by rw [hw]; decide, by show w.1.2.1 19 = _; rw [hw]; rfl⟩
theorem mc_20 {w : WT} (hw : w.1 = mLy) : isC w 20 (.inl (0, 726)) := ⟨by rw [hw]; decide, by show w.1.2.1 20 = _; rw [hw]; rfl⟩
theorem mc_21 {w : WT} (hw : w.1 = mLy) : isC w 21 (.inl (0, 1407)) := ⟨by rw [hw]; decide, by show w.1.2.1 21 = _; rw [hw]; rfl⟩
theorem mc_22 {w : WT} (hw : w.1 = mLy) : isC w 22 (.inl (0, 6)) := ⟨by rw [hw]; decide, by show w.1.2.1 22 = _; rw [hw]; rfl⟩
theorem mc_23 {w : WT} (hw : w.1 = mLy) : isC w 23 (.inl (0, 7)) := ⟨by rw [hw]; decide, by show w.1.2.1 23 = _; rw [hw]; rfl⟩
theorem mc_24 {w : WT} (hw : w.1 = mLy) : isC w 24 (.inl (0, 7)) := ⟨by rw [hw]; decide, by show w.1.2.1 24 = _; rw [hw]; rfl⟩
theorem mc_25 {w : WT} (hw : w.1 = mLy) : isC w 25 (.inl (0, 64)) := ⟨by rw [hw]; decide, by show w.1.2.1 25 = _; rw [hw]; rfl⟩
theorem iu_X0 : ∀ k, k < 13 → u_lay RX0 TX0 k ∈ U0
  | 0, _ => uw_2_40
  | 1, _ => uw_2_42
  | 2, _ => uw_2_44
  | 3, _ => uw_2_46
  | 4, _ => uw_2_48
  | 5, _ => uw_2_50
  | 6, _ => uw_2_52
  | 7, _ => uw_2_54
  | 8, _ => uw_2_56
  | 9, _ => uw_2_58
  | 10, _ => uw_2_60
  | 11, _ => uw_2_62
  | 12, _ => uw_2_64
  | n + 13, h => absurd h (by omega)
theorem cls_X0 : clsOK 0 RX0 TX0 13 tyX0 := ⟨rfl, fun w hw => by obtain ⟨k, hk, rfl⟩ := List.mem_map.mp hw; exact iu_X0 k (List.mem_range.mp hk), tyX0_ok, nmX0⟩
theorem iu_X1 : ∀ k, k < 10 → u_lay RX1 TX1 k ∈ U0
  | 0, _ => uw_2_196
  | 1, _ => uw_2_198
  | 2, _ => uw_2_200
  | 3, _ => uw_2_202
  | 4, _ => uw_2_204
  | 5, _ => uw_2_206
  | 6, _ => uw_2_208
  | 7, _ => uw_2_210
  | 8, _ => uw_2_212
  | 9, _ => uw_2_214
  | n + 10, h => absurd h (by omega)
theorem cls_X1 : clsOK 1 RX1 TX1 10 tyX1 := ⟨rfl, fun w hw => by obtain ⟨k, hk, rfl⟩ := List.mem_map.mp hw; exact iu_X1 k (List.mem_range.mp hk), tyX1_ok, nmX1⟩
theorem iu_X2 : ∀ k, k < 7 → u_lay RX2 TX2 k ∈ U0
  | 0, _ => uw_1_201
  | 1, _ => uw_1_203
  | 2, _ => uw_1_205
  | 3, _ => uw_1_207
  | 4, _ => uw_1_209
  | 5, _ => uw_1_211
  | 6, _ => uw_1_213
  | n + 7, h => absurd h (by omega)
theorem cls_X2 : clsOK 2 RX2 TX2 7 tyX2 := ⟨rfl, fun w hw => by obtain ⟨k, hk, rfl⟩ := List.mem_map.mp hw; exact iu_X2 k (List.mem_range.mp hk), tyX2_ok, nmX2⟩
theorem iu_X3 : ∀ k, k < 17 → u_lay RX3 TX3 k ∈ U0
  | 0, _ => uw_1_151
  | 1, _ => uw_1_153
  | 2, _ => uw_1_155
  | 3, _ => uw_1_157
  | 4, _ => uw_1_159
  | 5, _ => uw_1_161
  | 6, _ => uw_1_163
  | 7, _ => uw_1_165
  | 8, _ => uw_1_167
  | 9, _ => uw_1_169
  | 10, _ => uw_1_171
  | 11, _ => uw_1_173
  | 12, _ => uw_1_175
  | 13, _ => uw_1_177
  | 14, _ => uw_1_179
  | 15, _ => uw_1_181
  | 16, _ => uw_1_183
  | n + 17, h => absurd h (by omega)
theorem cls_X3 : clsOK 3 RX3 TX3 17 tyX3 := ⟨rfl, fun w hw => by obtain ⟨k, hk, rfl⟩ := List.mem_map.mp hw; exact iu_X3 k (List.mem_range.mp hk), tyX3_ok, nmX3⟩
theorem iu_X4 : ∀ k, k < 11 → u_lay RX4 TX4 k ∈ U0
  | 0, _ => uw_2_154
  | 1, _ => uw_2_156
  | 2, _ => uw_2_158
  | 3, _ => uw_2_160
  | 4, _ => uw_2_162
  | 5, _ => uw_2_164
  | 6, _ => uw_2_166
  | 7, _ => uw_2_168
  | 8, _ => uw_2_170
  | 9, _ => uw_2_172
  | 10, _ => uw_2_174
  | n + 11, h => absurd h (by omega)
theorem cls_X4 : clsOK 4 RX4 TX4 11 tyX4 := ⟨rfl, fun w hw => by obtain ⟨k, hk, rfl⟩ := List.mem_map.mp hw; exact iu_X4 k (List.mem_range.mp hk), tyX4_ok, nmX4⟩
theorem iu_X5 : ∀ k, k < 8 → u_lay RX5 TX5 k ∈ U0
  | 0, _ => uw_1_225
  | 1, _ => uw_1_227
  | 2, _ => uw_1_229
  | 3, _ => uw_1_231
  | 4, _ => uw_1_233
  | 5, _ => uw_1_235
  | 6, _ => uw_1_237
  | 7, _ => uw_1_239
  | n + 8, h => absurd h (by omega)
theorem cls_X5 : clsOK 5 RX5 TX5 8 tyX5 := ⟨rfl, fun w hw => by obtain ⟨k, hk, rfl⟩ := List.mem_map.mp hw; exact iu_X5 k (List.mem_range.mp hk), tyX5_ok, nmX5⟩
theorem iu_X6 : ∀ k, k < 4 → u_lay RX6 TX6 k ∈ U0
  | 0, _ => uw_2_80
  | 1, _ => uw_2_82
  | 2, _ => uw_2_84
  | 3, _ => uw_2_86
  | n + 4, h => absurd h (by omega)
theorem cls_X6 : clsOK 6 RX6 TX6 4 tyX6 := ⟨rfl, fun w hw => by obtain ⟨k, hk, rfl⟩ := List.mem_map.mp hw; exact iu_X6 k (List.mem_range.mp hk), tyX6_ok, nmX6⟩
theorem iu_X7 : ∀ k, k < 5 → u_lay RX7 TX7 k ∈ U0
  | 0, _ => uw_2_230
  | 1, _ => uw_2_232
  | 2, _ => uw_2_234
  | 3, _ => uw_2_236
  | 4, _ => uw_2_238
  | n + 5, h => absurd h (by omega)
theorem cls_X7 : clsOK 7 RX7 TX7 5 tyX7 := ⟨rfl, fun w hw => by obtain ⟨k, hk, rfl⟩ := List.mem_map.mp hw; exact iu_X7 k (List.mem_range.mp hk), tyX7_ok, nmX7⟩
theorem iu_X8 : ∀ k, k < 7 → u_lay RX8 TX8 k ∈ U0
  | 0, _ => uw_1_56
  | 1, _ => uw_1_58
  | 2, _ => uw_1_60
  | 3, _ => uw_1_62
  | 4, _ => uw_1_64
  | 5, _ => uw_1_66
  | 6, _ => uw_1_68
  | n + 7, h => absurd h (by omega)
theorem cls_X8 : clsOK 8 RX8 TX8 7 tyX8 := ⟨rfl, fun w hw => by obtain ⟨k, hk, rfl⟩ := List.mem_map.mp hw; exact iu_X8 k (List.mem_range.mp hk), tyX8_ok, nmX8⟩
theorem iu_X9 : ∀ k, k < 9 → u_lay RX9 TX9 k ∈ U0
  | 0, _ => uw_2_112
  | 1, _ => uw_2_114
  | 2, _ => uw_2_116
  | 3, _ => uw_2_118
  | 4, _ => uw_2_120
  | 5, _ => uw_2_122
  | 6, _ => uw_2_124
  | 7, _ => uw_2_126
  | 8, _ => uw_2_128
  | n + 9, h => absurd h (by omega)
theorem cls_X9 : clsOK 9 RX9 TX9 9 tyX9 := ⟨rfl, fun w hw => by obtain ⟨k, hk, rfl⟩ := List.mem_map.mp hw; exact iu_X9 k (List.mem_range.mp hk), tyX9_ok, nmX9⟩
theorem iu_X11 : ∀ k, k < 14 → u_lay RX11 TX11 k ∈ U0
  | 0, _ => uw_3_30
  | 1, _ => uw_3_32
  | 2, _ => uw_3_34
  | 3, _ => uw_3_36
  | 4, _ => uw_3_38
  | 5, _ => uw_3_40
  | 6, _ => uw_3_42
  | 7, _ => uw_3_44
  | 8, _ => uw_3_46
  | 9, _ => uw_3_48
  | 10, _ => uw_3_50
  | 11, _ => uw_3_52
  | 12, _ => uw_3_54
  | 13, _ => uw_3_56
  | n + 14, h => absurd h (by omega)
theorem cls_X11 : clsOK 10 RX11 TX11 14 tyX11 := ⟨rfl, fun w hw => by obtain ⟨k, hk, rfl⟩ := List.mem_map.mp hw; exact iu_X11 k (List.mem_range.mp hk), tyX11_ok, nmX11⟩
theorem iu_X12 : ∀ k, k < 44 → u_lay RX12 TX12 k ∈ U0
  | 0, _ => uw_6_91
  | 1, _ => uw_6_93
  | 2, _ => uw_6_95
  | 3, _ => uw_6_97
  | 4, _ => uw_6_99
  | 5, _ => uw_6_101
  | 6, _ => uw_6_103
  | 7, _ => uw_6_105
  | 8, _ => uw_6_107
  | 9, _ => uw_6_109
  | 10, _ => uw_6_111
  | 11, _ => uw_6_113
  | 12, _ => uw_6_115
  | 13, _ => uw_6_117
  | 14, _ => uw_6_119
  | 15, _ => uw_6_121
  | 16, _ => uw_6_123
  | 17, _ => uw_6_125
  | 18, _ => uw_6_127
  | 19, _ => uw_6_129
  | 20, _ => uw_6_131
  | 21, _ => uw_6_133
  | 22, _ => uw_6_135
  | 23, _ => uw_6_137
  | 24, _ => uw_6_139
  | 25, _ => uw_6_141
  | 26, _ => uw_6_143
  | 27, _ => uw_6_145
  | 28, _ => uw_6_147
  | 29, _ => uw_6_149
  | 30, _ => uw_6_151
  | 31, _ => uw_6_153
  | 32, _ => uw_6_155
  | 33, _ => uw_6_157
  | 34, _ => uw_6_159
  | 35, _ => uw_6_161
  | 36, _ => uw_6_163
  | 37, _ => uw_6_165
  | 38, _ => uw_6_167
  | 39, _ => uw_6_169
  | 40, _ => uw_6_171
  | 41, _ => uw_6_173
  | 42, _ => uw_6_175
  | 43, _ => uw_6_177
  | n + 44, h => absurd h (by omega)
theorem cls_X12 : clsOK 11 RX12 TX12 44 tyX12 := ⟨rfl, fun w hw => by obtain ⟨k, hk, rfl⟩ := List.mem_map.mp hw; exact iu_X12 k (List.mem_range.mp hk), tyX12_ok, nmX12⟩
