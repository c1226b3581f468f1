theorem uw_5_151 : (Jvm.Cond.codeWith ({ cls := "SkinCarriersLaw", name := "carrier", desc := "(LSkinCarriers;II[J)I" } : Jvm.MethodName) method_3_code (5 : Nat) (Option.some Jvm.ClassFile.FieldType.int) [((0 : Nat), (10 : Nat), (13 : Nat), (13 : Nat))]) ∈ U0 := U0_of (tb_5 (List.mem_of_getElem? (i := 151) rfl)) rfl
theorem uw_5_225 : (Jvm.Cond.codeWith ({ cls := "SkinCarriersLaw", name := "debt", desc := "(LSkinCarriers;I[J)I" } : Jvm.MethodName) method_4_code (4 : Nat) (Option.some Jvm.ClassFile.FieldType.int) [((0 : Nat), (9 : Nat), (12 : Nat), (13 : Nat))]) ∈ U0 := U0_of (tb_5 (List.mem_of_getElem? (i := 225) rfl)) rfl
theorem lk_L_25_X11_feed : lkV RL 25 yX11_feed cX11_feed 7 (some .int) := lkV_of uw_3_60 uw_3_61 uw_3_62 uw_1_1 uw_3_63
theorem lk_L_29_X12_feed : lkV RL 29 yX12_feed cX12_feed 7 (some .int) := lkV_of uw_5_235 uw_5_236 uw_5_237 uw_1_16 uw_5_238
theorem lk_L_30_X11_mountain : lkV RL 30 yX11_mountain cX11_mountain 3 (some .int) := lkV_of uw_3_68 uw_3_69 uw_3_70 uw_1_1 uw_3_71
theorem lk_L_34_X12_mountain : lkV RL 34 yX12_mountain cX12_mountain 2 (some .int) := lkV_of uw_6_180 uw_6_181 uw_6_182 uw_1_16 uw_6_183
theorem lk_L_35_X11_station : lkV RL 35 yX11_station cX11_station 3 (some .int) := lkV_of uw_4_126 uw_4_127 uw_4_128 uw_1_1 uw_4_129
theorem lk_L_38_X12_station : lkV RL 38 yX12_station cX12_station 3 (some .int) := lkV_of uw_7_87 uw_7_88 uw_7_89 uw_1_16 uw_7_90
theorem lk_L_39_X11_way : lkV RL 39 yX11_way cX11_way 4 (some .int) := lkV_of uw_4_134 uw_4_135 uw_4_136 uw_1_1 uw_4_137
theorem lk_L_43_X12_way : lkV RL 43 yX12_way cX12_way 4 (some .int) := lkV_of uw_7_98 uw_7_99 uw_7_100 uw_1_16 uw_7_101
theorem lk_L_49_X12_carrier : lkV RL 49 yX12_carrier cX12_carrier 3 (some .int) := lkV_of uw_7_102 uw_7_103 uw_7_104 uw_1_16 uw_7_105
theorem lk_L_50_X12_thrown : lkV RL 50 yX12_thrown cX12_thrown 1 (some .int) := lkV_of uw_5_231 uw_5_232 uw_5_233 uw_1_16 uw_5_234
theorem lk_L_53_X11_paths : lkV RL 53 yX11_paths cX11_paths 1 (some .int) := lkV_of uw_4_139 uw_4_140 uw_4_141 uw_1_1 uw_4_142
theorem lk_L_56_X12_paths : lkV RL 56 yX12_paths cX12_paths 1 (some .int) := lkV_of uw_7_126 uw_7_127 uw_7_128 uw_1_16 uw_7_129
theorem lk_L_57_X11_path : lkV RL 57 yX11_path cX11_path 3 (some .int) := lkV_of uw_4_143 uw_4_144 uw_4_145 uw_1_1 uw_4_146
theorem lk_L_60_X12_path : lkV RL 60 yX12_path cX12_path 3 (some .int) := lkV_of uw_7_130 uw_7_131 uw_7_132 uw_1_16 uw_7_133
theorem lk_L_61_X11_trip : lkV RL 61 yX11_trip cX11_trip 5 (some .int) := lkV_of uw_4_159 uw_4_160 uw_4_161 uw_1_1 uw_4_162
theorem lk_L_65_X12_trip : lkV RL 65 yX12_trip cX12_trip 5 (some .int) := lkV_of uw_7_146 uw_7_147 uw_7_148 uw_1_16 uw_7_149
theorem lk_L_66_X11_send : lkV RL 66 yX11_send cX11_send 5 (some .int) := lkV_of uw_4_225 uw_4_226 uw_4_227 uw_1_1 uw_4_228
theorem lk_L_69_X12_send : lkV RL 69 yX12_send cX12_send 6 (some .int) := lkV_of uw_7_181 uw_7_182 uw_7_183 uw_1_16 uw_7_184
theorem lk_L_70_X11_rest : lkV RL 70 yX11_rest cX11_rest 2 (some .int) := lkV_of uw_4_236 uw_4_237 uw_4_238 uw_1_1 uw_4_239
theorem lk_L_73_X12_rest : lkV RL 73 yX12_rest cX12_rest 2 (some .int) := lkV_of uw_7_205 uw_7_206 uw_7_207 uw_1_16 uw_7_208
theorem lk_L_74_X11_seed : lkV RL 74 yX11_seed cX11_seed 2 (some .boolean) := lkV_of uw_5_1 uw_5_2 uw_5_3 uw_1_1 uw_5_4
theorem lk_L_78_X12_seed : lkV RL 78 yX12_seed cX12_seed 2 (some .boolean) := lkV_of uw_7_209 uw_7_210 uw_7_211 uw_1_16 uw_7_212
theorem lk_L_79_X11_drank : lkV RL 79 yX11_drank cX11_drank 3 (some .int) := lkV_of uw_5_5 uw_5_6 uw_5_7 uw_1_1 uw_5_8
theorem lk_L_82_X12_drank : lkV RL 82 yX12_drank cX12_drank 3 (some .int) := lkV_of uw_7_213 uw_7_214 uw_7_215 uw_1_16 uw_7_216
theorem lk_L_83_X11_best : lkV RL 83 yX11_best cX11_best 4 (some .int) := lkV_of uw_5_9 uw_5_10 uw_5_11 uw_1_1 uw_5_12
theorem lk_L_86_X12_best : lkV RL 86 yX12_best cX12_best 4 (some .int) := lkV_of uw_7_217 uw_7_218 uw_7_219 uw_1_16 uw_7_220
theorem lk_L_87_X11_plan : lkV RL 87 yX11_plan cX11_plan 2 (some .int) := lkV_of uw_5_18 uw_5_19 uw_5_20 uw_1_1 uw_5_21
theorem lk_L_90_X12_plan : lkV RL 90 yX12_plan cX12_plan 3 (some .int) := lkV_of uw_7_225 uw_7_226 uw_7_227 uw_1_16 uw_7_228
theorem lk_L_91_X11_relay : lkV RL 91 yX11_relay cX11_relay 3 (some .int) := lkV_of uw_5_55 uw_5_56 uw_5_57 uw_1_1 uw_5_58
theorem lk_L_94_X12_relay : lkV RL 94 yX12_relay cX12_relay 4 (some .int) := lkV_of uw_7_233 uw_7_234 uw_7_235 uw_1_16 uw_7_236
theorem lk_L_95_X11_owe : lkV RL 95 yX11_owe cX11_owe 5 (some .boolean) := lkV_of uw_5_82 uw_5_83 uw_5_84 uw_1_1 uw_5_85
theorem lk_L_99_X12_owe : lkV RL 99 yX12_owe cX12_owe 4 (some .boolean) := lkV_of uw_8_1 uw_8_2 uw_8_3 uw_1_16 uw_8_4
theorem lk_L_100_X11_owes : lkV RL 100 yX11_owes cX11_owes 3 (some .int) := lkV_of uw_5_95 uw_5_96 uw_5_97 uw_1_1 uw_5_98
theorem lk_L_103_X12_owes : lkV RL 103 yX12_owes cX12_owes 3 (some .int) := lkV_of uw_8_13 uw_8_14 uw_8_15 uw_1_16 uw_8_16
theorem lk_L_107_X12_debt : lkV RL 107 yX12_debt cX12_debt 2 (some .int) := lkV_of uw_8_17 uw_8_18 uw_8_19 uw_1_16 uw_8_20
theorem lk_L_108_X11_settled : lkV RL 108 yX11_settled cX11_settled 1 (some .int) := lkV_of uw_5_99 uw_5_100 uw_5_101 uw_1_1 uw_5_102
theorem lk_L_111_X12_settled : lkV RL 111 yX12_settled cX12_settled 4 (some .int) := lkV_of uw_8_21 uw_8_22 uw_8_23 uw_1_16 uw_8_24
theorem lk_L_112_X11_missed : lkV RL 112 yX11_missed cX11_missed 3 (some .int) := lkV_of uw_5_109 uw_5_110 uw_5_111 uw_1_1 uw_5_112
theorem lk_L_115_X12_missed : lkV RL 115 yX12_missed cX12_missed 6 (some .int) := lkV_of uw_8_29 uw_8_30 uw_8_31 uw_1_16 uw_8_32
theorem lk_L_116_X11_odds : lkV RL 116 yX11_odds cX11_odds 4 (some .int) := lkV_of uw_5_121 uw_5_122 uw_5_123 uw_1_1 uw_5_124
theorem lk_L_119_X12_odds : lkV RL 119 yX12_odds cX12_odds 5 (some .int) := lkV_of uw_8_41 uw_8_42 uw_8_43 uw_1_16 uw_8_44
theorem lk_L_120_X11_patch : lkV RL 120 yX11_patch cX11_patch 4 (some .boolean) := lkV_of uw_5_129 uw_5_130 uw_5_131 uw_1_1 uw_5_132
theorem lk_L_124_X12_patch : lkV RL 124 yX12_patch cX12_patch 3 (some .boolean) := lkV_of uw_8_48 uw_8_49 uw_8_50 uw_1_16 uw_8_51
theorem lk_L_125_X11_undo : lkV RL 125 yX11_undo cX11_undo 2 (some .boolean) := lkV_of uw_5_133 uw_5_134 uw_5_135 uw_1_1 uw_5_136
theorem lk_L_129_X12_undo : lkV RL 129 yX12_undo cX12_undo 1 (some .boolean) := lkV_of uw_8_52 uw_8_53 uw_8_54 uw_1_16 uw_8_55
theorem lk_L_130_X11_mark : lkV RL 130 yX11_mark cX11_mark 3 (some .boolean) := lkV_of uw_5_137 uw_5_138 uw_5_139 uw_1_1 uw_5_140
theorem lk_L_133_X12_mark : lkV RL 133 yX12_mark cX12_mark 3 (some .boolean) := lkV_of uw_8_56 uw_8_57 uw_8_58 uw_1_16 uw_8_59
theorem lk_L_134_X11_count : lkV RL 134 yX11_count cX11_count 2 (some .int) := lkV_of uw_5_145 uw_5_146 uw_5_147 uw_1_1 uw_5_148
theorem lk_L_137_X12_count : lkV RL 137 yX12_count cX12_count 2 (some .int) := lkV_of uw_8_60 uw_8_61 uw_8_62 uw_1_16 uw_8_63
theorem md_X11_feed : mdOK yX11_feed 3 := by unfold mdOK; decide +kernel
theorem md_X12_feed : mdOK yX12_feed 3 := by unfold mdOK; decide +kernel
theorem md_X11_mountain : mdOK yX11_mountain 0 := by unfold mdOK; decide +kernel
theorem md_X12_mountain : mdOK yX12_mountain 0 := by unfold mdOK; decide +kernel
theorem md_X11_station : mdOK yX11_station 2 := by unfold mdOK; decide +kernel
theorem md_X12_station : mdOK yX12_station 2 := by unfold mdOK; decide +kernel
theorem md_X11_way : mdOK yX11_way 3 := by unfold mdOK; decide +kernel
theorem md_X12_way : mdOK yX12_way 3 := by unfold mdOK; decide +kernel
theorem md_L_carrier : mdOK yL_carrier 4 := by unfold mdOK; decide +kernel
theorem md_X12_carrier : mdOK yX12_carrier 2 := by unfold mdOK; decide +kernel
theorem md_X12_thrown : mdOK yX12_thrown 0 := by unfold mdOK; decide +kernel
theorem md_X11_paths : mdOK yX11_paths 0 := by unfold mdOK; decide +kernel
theorem md_X12_paths : mdOK yX12_paths 0 := by unfold mdOK; decide +kernel
theorem md_X11_path : mdOK yX11_path 2 := by unfold mdOK; decide +kernel
theorem md_X12_path : mdOK yX12_path 2 := by unfold mdOK; decide +kernel
theorem md_X11_trip : mdOK yX11_trip 4 := by unfold mdOK; decide +kernel
theorem md_X12_trip : mdOK yX12_trip 4 := by unfold mdOK; decide +kernel
theorem md_X11_send : mdOK yX11_send 3 := by unfold mdOK; decide +kernel
theorem md_X12_send : mdOK yX12_send 3 := by unfold mdOK; decide +kernel
theorem md_X11_rest : mdOK yX11_rest 0 := by unfold mdOK; decide +kernel
theorem md_X12_rest : mdOK yX12_rest 0 := by unfold mdOK; decide +kernel
theorem md_X11_seed : mdOK yX11_seed 1 := by unfold mdOK; decide +kernel
theorem md_X12_seed : mdOK yX12_seed 1 := by unfold mdOK; decide +kernel
theorem md_X11_drank : mdOK yX11_drank 2 := by unfold mdOK; decide +kernel
theorem md_X12_drank : mdOK yX12_drank 2 := by unfold mdOK; decide +kernel
theorem md_X11_best : mdOK yX11_best 3 := by unfold mdOK; decide +kernel
theorem md_X12_best : mdOK yX12_best 3 := by unfold mdOK; decide +kernel
theorem md_X11_plan : mdOK yX11_plan 1 := by unfold mdOK; decide +kernel
theorem md_X12_plan : mdOK yX12_plan 1 := by unfold mdOK; decide +kernel
theorem md_X11_relay : mdOK yX11_relay 2 := by unfold mdOK; decide +kernel
theorem md_X12_relay : mdOK yX12_relay 2 := by unfold mdOK; decide +kernel
theorem md_X11_owe : mdOK yX11_owe 3 := by unfold mdOK; decide +kernel
theorem md_X12_owe : mdOK yX12_owe 3 := by unfold mdOK; decide +kernel
theorem md_X11_owes : mdOK yX11_owes 2 := by unfold mdOK; decide +kernel
theorem md_X12_owes : mdOK yX12_owes 2 := by unfold mdOK; decide +kernel
theorem md_L_debt : mdOK yL_debt 3 := by unfold mdOK; decide +kernel
theorem md_X12_debt : mdOK yX12_debt 1 := by unfold mdOK; decide +kernel
theorem md_X11_settled : mdOK yX11_settled 0 := by unfold mdOK; decide +kernel
theorem md_X12_settled : mdOK yX12_settled 0 := by unfold mdOK; decide +kernel
theorem md_X11_missed : mdOK yX11_missed 2 := by unfold mdOK; decide +kernel
theorem md_X12_missed : mdOK yX12_missed 2 := by unfold mdOK; decide +kernel
theorem md_X11_odds : mdOK yX11_odds 3 := by unfold mdOK; decide +kernel
theorem md_X12_odds : mdOK yX12_odds 3 := by unfold mdOK; decide +kernel
theorem md_X11_patch : mdOK yX11_patch 2 := by unfold mdOK; decide +kernel
theorem md_X12_patch : mdOK yX12_patch 2 := by unfold mdOK; decide +kernel
theorem md_X11_undo : mdOK yX11_undo 0 := by unfold mdOK; decide +kernel
theorem md_X12_undo : mdOK yX12_undo 0 := by unfold mdOK; decide +kernel
theorem md_X11_mark : mdOK yX11_mark 2 := by unfold mdOK; decide +kernel
theorem md_X12_mark : mdOK yX12_mark 2 := by unfold mdOK; decide +kernel
theorem md_X11_count : mdOK yX11_count 1 := by unfold mdOK; decide +kernel
theorem md_X12_count : mdOK yX12_count 1 := by unfold mdOK; decide +kernel
/-! what the law asks of the two, as functions of abstract states -/
def PO_feed (Inv : St → St → Prop) : Prop := ∀ σx σm : St, Inv σx σm → ∀ (a1 : Int64) (a2 : Int64) (a3 : Int64), ∃ (r : Int32) (x m : St), rX_feed a1 a2 a3 σx = some (r, x) ∧ rM_feed a1 a2 a3 σm = some (r, m) ∧ Inv x m
def PO_mountain (Inv : St → St → Prop) : Prop := ∀ σx σm : St, Inv σx σm → ∀ hb : Nat, ∃ (r : Int32) (x m : St) (mc : Nat), rX_mountain hb (Kn σx) mc (1000 * mc) σx = some (r, x) ∧ Kn x - Kn σx = mc ∧ mc ≤ 2 ∧ rM_mountain σm = some (r, m) ∧ Inv x m
def PO_station (Inv : St → St → Prop) : Prop := ∀ σx σm : St, Inv σx σm → ∀ (a1 : Int32) (a2 : Int32), ∃ (r : Int32) (x m : St), rX_station a1 a2 σx = some (r, x) ∧ rM_station a1 a2 σm = some (r, m) ∧ Inv x m
def PO_way (Inv : St → St → Prop) : Prop := ∀ σx σm : St, Inv σx σm → ∀ (a1 : Int32) (a2 : Int32) (a3 : Int32), ∃ (r : Int32) (x m : St), rX_way a1 a2 a3 σx = some (r, x) ∧ rM_way a1 a2 a3 σm = some (r, m) ∧ Inv x m
def PO_carrier (Inv : St → St → Prop) : Prop := ∀ σx σm : St, Inv σx σm → ∀ (a1 : Int32) (a2 : Int32), (∃ (r : Int32) (x m m2 : St), rX_carrier a1 a2 σx = some (r, x) ∧ rM_carrier a1 a2 σm = some (r, m) ∧ rM_thrown m = some (0, m2) ∧ Inv (setJ x 97 0 r.toInt64) m2) ∨ (∃ (r : Int32) (x m m2 : St), rX_carrierT a1 a2 σx = some x ∧ rM_carrier a1 a2 σm = some (r, m) ∧ rM_thrown m = some (1, m2) ∧ Inv x m2)
def PO_paths (Inv : St → St → Prop) : Prop := ∀ σx σm : St, Inv σx σm → ∃ (r : Int32) (x m : St), rX_paths σx = some (r, x) ∧ rM_paths σm = some (r, m) ∧ Inv x m
def PO_path (Inv : St → St → Prop) : Prop := ∀ σx σm : St, Inv σx σm → ∀ (a1 : Int32) (a2 : Int32), ∃ (r : Int32) (x m : St), rX_path a1 a2 σx = some (r, x) ∧ rM_path a1 a2 σm = some (r, m) ∧ Inv x m
def PO_trip (Inv : St → St → Prop) : Prop := ∀ σx σm : St, Inv σx σm → ∀ (a1 : Int32) (a2 : Int32) (a3 : Int32) (a4 : Int32), ∃ (r : Int32) (x m : St), rX_trip a1 a2 a3 a4 σx = some (r, x) ∧ rM_trip a1 a2 a3 a4 σm = some (r, m) ∧ Inv x m
def PO_send (Inv : St → St → Prop) : Prop := ∀ σx σm : St, Inv σx σm → ∀ (a1 : Int32) (a2 : Int32) (a3 : Int32), ∃ (r : Int32) (x m : St), rX_send a1 a2 a3 σx = some (r, x) ∧ rM_send a1 a2 a3 σm = some (r, m) ∧ Inv x m
def PO_rest (Inv : St → St → Prop) : Prop := ∀ σx σm : St, Inv σx σm → ∃ (r : Int32) (x m : St), rX_rest σx = some (r, x) ∧ rM_rest σm = some (r, m) ∧ Inv x m
def PO_seed (Inv : St → St → Prop) : Prop := ∀ σx σm : St, Inv σx σm → ∀ (a1 : Int32), ∃ (r : Int32) (x m : St), rX_seed a1 σx = some (r, x) ∧ rM_seed a1 σm = some (r, m) ∧ Inv x m
def PO_drank (Inv : St → St → Prop) : Prop := ∀ σx σm : St, Inv σx σm → ∀ (a1 : Int32) (a2 : Int32), ∃ (r : Int32) (x m : St), rX_drank a1 a2 σx = some (r, x) ∧ rM_drank a1 a2 σm = some (r, m) ∧ Inv x m
def PO_best (Inv : St → St → Prop) : Prop := ∀ σx σm : St, Inv σx σm → ∀ (a1 : Int32) (a2 : Int32) (a3 : Int32), ∃ (r : Int32) (x m : St), rX_best a1 a2 a3 σx = some (r, x) ∧ rM_best a1 a2 a3 σm = some (r, m) ∧ Inv x m
def PO_plan (Inv : St → St → Prop) : Prop := ∀ σx σm : St, Inv σx σm → ∀ (a1 : Int32), ∃ (r : Int32) (x m : St), rX_plan a1 σx = some (r, x) ∧ rM_plan a1 σm = some (r, m) ∧ Inv x m
def PO_relay (Inv : St → St → Prop) : Prop := ∀ σx σm : St, Inv σx σm → ∀ (a1 : Int32) (a2 : Int32), ∃ (r : Int32) (x m : St), rX_relay a1 a2 σx = some (r, x) ∧ rM_relay a1 a2 σm = some (r, m) ∧ Inv x m
def PO_owe (Inv : St → St → Prop) : Prop := ∀ σx σm : St, Inv σx σm → ∀ (a1 : Int32) (a2 : Int32) (a3 : Int32), ∃ (r : Int32) (x m : St), rX_owe a1 a2 a3 σx = some (r, x) ∧ rM_owe a1 a2 a3 σm = some (r, m) ∧ Inv x m
def PO_owes (Inv : St → St → Prop) : Prop := ∀ σx σm : St, Inv σx σm → ∀ (a1 : Int32) (a2 : Int32), ∃ (r : Int32) (x m : St), rX_owes a1 a2 σx = some (r, x) ∧ rM_owes a1 a2 σm = some (r, m) ∧ Inv x m
def PO_debt (Inv : St → St → Prop) : Prop := ∀ σx σm : St, Inv σx σm → ∀ (a1 : Int32), (∃ (r : Int32) (x m m2 : St), rX_debt a1 σx = some (r, x) ∧ rM_debt a1 σm = some (r, m) ∧ rM_thrown m = some (0, m2) ∧ Inv (setJ x 97 0 r.toInt64) m2) ∨ (∃ (r : Int32) (x m m2 : St), rX_debtT a1 σx = some x ∧ rM_debt a1 σm = some (r, m) ∧ rM_thrown m = some (1, m2) ∧ Inv x m2)
def PO_settled (Inv : St → St → Prop) : Prop := ∀ σx σm : St, Inv σx σm → ∃ (r : Int32) (x m : St), rX_settled σx = some (r, x) ∧ rM_settled σm = some (r, m) ∧ Inv x m
def PO_missed (Inv : St → St → Prop) : Prop := ∀ σx σm : St, Inv σx σm → ∀ (a1 : Int32) (a2 : Int32), ∃ (r : Int32) (x m : St), rX_missed a1 a2 σx = some (r, x) ∧ rM_missed a1 a2 σm = some (r, m) ∧ Inv x m
def PO_odds (Inv : St → St → Prop) : Prop := ∀ σx σm : St, Inv σx σm → ∀ (a1 : Int32) (a2 : Int32) (a3 : Int32), ∃ (r : Int32) (x m : St), rX_odds a1 a2 a3 σx = some (r, x) ∧ rM_odds a1 a2 a3 σm = some (r, m) ∧ Inv x m
def PO_patch (Inv : St → St → Prop) : Prop := ∀ σx σm : St, Inv σx σm → ∀ (a1 : Int32) (a2 : Int32), (a2 = 0 ∨ a2 = 1) → ∃ (r : Int32) (x m : St), rX_patch a1 a2 σx = some (r, x) ∧ rM_patch a1 a2 σm = some (r, m) ∧ Inv x m
def PO_undo (Inv : St → St → Prop) : Prop := ∀ σx σm : St, Inv σx σm → ∃ (r : Int32) (x m : St), rX_undo σx = some (r, x) ∧ rM_undo σm = some (r, m) ∧ Inv x m
def PO_mark (Inv : St → St → Prop) : Prop := ∀ σx σm : St, Inv σx σm → ∀ (a1 : Int32) (a2 : Int32), (a2 = 0 ∨ a2 = 1) → ∃ (r : Int32) (x m : St), rX_mark a1 a2 σx = some (r, x) ∧ rM_mark a1 a2 σm = some (r, m) ∧ Inv x m
def PO_count (Inv : St → St → Prop) : Prop := ∀ σx σm : St, Inv σx σm → ∀ (a1 : Int32), ∃ (r : Int32) (x m : St), rX_count a1 σx = some (r, x) ∧ rM_count a1 σm = some (r, m) ∧ Inv x m
abbrev wxL (X : CX) (qx : List Nat) : WT := wX (wD (xw X)) (wcT (xw X)) (wadW (xw X)) (wSt2 (xw X)) xLyO qx (fun Reg => xSx (wadW (xw X)) (wSt2 (xw X)) Reg) (fun _ => True) 0
abbrev wmL (X : CX) (qm : List Nat) : WT := wX (wD (xw X)) (wcT (xw X)) (wadW (xw X)) (wSt2 (xw X)) mLy qm (fun _ _ _ => True) (fun _ => True) 0
abbrev lws (X : CX) (qx qm : List Nat) (σx σm : St) : va_W := wal (wxL X qx) σx ++ wal (wmL X qm) σm
/-- what holds wherever the law stands -/
def lawX (X : CX) (b L : Nat) (xs' : Nat → Int32) : Prop := gL X cL_law 7 RL ∧ xR X = room_1 ∧ (xl X).stackTraces = false ∧ scrOK X b L xs'
abbrev lawlv (b i0 : Nat) (qx qm : List Nat) (i : Int32) : List (Nat × Value) := [(4, .int i), (3, .ref (qx.getD 97 0)), (2, .ref (qm.getD 0 0)), (1, .ref (qx.getD 0 0)), (0, .ref b)]
def lawin (i : Int32) (L : Nat) : Prop := vp_in (i + 1) L ∧ vp_in (i + 2) L ∧ vp_in (i + 3) L ∧ vp_in (i + 4) L ∧ vp_in (i + 5) L ∧ vp_in (i + 6) L
theorem lkw_L_carrier : ∀ w ∈ va_wsS RL 44 yL_carrier (.codeWith yL_carrier cL_carrier 5 (some .int) [((0 : Nat), (10 : Nat), (13 : Nat), (13 : Nat))] :: U0), w ∈ U0 := by
  intro w hw
  simp only [va_wsS, List.cons_append, List.nil_append, List.mem_cons] at hw
  rcases hw with rfl | rfl | rfl | rfl | hw
  · exact uw_5_149
  · exact uw_5_150
  · exact uw_1_0
  · exact uw_5_151
  · exact hw
theorem lkw_L_debt : ∀ w ∈ va_wsS RL 104 yL_debt (.codeWith yL_debt cL_debt 4 (some .int) [((0 : Nat), (9 : Nat), (12 : Nat), (13 : Nat))] :: U0), w ∈ U0 := by
  intro w hw
  simp only [va_wsS, List.cons_append, List.nil_append, List.mem_cons] at hw
  rcases hw with rfl | rfl | rfl | rfl | hw
  · exact uw_5_223
  · exact uw_5_224
  · exact uw_1_0
  · exact uw_5_225
  · exact hw
theorem outget {X : CX} {qx qm : List Nat} (x m : St) : (lws X qx qm x m)[97]? = some (qx.getD 97 0, .inl (wcT (xw X) 1, 1, .inr (.inl (x.2.1 97)))) := by
  rw [List.getElem?_append_left (by rw [List.length_append, wws_len]; show 97 < 98 + _; omega), wal_get (w := wxL X qx) x (show 97 < 98 by decide)]
  rfl
set_option maxRecDepth 100000 in
theorem law_0 {X : CX} {b L : Nat} {xs' : Nat → Int32} {qx qm : List Nat} {σx σm : St} {Inv : St → St → Prop} {i : Int32} {k n : Nat} (hl : lawX X b L xs') (hp : PO_feed Inv) (hi : Inv σx σm) (hin : lawin i L) (hk : k + 2 ≤ 601024 ∧ n + 2000 ≤ 7293034) (kk : ∀ (x m : St) (k' n' : Nat), Inv x m → k' ≤ k + 2 → n' ≤ n + 2000 → Lj X 7 1201 (lawlv b 0 qx qm i) [] (lws X qx qm x m) k' n') : Lj X 7 156 (lawlv b 0 qx qm i) [] (lws X qx qm σx σm) k n := by
  obtain ⟨hX, hR, hl0, hs⟩ := hl
  obtain ⟨r, x, m, h1, h2, h3⟩ := hp σx σm hi (((xs' (i + 1).toNatClampNeg).toInt64 <<< ((32 : Int32).toInt64 &&& 63)) ||| ((xs' (i + 2).toNatClampNeg).toInt64 &&& (4294967295 : Int64))) (((xs' (i + 3).toNatClampNeg).toInt64 <<< ((32 : Int32).toInt64 &&& 63)) ||| ((xs' (i + 4).toNatClampNeg).toInt64 &&& (4294967295 : Int64))) (((xs' (i + 5).toNatClampNeg).toInt64 <<< ((32 : Int32).toInt64 &&& 63)) ||| ((xs' (i + 6).toNatClampNeg).toInt64 &&& (4294967295 : Int64)))
  refine L_aload_n (q := 3) hX dL_law_156 rfl rfl ?_
  refine L_aload_n (q := 4) hX dL_law_157 rfl rfl ?_
  refine L_iload (q := 0) hX dL_law_158 rfl ?_
  refine L_iconst (v := 1) hX dL_law_160 (by decide) ?_
  refine L_iadd hX dL_law_161 ?_
  refine L_sld hX hs hin.1 dL_law_162 ?_
  refine L_i2l hX dL_law_163 ?_
  refine L_bipush (v := 32) hX dL_law_164 (by decide) ?_
  refine L_lshl hX dL_law_166 ?_
  refine L_aload_n (q := 4) hX dL_law_167 rfl rfl ?_
  refine L_iload (q := 0) hX dL_law_168 rfl ?_
  refine L_iconst (v := 2) hX dL_law_170 (by decide) ?_
  refine L_iadd hX dL_law_171 ?_
  refine L_sld hX hs hin.2.1 dL_law_172 ?_
  refine L_i2l hX dL_law_173 ?_
  refine L_ldc2 (v := (4294967295 : Int64)) hX uw_8_64 dL_law_174 ?_
  refine L_land hX dL_law_177 ?_
  refine L_lor hX dL_law_178 ?_
  refine L_aload_n (q := 4) hX dL_law_179 rfl rfl ?_
  refine L_iload (q := 0) hX dL_law_180 rfl ?_
  refine L_iconst (v := 3) hX dL_law_182 (by decide) ?_
  refine L_iadd hX dL_law_183 ?_
  refine L_sld hX hs hin.2.2.1 dL_law_184 ?_
  refine L_i2l hX dL_law_185 ?_
  refine L_bipush (v := 32) hX dL_law_186 (by decide) ?_
  refine L_lshl hX dL_law_188 ?_
  refine L_aload_n (q := 4) hX dL_law_189 rfl rfl ?_
  refine L_iload (q := 0) hX dL_law_190 rfl ?_
  refine L_iconst (v := 4) hX dL_law_192 (by decide) ?_
  refine L_iadd hX dL_law_193 ?_
  refine L_sld hX hs hin.2.2.2.1 dL_law_194 ?_
  refine L_i2l hX dL_law_195 ?_
  refine L_ldc2 (v := (4294967295 : Int64)) hX uw_8_64 dL_law_196 ?_
  refine L_land hX dL_law_199 ?_
  refine L_lor hX dL_law_200 ?_
  refine L_aload_n (q := 4) hX dL_law_201 rfl rfl ?_
  refine L_iload (q := 0) hX dL_law_202 rfl ?_
  refine L_iconst (v := 5) hX dL_law_204 (by decide) ?_
  refine L_iadd hX dL_law_205 ?_
  refine L_sld hX hs hin.2.2.2.2.1 dL_law_206 ?_
  refine L_i2l hX dL_law_207 ?_
  refine L_bipush (v := 32) hX dL_law_208 (by decide) ?_
  refine L_lshl hX dL_law_210 ?_
  refine L_aload_n (q := 4) hX dL_law_211 rfl rfl ?_
  refine L_iload (q := 0) hX dL_law_212 rfl ?_
  refine L_bipush (v := 6) hX dL_law_214 (by decide) ?_
  refine L_iadd hX dL_law_216 ?_
  refine L_sld hX hs hin.2.2.2.2.2 dL_law_217 ?_
  refine L_i2l hX dL_law_218 ?_
  refine L_ldc2 (v := (4294967295 : Int64)) hX uw_8_64 dL_law_219 ?_
  refine L_land hX dL_law_222 ?_
  refine L_lor hX dL_law_223 ?_
  refine L_swap ?_
  refine L_callP (lay := xLyO) (qs := qx) (i := 0) (rest := []) [.long ((((xs' (i + 1).toNatClampNeg).toInt64) <<< ((32 : Int32).toInt64 &&& 63)) ||| (((xs' (i + 2).toNatClampNeg).toInt64) &&& (4294967295 : Int64))), .long ((((xs' (i + 3).toNatClampNeg).toInt64) <<< ((32 : Int32).toInt64 &&& 63)) ||| (((xs' (i + 4).toNatClampNeg).toInt64) &&& (4294967295 : Int64))), .long ((((xs' (i + 5).toNatClampNeg).toInt64) <<< ((32 : Int32).toInt64 &&& 63)) ||| (((xs' (i + 6).toNatClampNeg).toInt64) &&& (4294967295 : Int64)))] hX (Clo_x _ _) (hSx_x hX) (fun Reg B => ctX_feed ⟨Or.inr rfl, rfl⟩ h1) lk_L_25_X11_feed md_X11_feed (fun Reg B => xc_0 ⟨Or.inr rfl, rfl⟩) cls_X11 (by rw [hR]; exact ⟨by decide, by decide⟩) (by rw [hR]; exact ⟨by show k ≤ 601024; omega, by show n ≤ 7293034; omega⟩) rfl rfl (Nat.le_of_ble_eq_true rfl) dL_law_224 ?_
  refine L_swap ?_
  refine L_aload_n (q := 2) hX dL_law_227 rfl rfl ?_
  refine L_aload_n (q := 4) hX dL_law_228 rfl rfl ?_
  refine L_iload (q := 0) hX dL_law_229 rfl ?_
  refine L_iconst (v := 1) hX dL_law_231 (by decide) ?_
  refine L_iadd hX dL_law_232 ?_
  refine L_sld hX hs hin.1 dL_law_233 ?_
  refine L_i2l hX dL_law_234 ?_
  refine L_bipush (v := 32) hX dL_law_235 (by decide) ?_
  refine L_lshl hX dL_law_237 ?_
  refine L_aload_n (q := 4) hX dL_law_238 rfl rfl ?_
  refine L_iload (q := 0) hX dL_law_239 rfl ?_
  refine L_iconst (v := 2) hX dL_law_241 (by decide) ?_
  refine L_iadd hX dL_law_242 ?_
  refine L_sld hX hs hin.2.1 dL_law_243 ?_
  refine L_i2l hX dL_law_244 ?_
  refine L_ldc2 (v := (4294967295 : Int64)) hX uw_8_64 dL_law_245 ?_
  refine L_land hX dL_law_248 ?_
  refine L_lor hX dL_law_249 ?_
  refine L_aload_n (q := 4) hX dL_law_250 rfl rfl ?_
  refine L_iload (q := 0) hX dL_law_251 rfl ?_
  refine L_iconst (v := 3) hX dL_law_253 (by decide) ?_
  refine L_iadd hX dL_law_254 ?_
  refine L_sld hX hs hin.2.2.1 dL_law_255 ?_
  refine L_i2l hX dL_law_256 ?_
  refine L_bipush (v := 32) hX dL_law_257 (by decide) ?_
  refine L_lshl hX dL_law_259 ?_
  refine L_aload_n (q := 4) hX dL_law_260 rfl rfl ?_
  refine L_iload (q := 0) hX dL_law_261 rfl ?_
  refine L_iconst (v := 4) hX dL_law_263 (by decide) ?_
  refine L_iadd hX dL_law_264 ?_
  refine L_sld hX hs hin.2.2.2.1 dL_law_265 ?_
  refine L_i2l hX dL_law_266 ?_
  refine L_ldc2 (v := (4294967295 : Int64)) hX uw_8_64 dL_law_267 ?_
  refine L_land hX dL_law_270 ?_
  refine L_lor hX dL_law_271 ?_
  refine L_aload_n (q := 4) hX dL_law_272 rfl rfl ?_
  refine L_iload (q := 0) hX dL_law_273 rfl ?_
  refine L_iconst (v := 5) hX dL_law_275 (by decide) ?_
  refine L_iadd hX dL_law_276 ?_
  refine L_sld hX hs hin.2.2.2.2.1 dL_law_277 ?_
  refine L_i2l hX dL_law_278 ?_
  refine L_bipush (v := 32) hX dL_law_279 (by decide) ?_
  refine L_lshl hX dL_law_281 ?_
  refine L_aload_n (q := 4) hX dL_law_282 rfl rfl ?_
  refine L_iload (q := 0) hX dL_law_283 rfl ?_
  refine L_bipush (v := 6) hX dL_law_285 (by decide) ?_
  refine L_iadd hX dL_law_287 ?_
  refine L_sld hX hs hin.2.2.2.2.2 dL_law_288 ?_
  refine L_i2l hX dL_law_289 ?_
  refine L_ldc2 (v := (4294967295 : Int64)) hX uw_8_64 dL_law_290 ?_
  refine L_land hX dL_law_293 ?_
  refine L_lor hX dL_law_294 ?_
  refine L_callP (lay := mLy) (qs := qm) (i := 0) (rest := [.int r]) [.long ((((xs' (i + 1).toNatClampNeg).toInt64) <<< ((32 : Int32).toInt64 &&& 63)) ||| (((xs' (i + 2).toNatClampNeg).toInt64) &&& (4294967295 : Int64))), .long ((((xs' (i + 3).toNatClampNeg).toInt64) <<< ((32 : Int32).toInt64 &&& 63)) ||| (((xs' (i + 4).toNatClampNeg).toInt64) &&& (4294967295 : Int64))), .long ((((xs' (i + 5).toNatClampNeg).toInt64) <<< ((32 : Int32).toInt64 &&& 63)) ||| (((xs' (i + 6).toNatClampNeg).toInt64) &&& (4294967295 : Int64)))] hX Clo_m (fun _ _ _ _ _ => trivial) (fun Reg B => ctM_feed rfl h2) lk_L_29_X12_feed md_X12_feed (fun Reg B => mc_0 rfl) cls_X12 (by rw [hR]; exact ⟨by decide, by decide⟩) (by rw [hR]; exact ⟨by show k ≤ 601024; omega, by show n ≤ 7293034; omega⟩) rfl rfl (Nat.le_of_ble_eq_true rfl) dL_law_295 ?_
  refine L_icmp_eqT (tgt := 1201) hX dL_law_298 rfl rfl ?_
  exact kk _ _ _ _ h3 (by omega) (by omega)
set_option maxRecDepth 100000 in
theorem law_1 {X : CX} {b L : Nat} {xs' : Nat → Int32} {qx qm : List Nat} {σx σm : St} {Inv : St → St → Prop} {i : Int32} {k n : Nat} (hl : lawX X b L xs') (hp : PO_mountain Inv) (hi : Inv σx σm) (hin : lawin i L) (hk : k + 2 ≤ 601024 ∧ n + 2000 ≤ 7293034) (kk : ∀ (x m : St) (k' n' : Nat), Inv x m → k' ≤ k + 2 → n' ≤ n + 2000 → Lj X 7 1201 (lawlv b 0 qx qm i) [] (lws X qx qm x m) k' n') : Lj X 7 303 (lawlv b 0 qx qm i) [] (lws X qx qm σx σm) k n := by
  obtain ⟨hX, hR, hl0, hs⟩ := hl
  obtain ⟨r, x0, m, mc0, -, -, -, h4, -⟩ := hp σx σm hi 0
  have hex2 : ∀ z : Nat, ∃ q : St × Nat, rX_mountain (z - Kn σx) (Kn σx) q.2 (1000 * q.2) σx = some (r, q.1) ∧ Kn q.1 - Kn σx = q.2 ∧ q.2 ≤ 2 ∧ Inv q.1 m := fun z => by
    obtain ⟨r', x, m', mc, h1, h2, h3, h4', h5⟩ := hp σx σm hi (z - Kn σx)
    rw [h4] at h4'
    cases h4'
    exact ⟨(x, mc), h1, h2, h3, h5⟩
  obtain ⟨qf, hqf⟩ := Classical.axiomOfChoice hex2
  generalize hτ : (fun z => (qf z).1) = τf
  generalize hmf : (fun z => (qf z).2) = mcf
  have hq1 : ∀ z, rX_mountain (z - Kn σx) (Kn σx) (mcf z) (1000 * mcf z) σx = some (r, τf z) := fun z => by rw [← hτ, ← hmf]; exact (hqf z).1
  have hq2 : ∀ z, Kn (τf z) - Kn σx = mcf z := fun z => by rw [← hτ, ← hmf]; exact (hqf z).2.1
  have hmc : ∀ z, mcf z ≤ 2 := fun z => by rw [← hmf]; exact (hqf z).2.2.1
  have hq4 : ∀ z, Inv (τf z) m := fun z => by rw [← hτ]; exact (hqf z).2.2.2
  have hCt : ∀ (Reg : Nat → Prop) (B z : Nat), Kn σx ≤ z → CtA yX11_mountain cX11_mountain 3 (some .int) 20 469 (wX (wD (xw X)) (wcT (xw X)) (wadW (xw X)) (wSt2 (xw X)) xLyO qx (fun Reg => xSx (wadW (xw X)) (wSt2 (xw X)) Reg) Reg B) (.ref (qx.getD 0 0) :: []) σx z (some (.int r)) (τf z) (mcf z) (1000 * mcf z) true := by
    intro Reg B z hz
    have h9 := ctX_mountain (w := wX (wD (xw X)) (wcT (xw X)) (wadW (xw X)) (wSt2 (xw X)) xLyO qx (fun Reg => xSx (wadW (xw X)) (wSt2 (xw X)) Reg) Reg B) ⟨Or.inr rfl, rfl⟩ (hq1 z) (hq2 z) rfl
    have e : z - Kn σx + Kn σx = z := by omega
    rw [e] at h9
    exact h9
  refine L_aload_n (q := 3) hX dL_law_303 rfl rfl ?_
  refine L_swap ?_
  refine L_callA (lay := xLyO) (qs := qx) (i := 0) (rest := []) (τ := τf) (mc := mcf) (ms := fun z => 1000 * mcf z) (x := true) [] hX (Clo_x _ _) (hSx_x hX) (fun Reg B z hz => hCt Reg B z hz) lk_L_30_X11_mountain md_X11_mountain (fun Reg B => xc_0 ⟨Or.inr rfl, rfl⟩) cls_X11 (by rw [hR]; exact ⟨by decide, by decide⟩) (fun z => by rw [hR]; have := hmc z; exact ⟨by show k + mcf z ≤ 601024; omega, by show n + 1000 * mcf z ≤ 7293034; omega⟩) rfl rfl (Nat.le_of_ble_eq_true rfl) dL_law_304 (fun z => ?_)
  refine L_swap ?_
  refine L_aload_n (q := 2) hX dL_law_307 rfl rfl ?_
  refine L_callP (lay := mLy) (qs := qm) (i := 0) (rest := [.int r]) [] hX Clo_m (fun _ _ _ _ _ => trivial) (fun Reg B => ctM_mountain rfl h4) lk_L_34_X12_mountain md_X12_mountain (fun Reg B => mc_0 rfl) cls_X12 (by rw [hR]; exact ⟨by decide, by decide⟩) (by rw [hR]; exact (by have := hmc z; exact ⟨by show k + mcf z ≤ 601024; omega, by show n + 1000 * mcf z ≤ 7293034; omega⟩)) rfl rfl (Nat.le_of_ble_eq_true rfl) dL_law_308 ?_
  refine L_icmp_eqT (tgt := 1201) hX dL_law_311 rfl rfl ?_
  exact kk _ _ _ _ (hq4 z) (by have := hmc z; omega) (by have := hmc z; omega)
set_option maxRecDepth 100000 in
theorem law_2 {X : CX} {b L : Nat} {xs' : Nat → Int32} {qx qm : List Nat} {σx σm : St} {Inv : St → St → Prop} {i : Int32} {k n : Nat} (hl : lawX X b L xs') (hp : PO_station Inv) (hi : Inv σx σm) (hin : lawin i L) (hk : k + 2 ≤ 601024 ∧ n + 2000 ≤ 7293034) (kk : ∀ (x m : St) (k' n' : Nat), Inv x m → k' ≤ k + 2 → n' ≤ n + 2000 → Lj X 7 1201 (lawlv b 0 qx qm i) [] (lws X qx qm x m) k' n') : Lj X 7 316 (lawlv b 0 qx qm i) [] (lws X qx qm σx σm) k n := by
  obtain ⟨hX, hR, hl0, hs⟩ := hl
  obtain ⟨r, x, m, h1, h2, h3⟩ := hp σx σm hi (xs' (i + 1).toNatClampNeg) (xs' (i + 2).toNatClampNeg)
  refine L_aload_n (q := 3) hX dL_law_316 rfl rfl ?_
  refine L_aload_n (q := 4) hX dL_law_317 rfl rfl ?_
  refine L_iload (q := 0) hX dL_law_318 rfl ?_
  refine L_iconst (v := 1) hX dL_law_320 (by decide) ?_
  refine L_iadd hX dL_law_321 ?_
  refine L_sld hX hs hin.1 dL_law_322 ?_
  refine L_aload_n (q := 4) hX dL_law_323 rfl rfl ?_
  refine L_iload (q := 0) hX dL_law_324 rfl ?_
  refine L_iconst (v := 2) hX dL_law_326 (by decide) ?_
  refine L_iadd hX dL_law_327 ?_
  refine L_sld hX hs hin.2.1 dL_law_328 ?_
  refine L_swap ?_
  refine L_callP (lay := xLyO) (qs := qx) (i := 0) (rest := []) [.int (xs' (i + 1).toNatClampNeg), .int (xs' (i + 2).toNatClampNeg)] hX (Clo_x _ _) (hSx_x hX) (fun Reg B => ctX_station ⟨Or.inr rfl, rfl⟩ h1) lk_L_35_X11_station md_X11_station (fun Reg B => xc_0 ⟨Or.inr rfl, rfl⟩) cls_X11 (by rw [hR]; exact ⟨by decide, by decide⟩) (by rw [hR]; exact ⟨by show k ≤ 601024; omega, by show n ≤ 7293034; omega⟩) rfl rfl (Nat.le_of_ble_eq_true rfl) dL_law_329 ?_
  refine L_swap ?_
  refine L_aload_n (q := 2) hX dL_law_332 rfl rfl ?_
  refine L_aload_n (q := 4) hX dL_law_333 rfl rfl ?_
  refine L_iload (q := 0) hX dL_law_334 rfl ?_
  refine L_iconst (v := 1) hX dL_law_336 (by decide) ?_
  refine L_iadd hX dL_law_337 ?_
  refine L_sld hX hs hin.1 dL_law_338 ?_
  refine L_aload_n (q := 4) hX dL_law_339 rfl rfl ?_
  refine L_iload (q := 0) hX dL_law_340 rfl ?_
  refine L_iconst (v := 2) hX dL_law_342 (by decide) ?_
  refine L_iadd hX dL_law_343 ?_
  refine L_sld hX hs hin.2.1 dL_law_344 ?_
  refine L_callP (lay := mLy) (qs := qm) (i := 0) (rest := [.int r]) [.int (xs' (i + 1).toNatClampNeg), .int (xs' (i + 2).toNatClampNeg)] hX Clo_m (fun _ _ _ _ _ => trivial) (fun Reg B => ctM_station rfl h2) lk_L_38_X12_station md_X12_station (fun Reg B => mc_0 rfl) cls_X12 (by rw [hR]; exact ⟨by decide, by decide⟩) (by rw [hR]; exact ⟨by show k ≤ 601024; omega, by show n ≤ 7293034; omega⟩) rfl rfl (Nat.le_of_ble_eq_true rfl) dL_law_345 ?_
  refine L_icmp_eqT (tgt := 1201) hX dL_law_348 rfl rfl ?_
  exact kk _ _ _ _ h3 (by omega) (by omega)
set_option maxRecDepth 100000 in
theorem law_3 {X : CX} {b L : Nat} {xs' : Nat → Int32} {qx qm : List Nat} {σx σm : St} {Inv : St → St → Prop} {i : Int32} {k n : Nat} (hl : lawX X b L xs') (hp : PO_way Inv) (hi : Inv σx σm) (hin : lawin i L) (hk : k + 2 ≤ 601024 ∧ n + 2000 ≤ 7293034) (kk : ∀ (x m : St) (k' n' : Nat), Inv x m → k' ≤ k + 2 → n' ≤ n + 2000 → Lj X 7 1201 (lawlv b 0 qx qm i) [] (lws X qx qm x m) k' n') : Lj X 7 353 (lawlv b 0 qx qm i) [] (lws X qx qm σx σm) k n := by
  obtain ⟨hX, hR, hl0, hs⟩ := hl
  obtain ⟨r, x, m, h1, h2, h3⟩ := hp σx σm hi (xs' (i + 1).toNatClampNeg) (xs' (i + 2).toNatClampNeg) (xs' (i + 3).toNatClampNeg)
  refine L_aload_n (q := 3) hX dL_law_353 rfl rfl ?_
  refine L_aload_n (q := 4) hX dL_law_354 rfl rfl ?_
  refine L_iload (q := 0) hX dL_law_355 rfl ?_
  refine L_iconst (v := 1) hX dL_law_357 (by decide) ?_
  refine L_iadd hX dL_law_358 ?_
  refine L_sld hX hs hin.1 dL_law_359 ?_
  refine L_aload_n (q := 4) hX dL_law_360 rfl rfl ?_
  refine L_iload (q := 0) hX dL_law_361 rfl ?_
  refine L_iconst (v := 2) hX dL_law_363 (by decide) ?_
  refine L_iadd hX dL_law_364 ?_
  refine L_sld hX hs hin.2.1 dL_law_365 ?_
  refine L_aload_n (q := 4) hX dL_law_366 rfl rfl ?_
  refine L_iload (q := 0) hX dL_law_367 rfl ?_
  refine L_iconst (v := 3) hX dL_law_369 (by decide) ?_
  refine L_iadd hX dL_law_370 ?_
  refine L_sld hX hs hin.2.2.1 dL_law_371 ?_
  refine L_swap ?_
  refine L_callP (lay := xLyO) (qs := qx) (i := 0) (rest := []) [.int (xs' (i + 1).toNatClampNeg), .int (xs' (i + 2).toNatClampNeg), .int (xs' (i + 3).toNatClampNeg)] hX (Clo_x _ _) (hSx_x hX) (fun Reg B => ctX_way ⟨Or.inr rfl, rfl⟩ h1) lk_L_39_X11_way md_X11_way (fun Reg B => xc_0 ⟨Or.inr rfl, rfl⟩) cls_X11 (by rw [hR]; exact ⟨by decide, by decide⟩) (by rw [hR]; exact ⟨by show k ≤ 601024; omega, by show n ≤ 7293034; omega⟩) rfl rfl (Nat.le_of_ble_eq_true rfl) dL_law_372 ?_
  refine L_swap ?_
  refine L_aload_n (q := 2) hX dL_law_375 rfl rfl ?_
  refine L_aload_n (q := 4) hX dL_law_376 rfl rfl ?_
  refine L_iload (q := 0) hX dL_law_377 rfl ?_
  refine L_iconst (v := 1) hX dL_law_379 (by decide) ?_
  refine L_iadd hX dL_law_380 ?_
  refine L_sld hX hs hin.1 dL_law_381 ?_
  refine L_aload_n (q := 4) hX dL_law_382 rfl rfl ?_
  refine L_iload (q := 0) hX dL_law_383 rfl ?_
  refine L_iconst (v := 2) hX dL_law_385 (by decide) ?_
  refine L_iadd hX dL_law_386 ?_
  refine L_sld hX hs hin.2.1 dL_law_387 ?_
  refine L_aload_n (q := 4) hX dL_law_388 rfl rfl ?_
  refine L_iload (q := 0) hX dL_law_389 rfl ?_
  refine L_iconst (v := 3) hX dL_law_391 (by decide) ?_
  refine L_iadd hX dL_law_392 ?_
  refine L_sld hX hs hin.2.2.1 dL_law_393 ?_
  refine L_callP (lay := mLy) (qs := qm) (i := 0) (rest := [.int r]) [.int (xs' (i + 1).toNatClampNeg), .int (xs' (i + 2).toNatClampNeg), .int (xs' (i + 3).toNatClampNeg)] hX Clo_m (fun _ _ _ _ _ => trivial) (fun Reg B => ctM_way rfl h2) lk_L_43_X12_way md_X12_way (fun Reg B => mc_0 rfl) cls_X12 (by rw [hR]; exact ⟨by decide, by decide⟩) (by rw [hR]; exact ⟨by show k ≤ 601024; omega, by show n ≤ 7293034; omega⟩) rfl rfl (Nat.le_of_ble_eq_true rfl) dL_law_394 ?_
  refine L_icmp_eqT (tgt := 1201) hX dL_law_397 rfl rfl ?_
  exact kk _ _ _ _ h3 (by omega) (by omega)
set_option maxRecDepth 100000 in
theorem law_4 {X : CX} {b L : Nat} {xs' : Nat → Int32} {qx qm : List Nat} {σx σm : St} {Inv : St → St → Prop} {i : Int32} {k n : Nat} (hl : lawX X b L xs') (hp : PO_carrier Inv) (hi : Inv σx σm) (hin : lawin i L) (hk : k + 2 ≤ 601024 ∧ n + 2000 ≤ 7293034) (kk : ∀ (x m : St) (k' n' : Nat), Inv x m → k' ≤ k + 2 → n' ≤ n + 2000 → Lj X 7 1201 (lawlv b 0 qx qm i) [] (lws X qx qm x m) k' n') : Lj X 7 402 (lawlv b 0 qx qm i) [] (lws X qx qm σx σm) k n := by
  obtain ⟨hX, hR, hl0, hs⟩ := hl
  rcases hp σx σm hi (xs' (i + 1).toNatClampNeg) (xs' (i + 2).toNatClampNeg) with ⟨r, x, m, m2, h1, h2, h3, h4⟩ | ⟨r, x, m, m2, h1, h2, h3, h4⟩
  · refine L_aload_n (q := 3) hX dL_law_402 rfl rfl ?_
    refine L_aload_n (q := 4) hX dL_law_403 rfl rfl ?_
    refine L_iload (q := 0) hX dL_law_404 rfl ?_
    refine L_iconst (v := 1) hX dL_law_406 (by decide) ?_
    refine L_iadd hX dL_law_407 ?_
    refine L_sld hX hs hin.1 dL_law_408 ?_
    refine L_aload_n (q := 4) hX dL_law_409 rfl rfl ?_
    refine L_iload (q := 0) hX dL_law_410 rfl ?_
    refine L_iconst (v := 2) hX dL_law_412 (by decide) ?_
    refine L_iadd hX dL_law_413 ?_
    refine L_sld hX hs hin.2.1 dL_law_414 ?_
    refine L_aload_n (q := 1) hX dL_law_415 rfl rfl ?_
    refine L_swap ?_
    refine L_callSW (lay := xLyO) (qs := qx) (rest := []) [.ref (qx.getD 0 0), .int (xs' (i + 1).toNatClampNeg), .int (xs' (i + 2).toNatClampNeg), .ref (qx.getD 97 0)] hX hl0 (Clo_x _ _) (hSx_x hX) (fun Reg B => ctL_carrier_R ⟨Or.inr rfl, rfl⟩ rfl h1) lkw_L_carrier md_L_carrier (by rw [hR]; exact ⟨by decide, by decide⟩) (by rw [hR]; exact ⟨by show k + 1 ≤ 601024; omega, by show n + 6 ≤ 7293034; omega⟩) rfl rfl (Nat.le_of_ble_eq_true rfl) dL_law_416 ?_
    refine L_swap ?_
    refine L_istore (lv' := [(5, .int 0), (4, .int i), (3, .ref (qx.getD 97 0)), (2, .ref (qm.getD 0 0)), (1, .ref (qx.getD 0 0)), (0, .ref b)]) hX dL_law_419 (by decide) rfl ?_
    refine L_aload_n (q := 3) hX dL_law_421 rfl rfl ?_
    refine L_aload_n (q := 5) hX dL_law_422 rfl rfl ?_
    refine L_iload (q := 1) hX dL_law_423 rfl ?_
    refine L_iconst (v := 1) hX dL_law_425 (by decide) ?_
    refine L_iadd hX dL_law_426 ?_
    refine L_sld hX hs hin.1 dL_law_427 ?_
    refine L_aload_n (q := 5) hX dL_law_428 rfl rfl ?_
    refine L_iload (q := 1) hX dL_law_429 rfl ?_
    refine L_iconst (v := 2) hX dL_law_431 (by decide) ?_
    refine L_iadd hX dL_law_432 ?_
    refine L_sld hX hs hin.2.1 dL_law_433 ?_
    refine L_callP (lay := mLy) (qs := qm) (i := 0) (rest := []) [.int (xs' (i + 1).toNatClampNeg), .int (xs' (i + 2).toNatClampNeg)] hX Clo_m (fun _ _ _ _ _ => trivial) (fun Reg B => ctM_carrier rfl h2) lk_L_49_X12_carrier md_X12_carrier (fun Reg B => mc_0 rfl) cls_X12 (by rw [hR]; exact ⟨by decide, by decide⟩) (by rw [hR]; exact ⟨by show k + 1 ≤ 601024; omega, by show n + 6 ≤ 7293034; omega⟩) rfl rfl (Nat.le_of_ble_eq_true rfl) dL_law_434 ?_
    refine L_istore (lv' := [(6, .int r), (5, .int 0), (4, .int i), (3, .ref (qx.getD 97 0)), (2, .ref (qm.getD 0 0)), (1, .ref (qx.getD 0 0)), (0, .ref b)]) hX dL_law_437 (by decide) rfl ?_
    refine L_aload_n (q := 4) hX dL_law_439 rfl rfl ?_
    refine L_callP (lay := mLy) (qs := qm) (i := 0) (rest := []) [] hX Clo_m (fun _ _ _ _ _ => trivial) (fun Reg B => ctM_thrown rfl h3) lk_L_50_X12_thrown md_X12_thrown (fun Reg B => mc_0 rfl) cls_X12 (by rw [hR]; exact ⟨by decide, by decide⟩) (by rw [hR]; exact ⟨by show k + 1 ≤ 601024; omega, by show n + 6 ≤ 7293034; omega⟩) rfl rfl (Nat.le_of_ble_eq_true rfl) dL_law_440 ?_
    refine L_iload (q := 1) hX dL_law_443 rfl ?_
    refine L_icmp_eqT (tgt := 450) hX dL_law_445 rfl rfl ?_
    refine L_iload (q := 1) hX dL_law_450 rfl ?_
    refine L_if_neF (tgt := 467) hX dL_law_452 rfl rfl ?_
    refine L_aload_n (q := 3) hX dL_law_455 rfl rfl ?_
    refine L_iconst (v := 0) hX dL_law_456 (by decide) ?_
    refine L_lald (i := 97) (f := (setJ x 97 0 r.toInt64).2.1 97) hX (outget _ _) (pk_in 0 1 (by decide) rfl) dL_law_457 ?_
    refine L_iload (q := 0) hX dL_law_458 rfl ?_
    refine L_i2l hX dL_law_460 ?_
    refine L_lcmp hX dL_law_461 ?_
    refine L_if_eqT (tgt := 467) hX dL_law_462 rfl (by rw [setJ_same]; show lg_cmp (vp_updL _ 0 r.toInt64 0) r.toInt64 = 0; simp [vp_updL, lg_cmp]) ?_
    refine L_goto (tgt := 1201) hX dL_law_467 rfl ?_
    refine L_lvsub [2, 3, 4, 5, 6] rfl ?_
    exact kk _ _ _ _ h4 (by omega) (by omega)
  · refine L_aload_n (q := 3) hX dL_law_402 rfl rfl ?_
    refine L_aload_n (q := 4) hX dL_law_403 rfl rfl ?_
    refine L_iload (q := 0) hX dL_law_404 rfl ?_
    refine L_iconst (v := 1) hX dL_law_406 (by decide) ?_
    refine L_iadd hX dL_law_407 ?_
    refine L_sld hX hs hin.1 dL_law_408 ?_
    refine L_aload_n (q := 4) hX dL_law_409 rfl rfl ?_
    refine L_iload (q := 0) hX dL_law_410 rfl ?_
    refine L_iconst (v := 2) hX dL_law_412 (by decide) ?_
    refine L_iadd hX dL_law_413 ?_
    refine L_sld hX hs hin.2.1 dL_law_414 ?_
    refine L_aload_n (q := 1) hX dL_law_415 rfl rfl ?_
    refine L_swap ?_
    refine L_callSW (lay := xLyO) (qs := qx) (rest := []) [.ref (qx.getD 0 0), .int (xs' (i + 1).toNatClampNeg), .int (xs' (i + 2).toNatClampNeg), .ref (qx.getD 97 0)] hX hl0 (Clo_x _ _) (hSx_x hX) (fun Reg B => ctL_carrier_T ⟨Or.inr rfl, rfl⟩ rfl h1) lkw_L_carrier md_L_carrier (by rw [hR]; exact ⟨by decide, by decide⟩) (by rw [hR]; exact ⟨by show k + 1 ≤ 601024; omega, by show n + 6 ≤ 7293034; omega⟩) rfl rfl (Nat.le_of_ble_eq_true rfl) dL_law_416 ?_
    refine L_swap ?_
    refine L_istore (lv' := [(5, .int 1), (4, .int i), (3, .ref (qx.getD 97 0)), (2, .ref (qm.getD 0 0)), (1, .ref (qx.getD 0 0)), (0, .ref b)]) hX dL_law_419 (by decide) rfl ?_
    refine L_aload_n (q := 3) hX dL_law_421 rfl rfl ?_
    refine L_aload_n (q := 5) hX dL_law_422 rfl rfl ?_
    refine L_iload (q := 1) hX dL_law_423 rfl ?_
    refine L_iconst (v := 1) hX dL_law_425 (by decide) ?_
    refine L_iadd hX dL_law_426 ?_
    refine L_sld hX hs hin.1 dL_law_427 ?_
    refine L_aload_n (q := 5) hX dL_law_428 rfl rfl ?_
    refine L_iload (q := 1) hX dL_law_429 rfl ?_
    refine L_iconst (v := 2) hX dL_law_431 (by decide) ?_
    refine L_iadd hX dL_law_432 ?_
    refine L_sld hX hs hin.2.1 dL_law_433 ?_
    refine L_callP (lay := mLy) (qs := qm) (i := 0) (rest := []) [.int (xs' (i + 1).toNatClampNeg), .int (xs' (i + 2).toNatClampNeg)] hX Clo_m (fun _ _ _ _ _ => trivial) (fun Reg B => ctM_carrier rfl h2) lk_L_49_X12_carrier md_X12_carrier (fun Reg B => mc_0 rfl) cls_X12 (by rw [hR]; exact ⟨by decide, by decide⟩) (by rw [hR]; exact ⟨by show k + 1 ≤ 601024; omega, by show n + 6 ≤ 7293034; omega⟩) rfl rfl (Nat.le_of_ble_eq_true rfl) dL_law_434 ?_
    refine L_istore (lv' := [(6, .int r), (5, .int 1), (4, .int i), (3, .ref (qx.getD 97 0)), (2, .ref (qm.getD 0 0)), (1, .ref (qx.getD 0 0)), (0, .ref b)]) hX dL_law_437 (by decide) rfl ?_
    refine L_aload_n (q := 4) hX dL_law_439 rfl rfl ?_
    refine L_callP (lay := mLy) (qs := qm) (i := 0) (rest := []) [] hX Clo_m (fun _ _ _ _ _ => trivial) (fun Reg B => ctM_thrown rfl h3) lk_L_50_X12_thrown md_X12_thrown (fun Reg B => mc_0 rfl) cls_X12 (by rw [hR]; exact ⟨by decide, by decide⟩) (by rw [hR]; exact ⟨by show k + 1 ≤ 601024; omega, by show n + 6 ≤ 7293034; omega⟩) rfl rfl (Nat.le_of_ble_eq_true rfl) dL_law_440 ?_
    refine L_iload (q := 1) hX dL_law_443 rfl ?_
    refine L_icmp_eqT (tgt := 450) hX dL_law_445 rfl rfl ?_
    refine L_iload (q := 1) hX dL_law_450 rfl ?_
    refine L_if_neT (tgt := 467) hX dL_law_452 rfl (by decide) ?_
    refine L_goto (tgt := 1201) hX dL_law_467 rfl ?_
    refine L_lvsub [2, 3, 4, 5, 6] rfl ?_
    exact kk _ _ _ _ h4 (by omega) (by omega)
set_option maxRecDepth 100000 in
theorem law_5 {X : CX} {b L : Nat} {xs' : Nat → Int32} {qx qm : List Nat} {σx σm : St} {Inv : St → St → Prop} {i : Int32} {k n : Nat} (hl : lawX X b L xs') (hp : PO_paths Inv) (hi : Inv σx σm) (hin : lawin i L) (hk : k + 2 ≤ 601024 ∧ n + 2000 ≤ 7293034) (kk : ∀ (x m : St) (k' n' : Nat), Inv x m → k' ≤ k + 2 → n' ≤ n + 2000 → Lj X 7 1201 (lawlv b 0 qx qm i) [] (lws X qx qm x m) k' n') : Lj X 7 470 (lawlv b 0 qx qm i) [] (lws X qx qm σx σm) k n := by
  obtain ⟨hX, hR, hl0, hs⟩ := hl
  obtain ⟨r, x, m, h1, h2, h3⟩ := hp σx σm hi
  refine L_aload_n (q := 3) hX dL_law_470 rfl rfl ?_
  refine L_swap ?_
  refine L_callP (lay := xLyO) (qs := qx) (i := 0) (rest := []) [] hX (Clo_x _ _) (hSx_x hX) (fun Reg B => ctX_paths ⟨Or.inr rfl, rfl⟩ h1) lk_L_53_X11_paths md_X11_paths (fun Reg B => xc_0 ⟨Or.inr rfl, rfl⟩) cls_X11 (by rw [hR]; exact ⟨by decide, by decide⟩) (by rw [hR]; exact ⟨by show k ≤ 601024; omega, by show n ≤ 7293034; omega⟩) rfl rfl (Nat.le_of_ble_eq_true rfl) dL_law_471 ?_
  refine L_swap ?_
  refine L_aload_n (q := 2) hX dL_law_474 rfl rfl ?_
  refine L_callP (lay := mLy) (qs := qm) (i := 0) (rest := [.int r]) [] hX Clo_m (fun _ _ _ _ _ => trivial) (fun Reg B => ctM_paths rfl h2) lk_L_56_X12_paths md_X12_paths (fun Reg B => mc_0 rfl) cls_X12 (by rw [hR]; exact ⟨by decide, by decide⟩) (by rw [hR]; exact ⟨by show k ≤ 601024; omega, by show n ≤ 7293034; omega⟩) rfl rfl (Nat.le_of_ble_eq_true rfl) dL_law_475 ?_
  refine L_icmp_eqT (tgt := 1201) hX dL_law_478 rfl rfl ?_
  exact kk _ _ _ _ h3 (by omega) (by omega)
set_option maxRecDepth 100000 in
theorem law_6 {X : CX} {b L : Nat} {xs' : Nat → Int32} {qx qm : List Nat} {σx σm : St} {Inv : St → St → Prop} {i : Int32} {k n : Nat} (hl : lawX X b L xs') (hp : PO_path Inv) (hi : Inv σx σm) (hin : lawin i L) (hk : k + 2 ≤ 601024 ∧ n + 2000 ≤ 7293034) (kk : ∀ (x m : St) (k' n' : Nat), Inv x m → k' ≤ k + 2 → n' ≤ n + 2000 → Lj X 7 1201 (lawlv b 0 qx qm i) [] (lws X qx qm x m) k' n') : Lj X 7 483 (lawlv b 0 qx qm i) [] (lws X qx qm σx σm) k n := by
  obtain ⟨hX, hR, hl0, hs⟩ := hl
  obtain ⟨r, x, m, h1, h2, h3⟩ := hp σx σm hi (xs' (i + 1).toNatClampNeg) (xs' (i + 2).toNatClampNeg)
  refine L_aload_n (q := 3) hX dL_law_483 rfl rfl ?_
  refine L_aload_n (q := 4) hX dL_law_484 rfl rfl ?_
  refine L_iload (q := 0) hX dL_law_485 rfl ?_
  refine L_iconst (v := 1) hX dL_law_487 (by decide) ?_
  refine L_iadd hX dL_law_488 ?_
  refine L_sld hX hs hin.1 dL_law_489 ?_
  refine L_aload_n (q := 4) hX dL_law_490 rfl rfl ?_
  refine L_iload (q := 0) hX dL_law_491 rfl ?_
  refine L_iconst (v := 2) hX dL_law_493 (by decide) ?_
  refine L_iadd hX dL_law_494 ?_
  refine L_sld hX hs hin.2.1 dL_law_495 ?_
  refine L_swap ?_
  refine L_callP (lay := xLyO) (qs := qx) (i := 0) (rest := []) [.int (xs' (i + 1).toNatClampNeg), .int (xs' (i + 2).toNatClampNeg)] hX (Clo_x _ _) (hSx_x hX) (fun Reg B => ctX_path ⟨Or.inr rfl, rfl⟩ h1) lk_L_57_X11_path md_X11_path (fun Reg B => xc_0 ⟨Or.inr rfl, rfl⟩) cls_X11 (by rw [hR]; exact ⟨by decide, by decide⟩) (by rw [hR]; exact ⟨by show k ≤ 601024; omega, by show n ≤ 7293034; omega⟩) rfl rfl (Nat.le_of_ble_eq_true rfl) dL_law_496 ?_
  refine L_swap ?_
  refine L_aload_n (q := 2) hX dL_law_499 rfl rfl ?_
  refine L_aload_n (q := 4) hX dL_law_500 rfl rfl ?_
  refine L_iload (q := 0) hX dL_law_501 rfl ?_
  refine L_iconst (v := 1) hX dL_law_503 (by decide) ?_
  refine L_iadd hX dL_law_504 ?_
  refine L_sld hX hs hin.1 dL_law_505 ?_
  refine L_aload_n (q := 4) hX dL_law_506 rfl rfl ?_
  refine L_iload (q := 0) hX dL_law_507 rfl ?_
  refine L_iconst (v := 2) hX dL_law_509 (by decide) ?_
  refine L_iadd hX dL_law_510 ?_
  refine L_sld hX hs hin.2.1 dL_law_511 ?_
  refine L_callP (lay := mLy) (qs := qm) (i := 0) (rest := [.int r]) [.int (xs' (i + 1).toNatClampNeg), .int (xs' (i + 2).toNatClampNeg)] hX Clo_m (fun _ _ _ _ _ => trivial) (fun Reg B => ctM_path rfl h2) lk_L_60_X12_path md_X12_path (fun Reg B => mc_0 rfl) cls_X12 (by rw [hR]; exact ⟨by decide, by decide⟩) (by rw [hR]; exact ⟨by show k ≤ 601024; omega, by show n ≤ 7293034; omega⟩) rfl rfl (Nat.le_of_ble_eq_true rfl) dL_law_512 ?_
  refine L_icmp_eqT (tgt := 1201) hX dL_law_515 rfl rfl ?_
  exact kk _ _ _ _ h3 (by omega) (by omega)
set_option maxRecDepth 100000 in
theorem law_7 {X : CX} {b L : Nat} {xs' : Nat → Int32} {qx qm : List Nat} {σx σm : St} {Inv : St → St → Prop} {i : Int32} {k n : Nat} (hl : lawX X b L xs') (hp : PO_trip Inv) (hi : Inv σx σm) (hin : lawin i L) (hk : k + 2 ≤ 601024 ∧ n + 2000 ≤ 7293034) (kk : ∀ (x m : St) (k' n' : Nat), Inv x m → k' ≤ k + 2 → n' ≤ n + 2000 → Lj X 7 1201 (lawlv b 0 qx qm i) [] (lws X qx qm x m) k' n') : Lj X 7 520 (lawlv b 0 qx qm i) [] (lws X qx qm σx σm) k n := by
  obtain ⟨hX, hR, hl0, hs⟩ := hl
  obtain ⟨r, x, m, h1, h2, h3⟩ := hp σx σm hi (xs' (i + 1).toNatClampNeg) (xs' (i + 2).toNatClampNeg) (xs' (i + 3).toNatClampNeg) (xs' (i + 4).toNatClampNeg)
  refine L_aload_n (q := 3) hX dL_law_520 rfl rfl ?_
  refine L_aload_n (q := 4) hX dL_law_521 rfl rfl ?_
  refine L_iload (q := 0) hX dL_law_522 rfl ?_
  refine L_iconst (v := 1) hX dL_law_524 (by decide) ?_
  refine L_iadd hX dL_law_525 ?_
  refine L_sld hX hs hin.1 dL_law_526 ?_
  refine L_aload_n (q := 4) hX dL_law_527 rfl rfl ?_
  refine L_iload (q := 0) hX dL_law_528 rfl ?_
  refine L_iconst (v := 2) hX dL_law_530 (by decide) ?_
  refine L_iadd hX dL_law_531 ?_
  refine L_sld hX hs hin.2.1 dL_law_532 ?_
  refine L_aload_n (q := 4) hX dL_law_533 rfl rfl ?_
  refine L_iload (q := 0) hX dL_law_534 rfl ?_
  refine L_iconst (v := 3) hX dL_law_536 (by decide) ?_
  refine L_iadd hX dL_law_537 ?_
  refine L_sld hX hs hin.2.2.1 dL_law_538 ?_
  refine L_aload_n (q := 4) hX dL_law_539 rfl rfl ?_
  refine L_iload (q := 0) hX dL_law_540 rfl ?_
  refine L_iconst (v := 4) hX dL_law_542 (by decide) ?_
  refine L_iadd hX dL_law_543 ?_
  refine L_sld hX hs hin.2.2.2.1 dL_law_544 ?_
  refine L_swap ?_
  refine L_callP (lay := xLyO) (qs := qx) (i := 0) (rest := []) [.int (xs' (i + 1).toNatClampNeg), .int (xs' (i + 2).toNatClampNeg), .int (xs' (i + 3).toNatClampNeg), .int (xs' (i + 4).toNatClampNeg)] hX (Clo_x _ _) (hSx_x hX) (fun Reg B => ctX_trip ⟨Or.inr rfl, rfl⟩ h1) lk_L_61_X11_trip md_X11_trip (fun Reg B => xc_0 ⟨Or.inr rfl, rfl⟩) cls_X11 (by rw [hR]; exact ⟨by decide, by decide⟩) (by rw [hR]; exact ⟨by show k ≤ 601024; omega, by show n ≤ 7293034; omega⟩) rfl rfl (Nat.le_of_ble_eq_true rfl) dL_law_545 ?_
  refine L_swap ?_
  refine L_aload_n (q := 2) hX dL_law_548 rfl rfl ?_
  refine L_aload_n (q := 4) hX dL_law_549 rfl rfl ?_
  refine L_iload (q := 0) hX dL_law_550 rfl ?_
  refine L_iconst (v := 1) hX dL_law_552 (by decide) ?_
  refine L_iadd hX dL_law_553 ?_
  refine L_sld hX hs hin.1 dL_law_554 ?_
  refine L_aload_n (q := 4) hX dL_law_555 rfl rfl ?_
  refine L_iload (q := 0) hX dL_law_556 rfl ?_
  refine L_iconst (v := 2) hX dL_law_558 (by decide) ?_
  refine L_iadd hX dL_law_559 ?_
  refine L_sld hX hs hin.2.1 dL_law_560 ?_
  refine L_aload_n (q := 4) hX dL_law_561 rfl rfl ?_
  refine L_iload (q := 0) hX dL_law_562 rfl ?_
  refine L_iconst (v := 3) hX dL_law_564 (by decide) ?_
  refine L_iadd hX dL_law_565 ?_
  refine L_sld hX hs hin.2.2.1 dL_law_566 ?_
  refine L_aload_n (q := 4) hX dL_law_567 rfl rfl ?_
  refine L_iload (q := 0) hX dL_law_568 rfl ?_
  refine L_iconst (v := 4) hX dL_law_570 (by decide) ?_
  refine L_iadd hX dL_law_571 ?_
  refine L_sld hX hs hin.2.2.2.1 dL_law_572 ?_
  refine L_callP (lay := mLy) (qs := qm) (i := 0) (rest := [.int r]) [.int (xs' (i + 1).toNatClampNeg), .int (xs' (i + 2).toNatClampNeg), .int (xs' (i + 3).toNatClampNeg), .int (xs' (i + 4).toNatClampNeg)] hX Clo_m (fun _ _ _ _ _ => trivial) (fun Reg B => ctM_trip rfl h2) lk_L_65_X12_trip md_X12_trip (fun Reg B => mc_0 rfl) cls_X12 (by rw [hR]; exact ⟨by decide, by decide⟩) (by rw [hR]; exact ⟨by show k ≤ 601024; omega, by show n ≤ 7293034; omega⟩) rfl rfl (Nat.le_of_ble_eq_true rfl) dL_law_573 ?_
  refine L_icmp_eqT (tgt := 1201) hX dL_law_576 rfl rfl ?_
  exact kk _ _ _ _ h3 (by omega) (by omega)
set_option maxRecDepth 100000 in
theorem law_8 {X : CX} {b L : Nat} {xs' : Nat → Int32} {qx qm : List Nat} {σx σm : St} {Inv : St → St → Prop} {i : Int32} {k n : Nat} (hl : lawX X b L xs') (hp : PO_send Inv) (hi : Inv σx σm) (hin : lawin i L) (hk : k + 2 ≤ 601024 ∧ n + 2000 ≤ 7293034) (kk : ∀ (x m : St) (k' n' : Nat), Inv x m → k' ≤ k + 2 → n' ≤ n + 2000 → Lj X 7 1201 (lawlv b 0 qx qm i) [] (lws X qx qm x m) k' n') : Lj X 7 581 (lawlv b 0 qx qm i) [] (lws X qx qm σx σm) k n := by
  obtain ⟨hX, hR, hl0, hs⟩ := hl
  obtain ⟨r, x, m, h1, h2, h3⟩ := hp σx σm hi (xs' (i + 1).toNatClampNeg) (xs' (i + 2).toNatClampNeg) (xs' (i + 3).toNatClampNeg)
  refine L_aload_n (q := 3) hX dL_law_581 rfl rfl ?_
  refine L_aload_n (q := 4) hX dL_law_582 rfl rfl ?_
  refine L_iload (q := 0) hX dL_law_583 rfl ?_
  refine L_iconst (v := 1) hX dL_law_585 (by decide) ?_
  refine L_iadd hX dL_law_586 ?_
  refine L_sld hX hs hin.1 dL_law_587 ?_
  refine L_aload_n (q := 4) hX dL_law_588 rfl rfl ?_
  refine L_iload (q := 0) hX dL_law_589 rfl ?_
  refine L_iconst (v := 2) hX dL_law_591 (by decide) ?_
  refine L_iadd hX dL_law_592 ?_
  refine L_sld hX hs hin.2.1 dL_law_593 ?_
  refine L_aload_n (q := 4) hX dL_law_594 rfl rfl ?_
  refine L_iload (q := 0) hX dL_law_595 rfl ?_
  refine L_iconst (v := 3) hX dL_law_597 (by decide) ?_
  refine L_iadd hX dL_law_598 ?_
  refine L_sld hX hs hin.2.2.1 dL_law_599 ?_
  refine L_swap ?_
  refine L_callP (lay := xLyO) (qs := qx) (i := 0) (rest := []) [.int (xs' (i + 1).toNatClampNeg), .int (xs' (i + 2).toNatClampNeg), .int (xs' (i + 3).toNatClampNeg)] hX (Clo_x _ _) (hSx_x hX) (fun Reg B => ctX_send ⟨Or.inr rfl, rfl⟩ h1) lk_L_66_X11_send md_X11_send (fun Reg B => xc_0 ⟨Or.inr rfl, rfl⟩) cls_X11 (by rw [hR]; exact ⟨by decide, by decide⟩) (by rw [hR]; exact ⟨by show k ≤ 601024; omega, by show n ≤ 7293034; omega⟩) rfl rfl (Nat.le_of_ble_eq_true rfl) dL_law_600 ?_
  refine L_swap ?_
  refine L_aload_n (q := 2) hX dL_law_603 rfl rfl ?_
  refine L_aload_n (q := 4) hX dL_law_604 rfl rfl ?_
  refine L_iload (q := 0) hX dL_law_605 rfl ?_
  refine L_iconst (v := 1) hX dL_law_607 (by decide) ?_
  refine L_iadd hX dL_law_608 ?_
  refine L_sld hX hs hin.1 dL_law_609 ?_
  refine L_aload_n (q := 4) hX dL_law_610 rfl rfl ?_
  refine L_iload (q := 0) hX dL_law_611 rfl ?_
  refine L_iconst (v := 2) hX dL_law_613 (by decide) ?_
  refine L_iadd hX dL_law_614 ?_
  refine L_sld hX hs hin.2.1 dL_law_615 ?_
  refine L_aload_n (q := 4) hX dL_law_616 rfl rfl ?_
  refine L_iload (q := 0) hX dL_law_617 rfl ?_
  refine L_iconst (v := 3) hX dL_law_619 (by decide) ?_
  refine L_iadd hX dL_law_620 ?_
  refine L_sld hX hs hin.2.2.1 dL_law_621 ?_
  refine L_callP (lay := mLy) (qs := qm) (i := 0) (rest := [.int r]) [.int (xs' (i + 1).toNatClampNeg), .int (xs' (i + 2).toNatClampNeg), .int (xs' (i + 3).toNatClampNeg)] hX Clo_m (fun _ _ _ _ _ => trivial) (fun Reg B => ctM_send rfl h2) lk_L_69_X12_send md_X12_send (fun Reg B => mc_0 rfl) cls_X12 (by rw [hR]; exact ⟨by decide, by decide⟩) (by rw [hR]; exact ⟨by show k ≤ 601024; omega, by show n ≤ 7293034; omega⟩) rfl rfl (Nat.le_of_ble_eq_true rfl) dL_law_622 ?_
  refine L_icmp_eqT (tgt := 1201) hX dL_law_625 rfl rfl ?_
  exact kk _ _ _ _ h3 (by omega) (by omega)
set_option maxRecDepth 100000 in
theorem law_9 {X : CX} {b L : Nat} {xs' : Nat → Int32} {qx qm : List Nat} {σx σm : St} {Inv : St → St → Prop} {i : Int32} {k n : Nat} (hl : lawX X b L xs') (hp : PO_rest Inv) (hi : Inv σx σm) (hin : lawin i L) (hk : k + 2 ≤ 601024 ∧ n + 2000 ≤ 7293034) (kk : ∀ (x m : St) (k' n' : Nat), Inv x m → k' ≤ k + 2 → n' ≤ n + 2000 → Lj X 7 1201 (lawlv b 0 qx qm i) [] (lws X qx qm x m) k' n') : Lj X 7 630 (lawlv b 0 qx qm i) [] (lws X qx qm σx σm) k n := by
  obtain ⟨hX, hR, hl0, hs⟩ := hl
  obtain ⟨r, x, m, h1, h2, h3⟩ := hp σx σm hi
  refine L_aload_n (q := 3) hX dL_law_630 rfl rfl ?_
  refine L_swap ?_
  refine L_callP (lay := xLyO) (qs := qx) (i := 0) (rest := []) [] hX (Clo_x _ _) (hSx_x hX) (fun Reg B => ctX_rest ⟨Or.inr rfl, rfl⟩ h1) lk_L_70_X11_rest md_X11_rest (fun Reg B => xc_0 ⟨Or.inr rfl, rfl⟩) cls_X11 (by rw [hR]; exact ⟨by decide, by decide⟩) (by rw [hR]; exact ⟨by show k ≤ 601024; omega, by show n ≤ 7293034; omega⟩) rfl rfl (Nat.le_of_ble_eq_true rfl) dL_law_631 ?_
  refine L_swap ?_
  refine L_aload_n (q := 2) hX dL_law_634 rfl rfl ?_
  refine L_callP (lay := mLy) (qs := qm) (i := 0) (rest := [.int r]) [] hX Clo_m (fun _ _ _ _ _ => trivial) (fun Reg B => ctM_rest rfl h2) lk_L_73_X12_rest md_X12_rest (fun Reg B => mc_0 rfl) cls_X12 (by rw [hR]; exact ⟨by decide, by decide⟩) (by rw [hR]; exact ⟨by show k ≤ 601024; omega, by show n ≤ 7293034; omega⟩) rfl rfl (Nat.le_of_ble_eq_true rfl) dL_law_635 ?_
  refine L_icmp_eqT (tgt := 1201) hX dL_law_638 rfl rfl ?_
  exact kk _ _ _ _ h3 (by omega) (by omega)
set_option maxRecDepth 100000 in
theorem law_10 {X : CX} {b L : Nat} {xs' : Nat → Int32} {qx qm : List Nat} {σx σm : St} {Inv : St → St → Prop} {i : Int32} {k n : Nat} (hl : lawX X b L xs') (hp : PO_seed Inv) (hi : Inv σx σm) (hin : lawin i L) (hk : k + 2 ≤ 601024 ∧ n + 2000 ≤ 7293034) (kk : ∀ (x m : St) (k' n' : Nat), Inv x m → k' ≤ k + 2 → n' ≤ n + 2000 → Lj X 7 1201 (lawlv b 0 qx qm i) [] (lws X qx qm x m) k' n') : Lj X 7 643 (lawlv b 0 qx qm i) [] (lws X qx qm σx σm) k n := by
  obtain ⟨hX, hR, hl0, hs⟩ := hl
  obtain ⟨r, x, m, h1, h2, h3⟩ := hp σx σm hi (xs' (i + 1).toNatClampNeg)
  refine L_aload_n (q := 3) hX dL_law_643 rfl rfl ?_
  refine L_aload_n (q := 4) hX dL_law_644 rfl rfl ?_
  refine L_iload (q := 0) hX dL_law_645 rfl ?_
  refine L_iconst (v := 1) hX dL_law_647 (by decide) ?_
  refine L_iadd hX dL_law_648 ?_
  refine L_sld hX hs hin.1 dL_law_649 ?_
  refine L_swap ?_
  refine L_callP (lay := xLyO) (qs := qx) (i := 0) (rest := []) [.int (xs' (i + 1).toNatClampNeg)] hX (Clo_x _ _) (hSx_x hX) (fun Reg B => ctX_seed ⟨Or.inr rfl, rfl⟩ h1) lk_L_74_X11_seed md_X11_seed (fun Reg B => xc_0 ⟨Or.inr rfl, rfl⟩) cls_X11 (by rw [hR]; exact ⟨by decide, by decide⟩) (by rw [hR]; exact ⟨by show k ≤ 601024; omega, by show n ≤ 7293034; omega⟩) rfl rfl (Nat.le_of_ble_eq_true rfl) dL_law_650 ?_
  refine L_swap ?_
  refine L_aload_n (q := 2) hX dL_law_653 rfl rfl ?_
  refine L_aload_n (q := 4) hX dL_law_654 rfl rfl ?_
  refine L_iload (q := 0) hX dL_law_655 rfl ?_
  refine L_iconst (v := 1) hX dL_law_657 (by decide) ?_
  refine L_iadd hX dL_law_658 ?_
  refine L_sld hX hs hin.1 dL_law_659 ?_
  refine L_callP (lay := mLy) (qs := qm) (i := 0) (rest := [.int r]) [.int (xs' (i + 1).toNatClampNeg)] hX Clo_m (fun _ _ _ _ _ => trivial) (fun Reg B => ctM_seed rfl h2) lk_L_78_X12_seed md_X12_seed (fun Reg B => mc_0 rfl) cls_X12 (by rw [hR]; exact ⟨by decide, by decide⟩) (by rw [hR]; exact ⟨by show k ≤ 601024; omega, by show n ≤ 7293034; omega⟩) rfl rfl (Nat.le_of_ble_eq_true rfl) dL_law_660 ?_
  refine L_icmp_eqT (tgt := 1201) hX dL_law_663 rfl rfl ?_
  exact kk _ _ _ _ h3 (by omega) (by omega)
set_option maxRecDepth 100000 in
theorem law_11 {X : CX} {b L : Nat} {xs' : Nat → Int32} {qx qm : List Nat} {σx σm : St} {Inv : St → St → Prop} {i : Int32} {k n : Nat} (hl : lawX X b L xs') (hp : PO_drank Inv) (hi : Inv σx σm) (hin : lawin i L) (hk : k + 2 ≤ 601024 ∧ n + 2000 ≤ 7293034) (kk : ∀ (x m : St) (k' n' : Nat), Inv x m → k' ≤ k + 2 → n' ≤ n + 2000 → Lj X 7 1201 (lawlv b 0 qx qm i) [] (lws X qx qm x m) k' n') : Lj X 7 668 (lawlv b 0 qx qm i) [] (lws X qx qm σx σm) k n := by
  obtain ⟨hX, hR, hl0, hs⟩ := hl
  obtain ⟨r, x, m, h1, h2, h3⟩ := hp σx σm hi (xs' (i + 1).toNatClampNeg) (xs' (i + 2).toNatClampNeg)
  refine L_aload_n (q := 3) hX dL_law_668 rfl rfl ?_
  refine L_aload_n (q := 4) hX dL_law_669 rfl rfl ?_
  refine L_iload (q := 0) hX dL_law_670 rfl ?_
  refine L_iconst (v := 1) hX dL_law_672 (by decide) ?_
  refine L_iadd hX dL_law_673 ?_
  refine L_sld hX hs hin.1 dL_law_674 ?_
  refine L_aload_n (q := 4) hX dL_law_675 rfl rfl ?_
  refine L_iload (q := 0) hX dL_law_676 rfl ?_
  refine L_iconst (v := 2) hX dL_law_678 (by decide) ?_
  refine L_iadd hX dL_law_679 ?_
  refine L_sld hX hs hin.2.1 dL_law_680 ?_
  refine L_swap ?_
  refine L_callP (lay := xLyO) (qs := qx) (i := 0) (rest := []) [.int (xs' (i + 1).toNatClampNeg), .int (xs' (i + 2).toNatClampNeg)] hX (Clo_x _ _) (hSx_x hX) (fun Reg B => ctX_drank ⟨Or.inr rfl, rfl⟩ h1) lk_L_79_X11_drank md_X11_drank (fun Reg B => xc_0 ⟨Or.inr rfl, rfl⟩) cls_X11 (by rw [hR]; exact ⟨by decide, by decide⟩) (by rw [hR]; exact ⟨by show k ≤ 601024; omega, by show n ≤ 7293034; omega⟩) rfl rfl (Nat.le_of_ble_eq_true rfl) dL_law_681 ?_
  refine L_swap ?_
  refine L_aload_n (q := 2) hX dL_law_684 rfl rfl ?_
  refine L_aload_n (q := 4) hX dL_law_685 rfl rfl ?_
  refine L_iload (q := 0) hX dL_law_686 rfl ?_
  refine L_iconst (v := 1) hX dL_law_688 (by decide) ?_
  refine L_iadd hX dL_law_689 ?_
  refine L_sld hX hs hin.1 dL_law_690 ?_
  refine L_aload_n (q := 4) hX dL_law_691 rfl rfl ?_
  refine L_iload (q := 0) hX dL_law_692 rfl ?_
  refine L_iconst (v := 2) hX dL_law_694 (by decide) ?_
  refine L_iadd hX dL_law_695 ?_
  refine L_sld hX hs hin.2.1 dL_law_696 ?_
  refine L_callP (lay := mLy) (qs := qm) (i := 0) (rest := [.int r]) [.int (xs' (i + 1).toNatClampNeg), .int (xs' (i + 2).toNatClampNeg)] hX Clo_m (fun _ _ _ _ _ => trivial) (fun Reg B => ctM_drank rfl h2) lk_L_82_X12_drank md_X12_drank (fun Reg B => mc_0 rfl) cls_X12 (by rw [hR]; exact ⟨by decide, by decide⟩) (by rw [hR]; exact ⟨by show k ≤ 601024; omega, by show n ≤ 7293034; omega⟩) rfl rfl (Nat.le_of_ble_eq_true rfl) dL_law_697 ?_
  refine L_icmp_eqT (tgt := 1201) hX dL_law_700 rfl rfl ?_
  exact kk _ _ _ _ h3 (by omega) (by omega)
set_option maxRecDepth 100000 in
theorem law_12 {X : CX} {b L : Nat} {xs' : Nat → Int32} {qx qm : List Nat} {σx σm : St} {Inv : St → St → Prop} {i : Int32} {k n : Nat} (hl : lawX X b L xs') (hp : PO_best Inv) (hi : Inv σx σm) (hin : lawin i L) (hk : k + 2 ≤ 601024 ∧ n + 2000 ≤ 7293034) (kk : ∀ (x m : St) (k' n' : Nat), Inv x m → k' ≤ k + 2 → n' ≤ n + 2000 → Lj X 7 1201 (lawlv b 0 qx qm i) [] (lws X qx qm x m) k' n') : Lj X 7 705 (lawlv b 0 qx qm i) [] (lws X qx qm σx σm) k n := by
  obtain ⟨hX, hR, hl0, hs⟩ := hl
  obtain ⟨r, x, m, h1, h2, h3⟩ := hp σx σm hi (xs' (i + 1).toNatClampNeg) (xs' (i + 2).toNatClampNeg) (xs' (i + 3).toNatClampNeg)
  refine L_aload_n (q := 3) hX dL_law_705 rfl rfl ?_
  refine L_aload_n (q := 4) hX dL_law_706 rfl rfl ?_
  refine L_iload (q := 0) hX dL_law_707 rfl ?_
  refine L_iconst (v := 1) hX dL_law_709 (by decide) ?_
  refine L_iadd hX dL_law_710 ?_
  refine L_sld hX hs hin.1 dL_law_711 ?_
  refine L_aload_n (q := 4) hX dL_law_712 rfl rfl ?_
  refine L_iload (q := 0) hX dL_law_713 rfl ?_
  refine L_iconst (v := 2) hX dL_law_715 (by decide) ?_
  refine L_iadd hX dL_law_716 ?_
  refine L_sld hX hs hin.2.1 dL_law_717 ?_
  refine L_aload_n (q := 4) hX dL_law_718 rfl rfl ?_
  refine L_iload (q := 0) hX dL_law_719 rfl ?_
  refine L_iconst (v := 3) hX dL_law_721 (by decide) ?_
  refine L_iadd hX dL_law_722 ?_
  refine L_sld hX hs hin.2.2.1 dL_law_723 ?_
  refine L_swap ?_
  refine L_callP (lay := xLyO) (qs := qx) (i := 0) (rest := []) [.int (xs' (i + 1).toNatClampNeg), .int (xs' (i + 2).toNatClampNeg), .int (xs' (i + 3).toNatClampNeg)] hX (Clo_x _ _) (hSx_x hX) (fun Reg B => ctX_best ⟨Or.inr rfl, rfl⟩ h1) lk_L_83_X11_best md_X11_best (fun Reg B => xc_0 ⟨Or.inr rfl, rfl⟩) cls_X11 (by rw [hR]; exact ⟨by decide, by decide⟩) (by rw [hR]; exact ⟨by show k ≤ 601024; omega, by show n ≤ 7293034; omega⟩) rfl rfl (Nat.le_of_ble_eq_true rfl) dL_law_724 ?_
  refine L_swap ?_
  refine L_aload_n (q := 2) hX dL_law_727 rfl rfl ?_
  refine L_aload_n (q := 4) hX dL_law_728 rfl rfl ?_
  refine L_iload (q := 0) hX dL_law_729 rfl ?_
  refine L_iconst (v := 1) hX dL_law_731 (by decide) ?_
  refine L_iadd hX dL_law_732 ?_
  refine L_sld hX hs hin.1 dL_law_733 ?_
  refine L_aload_n (q := 4) hX dL_law_734 rfl rfl ?_
  refine L_iload (q := 0) hX dL_law_735 rfl ?_
  refine L_iconst (v := 2) hX dL_law_737 (by decide) ?_
  refine L_iadd hX dL_law_738 ?_
  refine L_sld hX hs hin.2.1 dL_law_739 ?_
  refine L_aload_n (q := 4) hX dL_law_740 rfl rfl ?_
  refine L_iload (q := 0) hX dL_law_741 rfl ?_
  refine L_iconst (v := 3) hX dL_law_743 (by decide) ?_
  refine L_iadd hX dL_law_744 ?_
  refine L_sld hX hs hin.2.2.1 dL_law_745 ?_
  refine L_callP (lay := mLy) (qs := qm) (i := 0) (rest := [.int r]) [.int (xs' (i + 1).toNatClampNeg), .int (xs' (i + 2).toNatClampNeg), .int (xs' (i + 3).toNatClampNeg)] hX Clo_m (fun _ _ _ _ _ => trivial) (fun Reg B => ctM_best rfl h2) lk_L_86_X12_best md_X12_best (fun Reg B => mc_0 rfl) cls_X12 (by rw [hR]; exact ⟨by decide, by decide⟩) (by rw [hR]; exact ⟨by show k ≤ 601024; omega, by show n ≤ 7293034; omega⟩) rfl rfl (Nat.le_of_ble_eq_true rfl) dL_law_746 ?_
  refine L_icmp_eqT (tgt := 1201) hX dL_law_749 rfl rfl ?_
  exact kk _ _ _ _ h3 (by omega) (by omega)
set_option maxRecDepth 100000 in
theorem law_13 {X : CX} {b L : Nat} {xs' : Nat → Int32} {qx qm : List Nat} {σx σm : St} {Inv : St → St → Prop} {i : Int32} {k n : Nat} (hl : lawX X b L xs') (hp : PO_plan Inv) (hi : Inv σx σm) (hin : lawin i L) (hk : k + 2 ≤ 601024 ∧ n + 2000 ≤ 7293034) (kk : ∀ (x m : St) (k' n' : Nat), Inv x m → k' ≤ k + 2 → n' ≤ n + 2000 → Lj X 7 1201 (lawlv b 0 qx qm i) [] (lws X qx qm x m) k' n') : Lj X 7 754 (lawlv b 0 qx qm i) [] (lws X qx qm σx σm) k n := by
  obtain ⟨hX, hR, hl0, hs⟩ := hl
  obtain ⟨r, x, m, h1, h2, h3⟩ := hp σx σm hi (xs' (i + 1).toNatClampNeg)
  refine L_aload_n (q := 3) hX dL_law_754 rfl rfl ?_
  refine L_aload_n (q := 4) hX dL_law_755 rfl rfl ?_
  refine L_iload (q := 0) hX dL_law_756 rfl ?_
  refine L_iconst (v := 1) hX dL_law_758 (by decide) ?_
  refine L_iadd hX dL_law_759 ?_
  refine L_sld hX hs hin.1 dL_law_760 ?_
  refine L_swap ?_
  refine L_callP (lay := xLyO) (qs := qx) (i := 0) (rest := []) [.int (xs' (i + 1).toNatClampNeg)] hX (Clo_x _ _) (hSx_x hX) (fun Reg B => ctX_plan ⟨Or.inr rfl, rfl⟩ h1) lk_L_87_X11_plan md_X11_plan (fun Reg B => xc_0 ⟨Or.inr rfl, rfl⟩) cls_X11 (by rw [hR]; exact ⟨by decide, by decide⟩) (by rw [hR]; exact ⟨by show k ≤ 601024; omega, by show n ≤ 7293034; omega⟩) rfl rfl (Nat.le_of_ble_eq_true rfl) dL_law_761 ?_
  refine L_swap ?_
  refine L_aload_n (q := 2) hX dL_law_764 rfl rfl ?_
  refine L_aload_n (q := 4) hX dL_law_765 rfl rfl ?_
  refine L_iload (q := 0) hX dL_law_766 rfl ?_
  refine L_iconst (v := 1) hX dL_law_768 (by decide) ?_
  refine L_iadd hX dL_law_769 ?_
  refine L_sld hX hs hin.1 dL_law_770 ?_
  refine L_callP (lay := mLy) (qs := qm) (i := 0) (rest := [.int r]) [.int (xs' (i + 1).toNatClampNeg)] hX Clo_m (fun _ _ _ _ _ => trivial) (fun Reg B => ctM_plan rfl h2) lk_L_90_X12_plan md_X12_plan (fun Reg B => mc_0 rfl) cls_X12 (by rw [hR]; exact ⟨by decide, by decide⟩) (by rw [hR]; exact ⟨by show k ≤ 601024; omega, by show n ≤ 7293034; omega⟩) rfl rfl (Nat.le_of_ble_eq_true rfl) dL_law_771 ?_
  refine L_icmp_eqT (tgt := 1201) hX dL_law_774 rfl rfl ?_
  exact kk _ _ _ _ h3 (by omega) (by omega)
set_option maxRecDepth 100000 in
theorem law_14 {X : CX} {b L : Nat} {xs' : Nat → Int32} {qx qm : List Nat} {σx σm : St} {Inv : St → St → Prop} {i : Int32} {k n : Nat} (hl : lawX X b L xs') (hp : PO_relay Inv) (hi : Inv σx σm) (hin : lawin i L) (hk : k + 2 ≤ 601024 ∧ n + 2000 ≤ 7293034) (kk : ∀ (x m : St) (k' n' : Nat), Inv x m → k' ≤ k + 2 → n' ≤ n + 2000 → Lj X 7 1201 (lawlv b 0 qx qm i) [] (lws X qx qm x m) k' n') : Lj X 7 779 (lawlv b 0 qx qm i) [] (lws X qx qm σx σm) k n := by
  obtain ⟨hX, hR, hl0, hs⟩ := hl
  obtain ⟨r, x, m, h1, h2, h3⟩ := hp σx σm hi (xs' (i + 1).toNatClampNeg) (xs' (i + 2).toNatClampNeg)
  refine L_aload_n (q := 3) hX dL_law_779 rfl rfl ?_
  refine L_aload_n (q := 4) hX dL_law_780 rfl rfl ?_
  refine L_iload (q := 0) hX dL_law_781 rfl ?_
  refine L_iconst (v := 1) hX dL_law_783 (by decide) ?_
  refine L_iadd hX dL_law_784 ?_
  refine L_sld hX hs hin.1 dL_law_785 ?_
  refine L_aload_n (q := 4) hX dL_law_786 rfl rfl ?_
  refine L_iload (q := 0) hX dL_law_787 rfl ?_
  refine L_iconst (v := 2) hX dL_law_789 (by decide) ?_
  refine L_iadd hX dL_law_790 ?_
  refine L_sld hX hs hin.2.1 dL_law_791 ?_
  refine L_swap ?_
  refine L_callP (lay := xLyO) (qs := qx) (i := 0) (rest := []) [.int (xs' (i + 1).toNatClampNeg), .int (xs' (i + 2).toNatClampNeg)] hX (Clo_x _ _) (hSx_x hX) (fun Reg B => ctX_relay ⟨Or.inr rfl, rfl⟩ h1) lk_L_91_X11_relay md_X11_relay (fun Reg B => xc_0 ⟨Or.inr rfl, rfl⟩) cls_X11 (by rw [hR]; exact ⟨by decide, by decide⟩) (by rw [hR]; exact ⟨by show k ≤ 601024; omega, by show n ≤ 7293034; omega⟩) rfl rfl (Nat.le_of_ble_eq_true rfl) dL_law_792 ?_
  refine L_swap ?_
  refine L_aload_n (q := 2) hX dL_law_795 rfl rfl ?_
  refine L_aload_n (q := 4) hX dL_law_796 rfl rfl ?_
  refine L_iload (q := 0) hX dL_law_797 rfl ?_
  refine L_iconst (v := 1) hX dL_law_799 (by decide) ?_
  refine L_iadd hX dL_law_800 ?_
  refine L_sld hX hs hin.1 dL_law_801 ?_
  refine L_aload_n (q := 4) hX dL_law_802 rfl rfl ?_
  refine L_iload (q := 0) hX dL_law_803 rfl ?_
  refine L_iconst (v := 2) hX dL_law_805 (by decide) ?_
  refine L_iadd hX dL_law_806 ?_
  refine L_sld hX hs hin.2.1 dL_law_807 ?_
  refine L_callP (lay := mLy) (qs := qm) (i := 0) (rest := [.int r]) [.int (xs' (i + 1).toNatClampNeg), .int (xs' (i + 2).toNatClampNeg)] hX Clo_m (fun _ _ _ _ _ => trivial) (fun Reg B => ctM_relay rfl h2) lk_L_94_X12_relay md_X12_relay (fun Reg B => mc_0 rfl) cls_X12 (by rw [hR]; exact ⟨by decide, by decide⟩) (by rw [hR]; exact ⟨by show k ≤ 601024; omega, by show n ≤ 7293034; omega⟩) rfl rfl (Nat.le_of_ble_eq_true rfl) dL_law_808 ?_
  refine L_icmp_eqT (tgt := 1201) hX dL_law_811 rfl rfl ?_
  exact kk _ _ _ _ h3 (by omega) (by omega)
set_option maxRecDepth 100000 in
theorem law_15 {X : CX} {b L : Nat} {xs' : Nat → Int32} {qx qm : List Nat} {σx σm : St} {Inv : St → St → Prop} {i : Int32} {k n : Nat} (hl : lawX X b L xs') (hp : PO_owe Inv) (hi : Inv σx σm) (hin : lawin i L) (hk : k + 2 ≤ 601024 ∧ n + 2000 ≤ 7293034) (kk : ∀ (x m : St) (k' n' : Nat), Inv x m → k' ≤ k + 2 → n' ≤ n + 2000 → Lj X 7 1201 (lawlv b 0 qx qm i) [] (lws X qx qm x m) k' n') : Lj X 7 816 (lawlv b 0 qx qm i) [] (lws X qx qm σx σm) k n := by
  obtain ⟨hX, hR, hl0, hs⟩ := hl
  obtain ⟨r, x, m, h1, h2, h3⟩ := hp σx σm hi (xs' (i + 1).toNatClampNeg) (xs' (i + 2).toNatClampNeg) (xs' (i + 3).toNatClampNeg)
  refine L_aload_n (q := 3) hX dL_law_816 rfl rfl ?_
  refine L_aload_n (q := 4) hX dL_law_817 rfl rfl ?_
  refine L_iload (q := 0) hX dL_law_818 rfl ?_
  refine L_iconst (v := 1) hX dL_law_820 (by decide) ?_
  refine L_iadd hX dL_law_821 ?_
  refine L_sld hX hs hin.1 dL_law_822 ?_
  refine L_aload_n (q := 4) hX dL_law_823 rfl rfl ?_
  refine L_iload (q := 0) hX dL_law_824 rfl ?_
  refine L_iconst (v := 2) hX dL_law_826 (by decide) ?_
  refine L_iadd hX dL_law_827 ?_
  refine L_sld hX hs hin.2.1 dL_law_828 ?_
  refine L_aload_n (q := 4) hX dL_law_829 rfl rfl ?_
  refine L_iload (q := 0) hX dL_law_830 rfl ?_
  refine L_iconst (v := 3) hX dL_law_832 (by decide) ?_
  refine L_iadd hX dL_law_833 ?_
  refine L_sld hX hs hin.2.2.1 dL_law_834 ?_
  refine L_swap ?_
  refine L_callP (lay := xLyO) (qs := qx) (i := 0) (rest := []) [.int (xs' (i + 1).toNatClampNeg), .int (xs' (i + 2).toNatClampNeg), .int (xs' (i + 3).toNatClampNeg)] hX (Clo_x _ _) (hSx_x hX) (fun Reg B => ctX_owe ⟨Or.inr rfl, rfl⟩ h1) lk_L_95_X11_owe md_X11_owe (fun Reg B => xc_0 ⟨Or.inr rfl, rfl⟩) cls_X11 (by rw [hR]; exact ⟨by decide, by decide⟩) (by rw [hR]; exact ⟨by show k ≤ 601024; omega, by show n ≤ 7293034; omega⟩) rfl rfl (Nat.le_of_ble_eq_true rfl) dL_law_835 ?_
  refine L_swap ?_
  refine L_aload_n (q := 2) hX dL_law_838 rfl rfl ?_
  refine L_aload_n (q := 4) hX dL_law_839 rfl rfl ?_
  refine L_iload (q := 0) hX dL_law_840 rfl ?_
  refine L_iconst (v := 1) hX dL_law_842 (by decide) ?_
  refine L_iadd hX dL_law_843 ?_
  refine L_sld hX hs hin.1 dL_law_844 ?_
  refine L_aload_n (q := 4) hX dL_law_845 rfl rfl ?_
  refine L_iload (q := 0) hX dL_law_846 rfl ?_
  refine L_iconst (v := 2) hX dL_law_848 (by decide) ?_
  refine L_iadd hX dL_law_849 ?_
  refine L_sld hX hs hin.2.1 dL_law_850 ?_
  refine L_aload_n (q := 4) hX dL_law_851 rfl rfl ?_
  refine L_iload (q := 0) hX dL_law_852 rfl ?_
  refine L_iconst (v := 3) hX dL_law_854 (by decide) ?_
  refine L_iadd hX dL_law_855 ?_
  refine L_sld hX hs hin.2.2.1 dL_law_856 ?_
  refine L_callP (lay := mLy) (qs := qm) (i := 0) (rest := [.int r]) [.int (xs' (i + 1).toNatClampNeg), .int (xs' (i + 2).toNatClampNeg), .int (xs' (i + 3).toNatClampNeg)] hX Clo_m (fun _ _ _ _ _ => trivial) (fun Reg B => ctM_owe rfl h2) lk_L_99_X12_owe md_X12_owe (fun Reg B => mc_0 rfl) cls_X12 (by rw [hR]; exact ⟨by decide, by decide⟩) (by rw [hR]; exact ⟨by show k ≤ 601024; omega, by show n ≤ 7293034; omega⟩) rfl rfl (Nat.le_of_ble_eq_true rfl) dL_law_857 ?_
  refine L_icmp_eqT (tgt := 1201) hX dL_law_860 rfl rfl ?_
  exact kk _ _ _ _ h3 (by omega) (by omega)
set_option maxRecDepth 100000 in
theorem law_16 {X : CX} {b L : Nat} {xs' : Nat → Int32} {qx qm : List Nat} {σx σm : St} {Inv : St → St → Prop} {i : Int32} {k n : Nat} (hl : lawX X b L xs') (hp : PO_owes Inv) (hi : Inv σx σm) (hin : lawin i L) (hk : k + 2 ≤ 601024 ∧ n + 2000 ≤ 7293034) (kk : ∀ (x m : St) (k' n' : Nat), Inv x m → k' ≤ k + 2 → n' ≤ n + 2000 → Lj X 7 1201 (lawlv b 0 qx qm i) [] (lws X qx qm x m) k' n') : Lj X 7 865 (lawlv b 0 qx qm i) [] (lws X qx qm σx σm) k n := by
  obtain ⟨hX, hR, hl0, hs⟩ := hl
  obtain ⟨r, x, m, h1, h2, h3⟩ := hp σx σm hi (xs' (i + 1).toNatClampNeg) (xs' (i + 2).toNatClampNeg)
  refine L_aload_n (q := 3) hX dL_law_865 rfl rfl ?_
  refine L_aload_n (q := 4) hX dL_law_866 rfl rfl ?_
  refine L_iload (q := 0) hX dL_law_867 rfl ?_
  refine L_iconst (v := 1) hX dL_law_869 (by decide) ?_
  refine L_iadd hX dL_law_870 ?_
  refine L_sld hX hs hin.1 dL_law_871 ?_
  refine L_aload_n (q := 4) hX dL_law_872 rfl rfl ?_
  refine L_iload (q := 0) hX dL_law_873 rfl ?_
  refine L_iconst (v := 2) hX dL_law_875 (by decide) ?_
  refine L_iadd hX dL_law_876 ?_
  refine L_sld hX hs hin.2.1 dL_law_877 ?_
  refine L_swap ?_
  refine L_callP (lay := xLyO) (qs := qx) (i := 0) (rest := []) [.int (xs' (i + 1).toNatClampNeg), .int (xs' (i + 2).toNatClampNeg)] hX (Clo_x _ _) (hSx_x hX) (fun Reg B => ctX_owes ⟨Or.inr rfl, rfl⟩ h1) lk_L_100_X11_owes md_X11_owes (fun Reg B => xc_0 ⟨Or.inr rfl, rfl⟩) cls_X11 (by rw [hR]; exact ⟨by decide, by decide⟩) (by rw [hR]; exact ⟨by show k ≤ 601024; omega, by show n ≤ 7293034; omega⟩) rfl rfl (Nat.le_of_ble_eq_true rfl) dL_law_878 ?_
  refine L_swap ?_
  refine L_aload_n (q := 2) hX dL_law_881 rfl rfl ?_
  refine L_aload_n (q := 4) hX dL_law_882 rfl rfl ?_
  refine L_iload (q := 0) hX dL_law_883 rfl ?_
  refine L_iconst (v := 1) hX dL_law_885 (by decide) ?_
  refine L_iadd hX dL_law_886 ?_
  refine L_sld hX hs hin.1 dL_law_887 ?_
  refine L_aload_n (q := 4) hX dL_law_888 rfl rfl ?_
  refine L_iload (q := 0) hX dL_law_889 rfl ?_
  refine L_iconst (v := 2) hX dL_law_891 (by decide) ?_
  refine L_iadd hX dL_law_892 ?_
  refine L_sld hX hs hin.2.1 dL_law_893 ?_
  refine L_callP (lay := mLy) (qs := qm) (i := 0) (rest := [.int r]) [.int (xs' (i + 1).toNatClampNeg), .int (xs' (i + 2).toNatClampNeg)] hX Clo_m (fun _ _ _ _ _ => trivial) (fun Reg B => ctM_owes rfl h2) lk_L_103_X12_owes md_X12_owes (fun Reg B => mc_0 rfl) cls_X12 (by rw [hR]; exact ⟨by decide, by decide⟩) (by rw [hR]; exact ⟨by show k ≤ 601024; omega, by show n ≤ 7293034; omega⟩) rfl rfl (Nat.le_of_ble_eq_true rfl) dL_law_894 ?_
  refine L_icmp_eqT (tgt := 1201) hX dL_law_897 rfl rfl ?_
  exact kk _ _ _ _ h3 (by omega) (by omega)
set_option maxRecDepth 100000 in
theorem law_17 {X : CX} {b L : Nat} {xs' : Nat → Int32} {qx qm : List Nat} {σx σm : St} {Inv : St → St → Prop} {i : Int32} {k n : Nat} (hl : lawX X b L xs') (hp : PO_debt Inv) (hi : Inv σx σm) (hin : lawin i L) (hk : k + 2 ≤ 601024 ∧ n + 2000 ≤ 7293034) (kk : ∀ (x m : St) (k' n' : Nat), Inv x m → k' ≤ k + 2 → n' ≤ n + 2000 → Lj X 7 1201 (lawlv b 0 qx qm i) [] (lws X qx qm x m) k' n') : Lj X 7 902 (lawlv b 0 qx qm i) [] (lws X qx qm σx σm) k n := by
  obtain ⟨hX, hR, hl0, hs⟩ := hl
  rcases hp σx σm hi (xs' (i + 1).toNatClampNeg) with ⟨r, x, m, m2, h1, h2, h3, h4⟩ | ⟨r, x, m, m2, h1, h2, h3, h4⟩
  · refine L_aload_n (q := 3) hX dL_law_902 rfl rfl ?_
    refine L_aload_n (q := 4) hX dL_law_903 rfl rfl ?_
    refine L_iload (q := 0) hX dL_law_904 rfl ?_
    refine L_iconst (v := 1) hX dL_law_906 (by decide) ?_
    refine L_iadd hX dL_law_907 ?_
    refine L_sld hX hs hin.1 dL_law_908 ?_
    refine L_aload_n (q := 1) hX dL_law_909 rfl rfl ?_
    refine L_swap ?_
    refine L_callSW (lay := xLyO) (qs := qx) (rest := []) [.ref (qx.getD 0 0), .int (xs' (i + 1).toNatClampNeg), .ref (qx.getD 97 0)] hX hl0 (Clo_x _ _) (hSx_x hX) (fun Reg B => ctL_debt_R ⟨Or.inr rfl, rfl⟩ rfl h1) lkw_L_debt md_L_debt (by rw [hR]; exact ⟨by decide, by decide⟩) (by rw [hR]; exact ⟨by show k + 1 ≤ 601024; omega, by show n + 6 ≤ 7293034; omega⟩) rfl rfl (Nat.le_of_ble_eq_true rfl) dL_law_910 ?_
    refine L_swap ?_
    refine L_istore (lv' := [(5, .int 0), (4, .int i), (3, .ref (qx.getD 97 0)), (2, .ref (qm.getD 0 0)), (1, .ref (qx.getD 0 0)), (0, .ref b)]) hX dL_law_913 (by decide) rfl ?_
    refine L_aload_n (q := 3) hX dL_law_915 rfl rfl ?_
    refine L_aload_n (q := 5) hX dL_law_916 rfl rfl ?_
    refine L_iload (q := 1) hX dL_law_917 rfl ?_
    refine L_iconst (v := 1) hX dL_law_919 (by decide) ?_
    refine L_iadd hX dL_law_920 ?_
    refine L_sld hX hs hin.1 dL_law_921 ?_
    refine L_callP (lay := mLy) (qs := qm) (i := 0) (rest := []) [.int (xs' (i + 1).toNatClampNeg)] hX Clo_m (fun _ _ _ _ _ => trivial) (fun Reg B => ctM_debt rfl h2) lk_L_107_X12_debt md_X12_debt (fun Reg B => mc_0 rfl) cls_X12 (by rw [hR]; exact ⟨by decide, by decide⟩) (by rw [hR]; exact ⟨by show k + 1 ≤ 601024; omega, by show n + 6 ≤ 7293034; omega⟩) rfl rfl (Nat.le_of_ble_eq_true rfl) dL_law_922 ?_
    refine L_istore (lv' := [(6, .int r), (5, .int 0), (4, .int i), (3, .ref (qx.getD 97 0)), (2, .ref (qm.getD 0 0)), (1, .ref (qx.getD 0 0)), (0, .ref b)]) hX dL_law_925 (by decide) rfl ?_
    refine L_aload_n (q := 4) hX dL_law_927 rfl rfl ?_
    refine L_callP (lay := mLy) (qs := qm) (i := 0) (rest := []) [] hX Clo_m (fun _ _ _ _ _ => trivial) (fun Reg B => ctM_thrown rfl h3) lk_L_50_X12_thrown md_X12_thrown (fun Reg B => mc_0 rfl) cls_X12 (by rw [hR]; exact ⟨by decide, by decide⟩) (by rw [hR]; exact ⟨by show k + 1 ≤ 601024; omega, by show n + 6 ≤ 7293034; omega⟩) rfl rfl (Nat.le_of_ble_eq_true rfl) dL_law_928 ?_
    refine L_iload (q := 1) hX dL_law_931 rfl ?_
    refine L_icmp_eqT (tgt := 938) hX dL_law_933 rfl rfl ?_
    refine L_iload (q := 1) hX dL_law_938 rfl ?_
    refine L_if_neF (tgt := 955) hX dL_law_940 rfl rfl ?_
    refine L_aload_n (q := 3) hX dL_law_943 rfl rfl ?_
    refine L_iconst (v := 0) hX dL_law_944 (by decide) ?_
    refine L_lald (i := 97) (f := (setJ x 97 0 r.toInt64).2.1 97) hX (outget _ _) (pk_in 0 1 (by decide) rfl) dL_law_945 ?_
    refine L_iload (q := 0) hX dL_law_946 rfl ?_
    refine L_i2l hX dL_law_948 ?_
    refine L_lcmp hX dL_law_949 ?_
    refine L_if_eqT (tgt := 955) hX dL_law_950 rfl (by rw [setJ_same]; show lg_cmp (vp_updL _ 0 r.toInt64 0) r.toInt64 = 0; simp [vp_updL, lg_cmp]) ?_
    refine L_goto (tgt := 1201) hX dL_law_955 rfl ?_
    refine L_lvsub [2, 3, 4, 5, 6] rfl ?_
    exact kk _ _ _ _ h4 (by omega) (by omega)
  · refine L_aload_n (q := 3) hX dL_law_902 rfl rfl ?_
    refine L_aload_n (q := 4) hX dL_law_903 rfl rfl ?_
    refine L_iload (q := 0) hX dL_law_904 rfl ?_
    refine L_iconst (v := 1) hX dL_law_906 (by decide) ?_
    refine L_iadd hX dL_law_907 ?_
    refine L_sld hX hs hin.1 dL_law_908 ?_
    refine L_aload_n (q := 1) hX dL_law_909 rfl rfl ?_
    refine L_swap ?_
    refine L_callSW (lay := xLyO) (qs := qx) (rest := []) [.ref (qx.getD 0 0), .int (xs' (i + 1).toNatClampNeg), .ref (qx.getD 97 0)] hX hl0 (Clo_x _ _) (hSx_x hX) (fun Reg B => ctL_debt_T ⟨Or.inr rfl, rfl⟩ rfl h1) lkw_L_debt md_L_debt (by rw [hR]; exact ⟨by decide, by decide⟩) (by rw [hR]; exact ⟨by show k + 1 ≤ 601024; omega, by show n + 6 ≤ 7293034; omega⟩) rfl rfl (Nat.le_of_ble_eq_true rfl) dL_law_910 ?_
    refine L_swap ?_
    refine L_istore (lv' := [(5, .int 1), (4, .int i), (3, .ref (qx.getD 97 0)), (2, .ref (qm.getD 0 0)), (1, .ref (qx.getD 0 0)), (0, .ref b)]) hX dL_law_913 (by decide) rfl ?_
    refine L_aload_n (q := 3) hX dL_law_915 rfl rfl ?_
    refine L_aload_n (q := 5) hX dL_law_916 rfl rfl ?_
    refine L_iload (q := 1) hX dL_law_917 rfl ?_
    refine L_iconst (v := 1) hX dL_law_919 (by decide) ?_
    refine L_iadd hX dL_law_920 ?_
    refine L_sld hX hs hin.1 dL_law_921 ?_
    refine L_callP (lay := mLy) (qs := qm) (i := 0) (rest := []) [.int (xs' (i + 1).toNatClampNeg)] hX Clo_m (fun _ _ _ _ _ => trivial) (fun Reg B => ctM_debt rfl h2) lk_L_107_X12_debt md_X12_debt (fun Reg B => mc_0 rfl) cls_X12 (by rw [hR]; exact ⟨by decide, by decide⟩) (by rw [hR]; exact ⟨by show k + 1 ≤ 601024; omega, by show n + 6 ≤ 7293034; omega⟩) rfl rfl (Nat.le_of_ble_eq_true rfl) dL_law_922 ?_
    refine L_istore (lv' := [(6, .int r), (5, .int 1), (4, .int i), (3, .ref (qx.getD 97 0)), (2, .ref (qm.getD 0 0)), (1, .ref (qx.getD 0 0)), (0, .ref b)]) hX dL_law_925 (by decide) rfl ?_
    refine L_aload_n (q := 4) hX dL_law_927 rfl rfl ?_
    refine L_callP (lay := mLy) (qs := qm) (i := 0) (rest := []) [] hX Clo_m (fun _ _ _ _ _ => trivial) (fun Reg B => ctM_thrown rfl h3) lk_L_50_X12_thrown md_X12_thrown (fun Reg B => mc_0 rfl) cls_X12 (by rw [hR]; exact ⟨by decide, by decide⟩) (by rw [hR]; exact ⟨by show k + 1 ≤ 601024; omega, by show n + 6 ≤ 7293034; omega⟩) rfl rfl (Nat.le_of_ble_eq_true rfl) dL_law_928 ?_
    refine L_iload (q := 1) hX dL_law_931 rfl ?_
    refine L_icmp_eqT (tgt := 938) hX dL_law_933 rfl rfl ?_
    refine L_iload (q := 1) hX dL_law_938 rfl ?_
    refine L_if_neT (tgt := 955) hX dL_law_940 rfl (by decide) ?_
    refine L_goto (tgt := 1201) hX dL_law_955 rfl ?_
    refine L_lvsub [2, 3, 4, 5, 6] rfl ?_
    exact kk _ _ _ _ h4 (by omega) (by omega)
set_option maxRecDepth 100000 in
theorem law_18 {X : CX} {b L : Nat} {xs' : Nat → Int32} {qx qm : List Nat} {σx σm : St} {Inv : St → St → Prop} {i : Int32} {k n : Nat} (hl : lawX X b L xs') (hp : PO_settled Inv) (hi : Inv σx σm) (hin : lawin i L) (hk : k + 2 ≤ 601024 ∧ n + 2000 ≤ 7293034) (kk : ∀ (x m : St) (k' n' : Nat), Inv x m → k' ≤ k + 2 → n' ≤ n + 2000 → Lj X 7 1201 (lawlv b 0 qx qm i) [] (lws X qx qm x m) k' n') : Lj X 7 958 (lawlv b 0 qx qm i) [] (lws X qx qm σx σm) k n := by
  obtain ⟨hX, hR, hl0, hs⟩ := hl
  obtain ⟨r, x, m, h1, h2, h3⟩ := hp σx σm hi
  refine L_aload_n (q := 3) hX dL_law_958 rfl rfl ?_
  refine L_swap ?_
  refine L_callP (lay := xLyO) (qs := qx) (i := 0) (rest := []) [] hX (Clo_x _ _) (hSx_x hX) (fun Reg B => ctX_settled ⟨Or.inr rfl, rfl⟩ h1) lk_L_108_X11_settled md_X11_settled (fun Reg B => xc_0 ⟨Or.inr rfl, rfl⟩) cls_X11 (by rw [hR]; exact ⟨by decide, by decide⟩) (by rw [hR]; exact ⟨by show k ≤ 601024; omega, by show n ≤ 7293034; omega⟩) rfl rfl (Nat.le_of_ble_eq_true rfl) dL_law_959 ?_
  refine L_swap ?_
  refine L_aload_n (q := 2) hX dL_law_962 rfl rfl ?_
  refine L_callP (lay := mLy) (qs := qm) (i := 0) (rest := [.int r]) [] hX Clo_m (fun _ _ _ _ _ => trivial) (fun Reg B => ctM_settled rfl h2) lk_L_111_X12_settled md_X12_settled (fun Reg B => mc_0 rfl) cls_X12 (by rw [hR]; exact ⟨by decide, by decide⟩) (by rw [hR]; exact ⟨by show k ≤ 601024; omega, by show n ≤ 7293034; omega⟩) rfl rfl (Nat.le_of_ble_eq_true rfl) dL_law_963 ?_
  refine L_icmp_eqT (tgt := 1201) hX dL_law_966 rfl rfl ?_
  exact kk _ _ _ _ h3 (by omega) (by omega)
set_option maxRecDepth 100000 in
theorem law_19 {X : CX} {b L : Nat} {xs' : Nat → Int32} {qx qm : List Nat} {σx σm : St} {Inv : St → St → Prop} {i : Int32} {k n : Nat} (hl : lawX X b L xs') (hp : PO_missed Inv) (hi : Inv σx σm) (hin : lawin i L) (hk : k + 2 ≤ 601024 ∧ n + 2000 ≤ 7293034) (kk : ∀ (x m : St) (k' n' : Nat), Inv x m → k' ≤ k + 2 → n' ≤ n + 2000 → Lj X 7 1201 (lawlv b 0 qx qm i) [] (lws X qx qm x m) k' n') : Lj X 7 971 (lawlv b 0 qx qm i) [] (lws X qx qm σx σm) k n := by
  obtain ⟨hX, hR, hl0, hs⟩ := hl
  obtain ⟨r, x, m, h1, h2, h3⟩ := hp σx σm hi (xs' (i + 1).toNatClampNeg) (xs' (i + 2).toNatClampNeg)
  refine L_aload_n (q := 3) hX dL_law_971 rfl rfl ?_
  refine L_aload_n (q := 4) hX dL_law_972 rfl rfl ?_
  refine L_iload (q := 0) hX dL_law_973 rfl ?_
  refine L_iconst (v := 1) hX dL_law_975 (by decide) ?_
  refine L_iadd hX dL_law_976 ?_
  refine L_sld hX hs hin.1 dL_law_977 ?_
  refine L_aload_n (q := 4) hX dL_law_978 rfl rfl ?_
  refine L_iload (q := 0) hX dL_law_979 rfl ?_
  refine L_iconst (v := 2) hX dL_law_981 (by decide) ?_
  refine L_iadd hX dL_law_982 ?_
  refine L_sld hX hs hin.2.1 dL_law_983 ?_
  refine L_swap ?_
  refine L_callP (lay := xLyO) (qs := qx) (i := 0) (rest := []) [.int (xs' (i + 1).toNatClampNeg), .int (xs' (i + 2).toNatClampNeg)] hX (Clo_x _ _) (hSx_x hX) (fun Reg B => ctX_missed ⟨Or.inr rfl, rfl⟩ h1) lk_L_112_X11_missed md_X11_missed (fun Reg B => xc_0 ⟨Or.inr rfl, rfl⟩) cls_X11 (by rw [hR]; exact ⟨by decide, by decide⟩) (by rw [hR]; exact ⟨by show k ≤ 601024; omega, by show n ≤ 7293034; omega⟩) rfl rfl (Nat.le_of_ble_eq_true rfl) dL_law_984 ?_
  refine L_swap ?_
  refine L_aload_n (q := 2) hX dL_law_987 rfl rfl ?_
  refine L_aload_n (q := 4) hX dL_law_988 rfl rfl ?_
  refine L_iload (q := 0) hX dL_law_989 rfl ?_
  refine L_iconst (v := 1) hX dL_law_991 (by decide) ?_
  refine L_iadd hX dL_law_992 ?_
  refine L_sld hX hs hin.1 dL_law_993 ?_
  refine L_aload_n (q := 4) hX dL_law_994 rfl rfl ?_
  refine L_iload (q := 0) hX dL_law_995 rfl ?_
  refine L_iconst (v := 2) hX dL_law_997 (by decide) ?_
  refine L_iadd hX dL_law_998 ?_
  refine L_sld hX hs hin.2.1 dL_law_999 ?_
  refine L_callP (lay := mLy) (qs := qm) (i := 0) (rest := [.int r]) [.int (xs' (i + 1).toNatClampNeg), .int (xs' (i + 2).toNatClampNeg)] hX Clo_m (fun _ _ _ _ _ => trivial) (fun Reg B => ctM_missed rfl h2) lk_L_115_X12_missed md_X12_missed (fun Reg B => mc_0 rfl) cls_X12 (by rw [hR]; exact ⟨by decide, by decide⟩) (by rw [hR]; exact ⟨by show k ≤ 601024; omega, by show n ≤ 7293034; omega⟩) rfl rfl (Nat.le_of_ble_eq_true rfl) dL_law_1000 ?_
  refine L_icmp_eqT (tgt := 1201) hX dL_law_1003 rfl rfl ?_
  exact kk _ _ _ _ h3 (by omega) (by omega)
set_option maxRecDepth 100000 in
theorem law_20 {X : CX} {b L : Nat} {xs' : Nat → Int32} {qx qm : List Nat} {σx σm : St} {Inv : St → St → Prop} {i : Int32} {k n : Nat} (hl : lawX X b L xs') (hp : PO_odds Inv) (hi : Inv σx σm) (hin : lawin i L) (hk : k + 2 ≤ 601024 ∧ n + 2000 ≤ 7293034) (kk : ∀ (x m : St) (k' n' : Nat), Inv x m → k' ≤ k + 2 → n' ≤ n + 2000 → Lj X 7 1201 (lawlv b 0 qx qm i) [] (lws X qx qm x m) k' n') : Lj X 7 1008 (lawlv b 0 qx qm i) [] (lws X qx qm σx σm) k n := by
  obtain ⟨hX, hR, hl0, hs⟩ := hl
  obtain ⟨r, x, m, h1, h2, h3⟩ := hp σx σm hi (xs' (i + 1).toNatClampNeg) (xs' (i + 2).toNatClampNeg) (xs' (i + 3).toNatClampNeg)
  refine L_aload_n (q := 3) hX dL_law_1008 rfl rfl ?_
  refine L_aload_n (q := 4) hX dL_law_1009 rfl rfl ?_
  refine L_iload (q := 0) hX dL_law_1010 rfl ?_
  refine L_iconst (v := 1) hX dL_law_1012 (by decide) ?_
  refine L_iadd hX dL_law_1013 ?_
  refine L_sld hX hs hin.1 dL_law_1014 ?_
  refine L_aload_n (q := 4) hX dL_law_1015 rfl rfl ?_
  refine L_iload (q := 0) hX dL_law_1016 rfl ?_
  refine L_iconst (v := 2) hX dL_law_1018 (by decide) ?_
  refine L_iadd hX dL_law_1019 ?_
  refine L_sld hX hs hin.2.1 dL_law_1020 ?_
  refine L_aload_n (q := 4) hX dL_law_1021 rfl rfl ?_
  refine L_iload (q := 0) hX dL_law_1022 rfl ?_
  refine L_iconst (v := 3) hX dL_law_1024 (by decide) ?_
  refine L_iadd hX dL_law_1025 ?_
  refine L_sld hX hs hin.2.2.1 dL_law_1026 ?_
  refine L_swap ?_
  refine L_callP (lay := xLyO) (qs := qx) (i := 0) (rest := []) [.int (xs' (i + 1).toNatClampNeg), .int (xs' (i + 2).toNatClampNeg), .int (xs' (i + 3).toNatClampNeg)] hX (Clo_x _ _) (hSx_x hX) (fun Reg B => ctX_odds ⟨Or.inr rfl, rfl⟩ h1) lk_L_116_X11_odds md_X11_odds (fun Reg B => xc_0 ⟨Or.inr rfl, rfl⟩) cls_X11 (by rw [hR]; exact ⟨by decide, by decide⟩) (by rw [hR]; exact ⟨by show k ≤ 601024; omega, by show n ≤ 7293034; omega⟩) rfl rfl (Nat.le_of_ble_eq_true rfl) dL_law_1027 ?_
  refine L_swap ?_
  refine L_aload_n (q := 2) hX dL_law_1030 rfl rfl ?_
  refine L_aload_n (q := 4) hX dL_law_1031 rfl rfl ?_
  refine L_iload (q := 0) hX dL_law_1032 rfl ?_
  refine L_iconst (v := 1) hX dL_law_1034 (by decide) ?_
  refine L_iadd hX dL_law_1035 ?_
  refine L_sld hX hs hin.1 dL_law_1036 ?_
  refine L_aload_n (q := 4) hX dL_law_1037 rfl rfl ?_
  refine L_iload (q := 0) hX dL_law_1038 rfl ?_
  refine L_iconst (v := 2) hX dL_law_1040 (by decide) ?_
  refine L_iadd hX dL_law_1041 ?_
  refine L_sld hX hs hin.2.1 dL_law_1042 ?_
  refine L_aload_n (q := 4) hX dL_law_1043 rfl rfl ?_
  refine L_iload (q := 0) hX dL_law_1044 rfl ?_
  refine L_iconst (v := 3) hX dL_law_1046 (by decide) ?_
  refine L_iadd hX dL_law_1047 ?_
  refine L_sld hX hs hin.2.2.1 dL_law_1048 ?_
  refine L_callP (lay := mLy) (qs := qm) (i := 0) (rest := [.int r]) [.int (xs' (i + 1).toNatClampNeg), .int (xs' (i + 2).toNatClampNeg), .int (xs' (i + 3).toNatClampNeg)] hX Clo_m (fun _ _ _ _ _ => trivial) (fun Reg B => ctM_odds rfl h2) lk_L_119_X12_odds md_X12_odds (fun Reg B => mc_0 rfl) cls_X12 (by rw [hR]; exact ⟨by decide, by decide⟩) (by rw [hR]; exact ⟨by show k ≤ 601024; omega, by show n ≤ 7293034; omega⟩) rfl rfl (Nat.le_of_ble_eq_true rfl) dL_law_1049 ?_
  refine L_icmp_eqT (tgt := 1201) hX dL_law_1052 rfl rfl ?_
  exact kk _ _ _ _ h3 (by omega) (by omega)
set_option maxRecDepth 100000 in
theorem law_21 {X : CX} {b L : Nat} {xs' : Nat → Int32} {qx qm : List Nat} {σx σm : St} {Inv : St → St → Prop} {i : Int32} {k n : Nat} (hl : lawX X b L xs') (hp : PO_patch Inv) (hi : Inv σx σm) (hin : lawin i L) (hk : k + 2 ≤ 601024 ∧ n + 2000 ≤ 7293034) (kk : ∀ (x m : St) (k' n' : Nat), Inv x m → k' ≤ k + 2 → n' ≤ n + 2000 → Lj X 7 1201 (lawlv b 0 qx qm i) [] (lws X qx qm x m) k' n') : Lj X 7 1057 (lawlv b 0 qx qm i) [] (lws X qx qm σx σm) k n := by
  obtain ⟨hX, hR, hl0, hs⟩ := hl
  by_cases hz : xs' (i + 2).toNatClampNeg = 0
  · obtain ⟨r, x, m, h1, h2, h3⟩ := hp σx σm hi (xs' (i + 1).toNatClampNeg) 0 (by decide)
    refine L_aload_n (q := 3) hX dL_law_1057 rfl rfl ?_
    refine L_aload_n (q := 4) hX dL_law_1058 rfl rfl ?_
    refine L_iload (q := 0) hX dL_law_1059 rfl ?_
    refine L_iconst (v := 1) hX dL_law_1061 (by decide) ?_
    refine L_iadd hX dL_law_1062 ?_
    refine L_sld hX hs hin.1 dL_law_1063 ?_
    refine L_aload_n (q := 4) hX dL_law_1064 rfl rfl ?_
    refine L_iload (q := 0) hX dL_law_1065 rfl ?_
    refine L_iconst (v := 2) hX dL_law_1067 (by decide) ?_
    refine L_iadd hX dL_law_1068 ?_
    refine L_sld hX hs hin.2.1 dL_law_1069 ?_
    refine L_if_eqT (tgt := 1077) hX dL_law_1070 rfl hz ?_
    refine L_iconst (v := 0) hX dL_law_1077 (by decide) ?_
    refine L_swap ?_
    refine L_callP (lay := xLyO) (qs := qx) (i := 0) (rest := []) [.int (xs' (i + 1).toNatClampNeg), .int 0] hX (Clo_x _ _) (hSx_x hX) (fun Reg B => ctX_patch ⟨Or.inr rfl, rfl⟩ h1) lk_L_120_X11_patch md_X11_patch (fun Reg B => xc_0 ⟨Or.inr rfl, rfl⟩) cls_X11 (by rw [hR]; exact ⟨by decide, by decide⟩) (by rw [hR]; exact ⟨by show k ≤ 601024; omega, by show n ≤ 7293034; omega⟩) rfl rfl (Nat.le_of_ble_eq_true rfl) dL_law_1078 ?_
    refine L_swap ?_
    refine L_aload_n (q := 2) hX dL_law_1081 rfl rfl ?_
    refine L_aload_n (q := 4) hX dL_law_1082 rfl rfl ?_
    refine L_iload (q := 0) hX dL_law_1083 rfl ?_
    refine L_iconst (v := 1) hX dL_law_1085 (by decide) ?_
    refine L_iadd hX dL_law_1086 ?_
    refine L_sld hX hs hin.1 dL_law_1087 ?_
    refine L_aload_n (q := 4) hX dL_law_1088 rfl rfl ?_
    refine L_iload (q := 0) hX dL_law_1089 rfl ?_
    refine L_iconst (v := 2) hX dL_law_1091 (by decide) ?_
    refine L_iadd hX dL_law_1092 ?_
    refine L_sld hX hs hin.2.1 dL_law_1093 ?_
    refine L_if_eqT (tgt := 1101) hX dL_law_1094 rfl hz ?_
    refine L_iconst (v := 0) hX dL_law_1101 (by decide) ?_
    refine L_callP (lay := mLy) (qs := qm) (i := 0) (rest := [.int r]) [.int (xs' (i + 1).toNatClampNeg), .int 0] hX Clo_m (fun _ _ _ _ _ => trivial) (fun Reg B => ctM_patch rfl h2) lk_L_124_X12_patch md_X12_patch (fun Reg B => mc_0 rfl) cls_X12 (by rw [hR]; exact ⟨by decide, by decide⟩) (by rw [hR]; exact ⟨by show k ≤ 601024; omega, by show n ≤ 7293034; omega⟩) rfl rfl (Nat.le_of_ble_eq_true rfl) dL_law_1102 ?_
    refine L_icmp_eqT (tgt := 1201) hX dL_law_1105 rfl rfl ?_
    exact kk _ _ _ _ h3 (by omega) (by omega)
  · obtain ⟨r, x, m, h1, h2, h3⟩ := hp σx σm hi (xs' (i + 1).toNatClampNeg) 1 (by decide)
    refine L_aload_n (q := 3) hX dL_law_1057 rfl rfl ?_
    refine L_aload_n (q := 4) hX dL_law_1058 rfl rfl ?_
    refine L_iload (q := 0) hX dL_law_1059 rfl ?_
    refine L_iconst (v := 1) hX dL_law_1061 (by decide) ?_
    refine L_iadd hX dL_law_1062 ?_
    refine L_sld hX hs hin.1 dL_law_1063 ?_
    refine L_aload_n (q := 4) hX dL_law_1064 rfl rfl ?_
    refine L_iload (q := 0) hX dL_law_1065 rfl ?_
    refine L_iconst (v := 2) hX dL_law_1067 (by decide) ?_
    refine L_iadd hX dL_law_1068 ?_
    refine L_sld hX hs hin.2.1 dL_law_1069 ?_
    refine L_if_eqF (tgt := 1077) hX dL_law_1070 rfl hz ?_
    refine L_iconst (v := 1) hX dL_law_1073 (by decide) ?_
    refine L_goto (tgt := 1078) hX dL_law_1074 rfl ?_
    refine L_swap ?_
    refine L_callP (lay := xLyO) (qs := qx) (i := 0) (rest := []) [.int (xs' (i + 1).toNatClampNeg), .int 1] hX (Clo_x _ _) (hSx_x hX) (fun Reg B => ctX_patch ⟨Or.inr rfl, rfl⟩ h1) lk_L_120_X11_patch md_X11_patch (fun Reg B => xc_0 ⟨Or.inr rfl, rfl⟩) cls_X11 (by rw [hR]; exact ⟨by decide, by decide⟩) (by rw [hR]; exact ⟨by show k ≤ 601024; omega, by show n ≤ 7293034; omega⟩) rfl rfl (Nat.le_of_ble_eq_true rfl) dL_law_1078 ?_
    refine L_swap ?_
    refine L_aload_n (q := 2) hX dL_law_1081 rfl rfl ?_
    refine L_aload_n (q := 4) hX dL_law_1082 rfl rfl ?_
    refine L_iload (q := 0) hX dL_law_1083 rfl ?_
    refine L_iconst (v := 1) hX dL_law_1085 (by decide) ?_
    refine L_iadd hX dL_law_1086 ?_
    refine L_sld hX hs hin.1 dL_law_1087 ?_
    refine L_aload_n (q := 4) hX dL_law_1088 rfl rfl ?_
    refine L_iload (q := 0) hX dL_law_1089 rfl ?_
    refine L_iconst (v := 2) hX dL_law_1091 (by decide) ?_
    refine L_iadd hX dL_law_1092 ?_
    refine L_sld hX hs hin.2.1 dL_law_1093 ?_
    refine L_if_eqF (tgt := 1101) hX dL_law_1094 rfl hz ?_
    refine L_iconst (v := 1) hX dL_law_1097 (by decide) ?_
    refine L_goto (tgt := 1102) hX dL_law_1098 rfl ?_
    refine L_callP (lay := mLy) (qs := qm) (i := 0) (rest := [.int r]) [.int (xs' (i + 1).toNatClampNeg), .int 1] hX Clo_m (fun _ _ _ _ _ => trivial) (fun Reg B => ctM_patch rfl h2) lk_L_124_X12_patch md_X12_patch (fun Reg B => mc_0 rfl) cls_X12 (by rw [hR]; exact ⟨by decide, by decide⟩) (by rw [hR]; exact ⟨by show k ≤ 601024; omega, by show n ≤ 7293034; omega⟩) rfl rfl (Nat.le_of_ble_eq_true rfl) dL_law_1102 ?_
    refine L_icmp_eqT (tgt := 1201) hX dL_law_1105 rfl rfl ?_
    exact kk _ _ _ _ h3 (by omega) (by omega)
set_option maxRecDepth 100000 in
theorem law_22 {X : CX} {b L : Nat} {xs' : Nat → Int32} {qx qm : List Nat} {σx σm : St} {Inv : St → St → Prop} {i : Int32} {k n : Nat} (hl : lawX X b L xs') (hp : PO_undo Inv) (hi : Inv σx σm) (hin : lawin i L) (hk : k + 2 ≤ 601024 ∧ n + 2000 ≤ 7293034) (kk : ∀ (x m : St) (k' n' : Nat), Inv x m → k' ≤ k + 2 → n' ≤ n + 2000 → Lj X 7 1201 (lawlv b 0 qx qm i) [] (lws X qx qm x m) k' n') : Lj X 7 1110 (lawlv b 0 qx qm i) [] (lws X qx qm σx σm) k n := by
  obtain ⟨hX, hR, hl0, hs⟩ := hl
  obtain ⟨r, x, m, h1, h2, h3⟩ := hp σx σm hi
  refine L_aload_n (q := 3) hX dL_law_1110 rfl rfl ?_
  refine L_swap ?_
  refine L_callP (lay := xLyO) (qs := qx) (i := 0) (rest := []) [] hX (Clo_x _ _) (hSx_x hX) (fun Reg B => ctX_undo ⟨Or.inr rfl, rfl⟩ h1) lk_L_125_X11_undo md_X11_undo (fun Reg B => xc_0 ⟨Or.inr rfl, rfl⟩) cls_X11 (by rw [hR]; exact ⟨by decide, by decide⟩) (by rw [hR]; exact ⟨by show k ≤ 601024; omega, by show n ≤ 7293034; omega⟩) rfl rfl (Nat.le_of_ble_eq_true rfl) dL_law_1111 ?_
  refine L_swap ?_
  refine L_aload_n (q := 2) hX dL_law_1114 rfl rfl ?_
  refine L_callP (lay := mLy) (qs := qm) (i := 0) (rest := [.int r]) [] hX Clo_m (fun _ _ _ _ _ => trivial) (fun Reg B => ctM_undo rfl h2) lk_L_129_X12_undo md_X12_undo (fun Reg B => mc_0 rfl) cls_X12 (by rw [hR]; exact ⟨by decide, by decide⟩) (by rw [hR]; exact ⟨by show k ≤ 601024; omega, by show n ≤ 7293034; omega⟩) rfl rfl (Nat.le_of_ble_eq_true rfl) dL_law_1115 ?_
  refine L_icmp_eqT (tgt := 1201) hX dL_law_1118 rfl rfl ?_
  exact kk _ _ _ _ h3 (by omega) (by omega)
set_option maxRecDepth 100000 in
theorem law_23 {X : CX} {b L : Nat} {xs' : Nat → Int32} {qx qm : List Nat} {σx σm : St} {Inv : St → St → Prop} {i : Int32} {k n : Nat} (hl : lawX X b L xs') (hp : PO_mark Inv) (hi : Inv σx σm) (hin : lawin i L) (hk : k + 2 ≤ 601024 ∧ n + 2000 ≤ 7293034) (kk : ∀ (x m : St) (k' n' : Nat), Inv x m → k' ≤ k + 2 → n' ≤ n + 2000 → Lj X 7 1201 (lawlv b 0 qx qm i) [] (lws X qx qm x m) k' n') : Lj X 7 1123 (lawlv b 0 qx qm i) [] (lws X qx qm σx σm) k n := by
  obtain ⟨hX, hR, hl0, hs⟩ := hl
  by_cases hz : xs' (i + 2).toNatClampNeg = 0
  · obtain ⟨r, x, m, h1, h2, h3⟩ := hp σx σm hi (xs' (i + 1).toNatClampNeg) 0 (by decide)
    refine L_aload_n (q := 3) hX dL_law_1123 rfl rfl ?_
    refine L_aload_n (q := 4) hX dL_law_1124 rfl rfl ?_
    refine L_iload (q := 0) hX dL_law_1125 rfl ?_
    refine L_iconst (v := 1) hX dL_law_1127 (by decide) ?_
    refine L_iadd hX dL_law_1128 ?_
    refine L_sld hX hs hin.1 dL_law_1129 ?_
    refine L_aload_n (q := 4) hX dL_law_1130 rfl rfl ?_
    refine L_iload (q := 0) hX dL_law_1131 rfl ?_
    refine L_iconst (v := 2) hX dL_law_1133 (by decide) ?_
    refine L_iadd hX dL_law_1134 ?_
    refine L_sld hX hs hin.2.1 dL_law_1135 ?_
    refine L_if_eqT (tgt := 1143) hX dL_law_1136 rfl hz ?_
    refine L_iconst (v := 0) hX dL_law_1143 (by decide) ?_
    refine L_swap ?_
    refine L_callP (lay := xLyO) (qs := qx) (i := 0) (rest := []) [.int (xs' (i + 1).toNatClampNeg), .int 0] hX (Clo_x _ _) (hSx_x hX) (fun Reg B => ctX_mark ⟨Or.inr rfl, rfl⟩ h1) lk_L_130_X11_mark md_X11_mark (fun Reg B => xc_0 ⟨Or.inr rfl, rfl⟩) cls_X11 (by rw [hR]; exact ⟨by decide, by decide⟩) (by rw [hR]; exact ⟨by show k ≤ 601024; omega, by show n ≤ 7293034; omega⟩) rfl rfl (Nat.le_of_ble_eq_true rfl) dL_law_1144 ?_
    refine L_swap ?_
    refine L_aload_n (q := 2) hX dL_law_1147 rfl rfl ?_
    refine L_aload_n (q := 4) hX dL_law_1148 rfl rfl ?_
    refine L_iload (q := 0) hX dL_law_1149 rfl ?_
    refine L_iconst (v := 1) hX dL_law_1151 (by decide) ?_
    refine L_iadd hX dL_law_1152 ?_
    refine L_sld hX hs hin.1 dL_law_1153 ?_
    refine L_aload_n (q := 4) hX dL_law_1154 rfl rfl ?_
    refine L_iload (q := 0) hX dL_law_1155 rfl ?_
    refine L_iconst (v := 2) hX dL_law_1157 (by decide) ?_
    refine L_iadd hX dL_law_1158 ?_
    refine L_sld hX hs hin.2.1 dL_law_1159 ?_
    refine L_if_eqT (tgt := 1167) hX dL_law_1160 rfl hz ?_
    refine L_iconst (v := 0) hX dL_law_1167 (by decide) ?_
    refine L_callP (lay := mLy) (qs := qm) (i := 0) (rest := [.int r]) [.int (xs' (i + 1).toNatClampNeg), .int 0] hX Clo_m (fun _ _ _ _ _ => trivial) (fun Reg B => ctM_mark rfl h2) lk_L_133_X12_mark md_X12_mark (fun Reg B => mc_0 rfl) cls_X12 (by rw [hR]; exact ⟨by decide, by decide⟩) (by rw [hR]; exact ⟨by show k ≤ 601024; omega, by show n ≤ 7293034; omega⟩) rfl rfl (Nat.le_of_ble_eq_true rfl) dL_law_1168 ?_
    refine L_icmp_eqT (tgt := 1201) hX dL_law_1171 rfl rfl ?_
    exact kk _ _ _ _ h3 (by omega) (by omega)
  · obtain ⟨r, x, m, h1, h2, h3⟩ := hp σx σm hi (xs' (i + 1).toNatClampNeg) 1 (by decide)
    refine L_aload_n (q := 3) hX dL_law_1123 rfl rfl ?_
    refine L_aload_n (q := 4) hX dL_law_1124 rfl rfl ?_
    refine L_iload (q := 0) hX dL_law_1125 rfl ?_
    refine L_iconst (v := 1) hX dL_law_1127 (by decide) ?_
    refine L_iadd hX dL_law_1128 ?_
    refine L_sld hX hs hin.1 dL_law_1129 ?_
    refine L_aload_n (q := 4) hX dL_law_1130 rfl rfl ?_
    refine L_iload (q := 0) hX dL_law_1131 rfl ?_
    refine L_iconst (v := 2) hX dL_law_1133 (by decide) ?_
    refine L_iadd hX dL_law_1134 ?_
    refine L_sld hX hs hin.2.1 dL_law_1135 ?_
    refine L_if_eqF (tgt := 1143) hX dL_law_1136 rfl hz ?_
    refine L_iconst (v := 1) hX dL_law_1139 (by decide) ?_
    refine L_goto (tgt := 1144) hX dL_law_1140 rfl ?_
    refine L_swap ?_
    refine L_callP (lay := xLyO) (qs := qx) (i := 0) (rest := []) [.int (xs' (i + 1).toNatClampNeg), .int 1] hX (Clo_x _ _) (hSx_x hX) (fun Reg B => ctX_mark ⟨Or.inr rfl, rfl⟩ h1) lk_L_130_X11_mark md_X11_mark (fun Reg B => xc_0 ⟨Or.inr rfl, rfl⟩) cls_X11 (by rw [hR]; exact ⟨by decide, by decide⟩) (by rw [hR]; exact ⟨by show k ≤ 601024; omega, by show n ≤ 7293034; omega⟩) rfl rfl (Nat.le_of_ble_eq_true rfl) dL_law_1144 ?_
    refine L_swap ?_
    refine L_aload_n (q := 2) hX dL_law_1147 rfl rfl ?_
    refine L_aload_n (q := 4) hX dL_law_1148 rfl rfl ?_
    refine L_iload (q := 0) hX dL_law_1149 rfl ?_
    refine L_iconst (v := 1) hX dL_law_1151 (by decide) ?_
    refine L_iadd hX dL_law_1152 ?_
    refine L_sld hX hs hin.1 dL_law_1153 ?_
    refine L_aload_n (q := 4) hX dL_law_1154 rfl rfl ?_
    refine L_iload (q := 0) hX dL_law_1155 rfl ?_
    refine L_iconst (v := 2) hX dL_law_1157 (by decide) ?_
    refine L_iadd hX dL_law_1158 ?_
    refine L_sld hX hs hin.2.1 dL_law_1159 ?_
    refine L_if_eqF (tgt := 1167) hX dL_law_1160 rfl hz ?_
    refine L_iconst (v := 1) hX dL_law_1163 (by decide) ?_
    refine L_goto (tgt := 1168) hX dL_law_1164 rfl ?_
    refine L_callP (lay := mLy) (qs := qm) (i := 0) (rest := [.int r]) [.int (xs' (i + 1).toNatClampNeg), .int 1] hX Clo_m (fun _ _ _ _ _ => trivial) (fun Reg B => ctM_mark rfl h2) lk_L_133_X12_mark md_X12_mark (fun Reg B => mc_0 rfl) cls_X12 (by rw [hR]; exact ⟨by decide, by decide⟩) (by rw [hR]; exact ⟨by show k ≤ 601024; omega, by show n ≤ 7293034; omega⟩) rfl rfl (Nat.le_of_ble_eq_true rfl) dL_law_1168 ?_
    refine L_icmp_eqT (tgt := 1201) hX dL_law_1171 rfl rfl ?_
    exact kk _ _ _ _ h3 (by omega) (by omega)
set_option maxRecDepth 100000 in
theorem law_24 {X : CX} {b L : Nat} {xs' : Nat → Int32} {qx qm : List Nat} {σx σm : St} {Inv : St → St → Prop} {i : Int32} {k n : Nat} (hl : lawX X b L xs') (hp : PO_count Inv) (hi : Inv σx σm) (hin : lawin i L) (hk : k + 2 ≤ 601024 ∧ n + 2000 ≤ 7293034) (kk : ∀ (x m : St) (k' n' : Nat), Inv x m → k' ≤ k + 2 → n' ≤ n + 2000 → Lj X 7 1201 (lawlv b 0 qx qm i) [] (lws X qx qm x m) k' n') : Lj X 7 1176 (lawlv b 0 qx qm i) [] (lws X qx qm σx σm) k n := by
  obtain ⟨hX, hR, hl0, hs⟩ := hl
  obtain ⟨r, x, m, h1, h2, h3⟩ := hp σx σm hi (xs' (i + 1).toNatClampNeg)
  refine L_aload_n (q := 3) hX dL_law_1176 rfl rfl ?_
  refine L_aload_n (q := 4) hX dL_law_1177 rfl rfl ?_
  refine L_iload (q := 0) hX dL_law_1178 rfl ?_
  refine L_iconst (v := 1) hX dL_law_1180 (by decide) ?_
  refine L_iadd hX dL_law_1181 ?_
  refine L_sld hX hs hin.1 dL_law_1182 ?_
  refine L_swap ?_
  refine L_callP (lay := xLyO) (qs := qx) (i := 0) (rest := []) [.int (xs' (i + 1).toNatClampNeg)] hX (Clo_x _ _) (hSx_x hX) (fun Reg B => ctX_count ⟨Or.inr rfl, rfl⟩ h1) lk_L_134_X11_count md_X11_count (fun Reg B => xc_0 ⟨Or.inr rfl, rfl⟩) cls_X11 (by rw [hR]; exact ⟨by decide, by decide⟩) (by rw [hR]; exact ⟨by show k ≤ 601024; omega, by show n ≤ 7293034; omega⟩) rfl rfl (Nat.le_of_ble_eq_true rfl) dL_law_1183 ?_
  refine L_swap ?_
  refine L_aload_n (q := 2) hX dL_law_1186 rfl rfl ?_
  refine L_aload_n (q := 4) hX dL_law_1187 rfl rfl ?_
  refine L_iload (q := 0) hX dL_law_1188 rfl ?_
  refine L_iconst (v := 1) hX dL_law_1190 (by decide) ?_
  refine L_iadd hX dL_law_1191 ?_
  refine L_sld hX hs hin.1 dL_law_1192 ?_
  refine L_callP (lay := mLy) (qs := qm) (i := 0) (rest := [.int r]) [.int (xs' (i + 1).toNatClampNeg)] hX Clo_m (fun _ _ _ _ _ => trivial) (fun Reg B => ctM_count rfl h2) lk_L_137_X12_count md_X12_count (fun Reg B => mc_0 rfl) cls_X12 (by rw [hR]; exact ⟨by decide, by decide⟩) (by rw [hR]; exact ⟨by show k ≤ 601024; omega, by show n ≤ 7293034; omega⟩) rfl rfl (Nat.le_of_ble_eq_true rfl) dL_law_1193 ?_
  refine L_icmp_eqT (tgt := 1201) hX dL_law_1196 rfl rfl ?_
  exact kk _ _ _ _ h3 (by omega) (by omega)
