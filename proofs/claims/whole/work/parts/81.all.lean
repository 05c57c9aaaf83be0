/-! all methods together -/
def ckP (e : mE) : Prop := chkE e = true ∧ Cond.code e.1 e.2.1 e.2.2.1 e.2.2.2.1 ∈ gw
def ml_0 : List mE := [me_0, me_1, me_2, me_3, me_4, me_5, me_6, me_7, me_8, me_9, me_10, me_11, me_12, me_13, me_14]
theorem mlr_0 : ∀ e ∈ ml_0, ckP e := List.forall_mem_cons.mpr ⟨⟨ck_0, gw_of cw_0 rfl⟩, List.forall_mem_cons.mpr ⟨⟨ck_1, gw_of cw_1 rfl⟩, List.forall_mem_cons.mpr ⟨⟨ck_2, gw_of cw_2 rfl⟩, List.forall_mem_cons.mpr ⟨⟨ck_3, gw_of cw_3 rfl⟩, List.forall_mem_cons.mpr ⟨⟨ck_4, gw_of cw_4 rfl⟩, List.forall_mem_cons.mpr ⟨⟨ck_5, gw_of cw_5 rfl⟩, List.forall_mem_cons.mpr ⟨⟨ck_6, gw_of cw_6 rfl⟩, List.forall_mem_cons.mpr ⟨⟨ck_7, gw_of cw_7 rfl⟩, List.forall_mem_cons.mpr ⟨⟨ck_8, gw_of cw_8 rfl⟩, List.forall_mem_cons.mpr ⟨⟨ck_9, gw_of cw_9 rfl⟩, List.forall_mem_cons.mpr ⟨⟨ck_10, gw_of cw_10 rfl⟩, List.forall_mem_cons.mpr ⟨⟨ck_11, gw_of cw_11 rfl⟩, List.forall_mem_cons.mpr ⟨⟨ck_12, gw_of cw_12 rfl⟩, List.forall_mem_cons.mpr ⟨⟨ck_13, gw_of cw_13 rfl⟩, List.forall_mem_cons.mpr ⟨⟨ck_14, gw_of cw_14 rfl⟩, fun _ h => absurd h List.not_mem_nil⟩⟩⟩⟩⟩⟩⟩⟩⟩⟩⟩⟩⟩⟩⟩
def ml_1 : List mE := [me_15, me_16, me_17, me_18, me_19, me_20, me_21, me_22, me_23, me_24, me_25, me_26, me_27, me_28, me_29]
theorem mlr_1 : ∀ e ∈ ml_1, ckP e := List.forall_mem_cons.mpr ⟨⟨ck_15, gw_of cw_15 rfl⟩, List.forall_mem_cons.mpr ⟨⟨ck_16, gw_of cw_16 rfl⟩, List.forall_mem_cons.mpr ⟨⟨ck_17, gw_of cw_17 rfl⟩, List.forall_mem_cons.mpr ⟨⟨ck_18, gw_of cw_18 rfl⟩, List.forall_mem_cons.mpr ⟨⟨ck_19, gw_of cw_19 rfl⟩, List.forall_mem_cons.mpr ⟨⟨ck_20, gw_of cw_20 rfl⟩, List.forall_mem_cons.mpr ⟨⟨ck_21, gw_of cw_21 rfl⟩, List.forall_mem_cons.mpr ⟨⟨ck_22, gw_of cw_22 rfl⟩, List.forall_mem_cons.mpr ⟨⟨ck_23, gw_of cw_23 rfl⟩, List.forall_mem_cons.mpr ⟨⟨ck_24, gw_of cw_24 rfl⟩, List.forall_mem_cons.mpr ⟨⟨ck_25, gw_of cw_25 rfl⟩, List.forall_mem_cons.mpr ⟨⟨ck_26, gw_of cw_26 rfl⟩, List.forall_mem_cons.mpr ⟨⟨ck_27, gw_of cw_27 rfl⟩, List.forall_mem_cons.mpr ⟨⟨ck_28, gw_of cw_28 rfl⟩, List.forall_mem_cons.mpr ⟨⟨ck_29, gw_of cw_29 rfl⟩, fun _ h => absurd h List.not_mem_nil⟩⟩⟩⟩⟩⟩⟩⟩⟩⟩⟩⟩⟩⟩⟩
def ml_2 : List mE := [me_30, me_31, me_32, me_33, me_34, me_35, me_36, me_37, me_38, me_39, me_40, me_41, me_42, me_43, me_44]
theorem mlr_2 : ∀ e ∈ ml_2, ckP e := List.forall_mem_cons.mpr ⟨⟨ck_30, gw_of cw_30 rfl⟩, List.forall_mem_cons.mpr ⟨⟨ck_31, gw_of cw_31 rfl⟩, List.forall_mem_cons.mpr ⟨⟨ck_32, gw_of cw_32 rfl⟩, List.forall_mem_cons.mpr ⟨⟨ck_33, gw_of cw_33 rfl⟩, List.forall_mem_cons.mpr ⟨⟨ck_34, gw_of cw_34 rfl⟩, List.forall_mem_cons.mpr ⟨⟨ck_35, gw_of cw_35 rfl⟩, List.forall_mem_cons.mpr ⟨⟨ck_36, gw_of cw_36 rfl⟩, List.forall_mem_cons.mpr ⟨⟨ck_37, gw_of cw_37 rfl⟩, List.forall_mem_cons.mpr ⟨⟨ck_38, gw_of cw_38 rfl⟩, List.forall_mem_cons.mpr ⟨⟨ck_39, gw_of cw_39 rfl⟩, List.forall_mem_cons.mpr ⟨⟨ck_40, gw_of cw_40 rfl⟩, List.forall_mem_cons.mpr ⟨⟨ck_41, gw_of cw_41 rfl⟩, List.forall_mem_cons.mpr ⟨⟨ck_42, gw_of cw_42 rfl⟩, List.forall_mem_cons.mpr ⟨⟨ck_43, gw_of cw_43 rfl⟩, List.forall_mem_cons.mpr ⟨⟨ck_44, gw_of cw_44 rfl⟩, fun _ h => absurd h List.not_mem_nil⟩⟩⟩⟩⟩⟩⟩⟩⟩⟩⟩⟩⟩⟩⟩
def ml_3 : List mE := [me_45, me_46, me_47, me_48, me_49, me_50, me_51, me_52, me_53, me_54, me_55, me_56, me_57, me_58, me_59]
theorem mlr_3 : ∀ e ∈ ml_3, ckP e := List.forall_mem_cons.mpr ⟨⟨ck_45, gw_of cw_45 rfl⟩, List.forall_mem_cons.mpr ⟨⟨ck_46, gw_of cw_46 rfl⟩, List.forall_mem_cons.mpr ⟨⟨ck_47, gw_of cw_47 rfl⟩, List.forall_mem_cons.mpr ⟨⟨ck_48, gw_of cw_48 rfl⟩, List.forall_mem_cons.mpr ⟨⟨ck_49, gw_of cw_49 rfl⟩, List.forall_mem_cons.mpr ⟨⟨ck_50, gw_of cw_50 rfl⟩, List.forall_mem_cons.mpr ⟨⟨ck_51, gw_of cw_51 rfl⟩, List.forall_mem_cons.mpr ⟨⟨ck_52, gw_of cw_52 rfl⟩, List.forall_mem_cons.mpr ⟨⟨ck_53, gw_of cw_53 rfl⟩, List.forall_mem_cons.mpr ⟨⟨ck_54, gw_of cw_54 rfl⟩, List.forall_mem_cons.mpr ⟨⟨ck_55, gw_of cw_55 rfl⟩, List.forall_mem_cons.mpr ⟨⟨ck_56, gw_of cw_56 rfl⟩, List.forall_mem_cons.mpr ⟨⟨ck_57, gw_of cw_57 rfl⟩, List.forall_mem_cons.mpr ⟨⟨ck_58, gw_of cw_58 rfl⟩, List.forall_mem_cons.mpr ⟨⟨ck_59, gw_of cw_59 rfl⟩, fun _ h => absurd h List.not_mem_nil⟩⟩⟩⟩⟩⟩⟩⟩⟩⟩⟩⟩⟩⟩⟩
def ml_4 : List mE := [me_60, me_61, me_62, me_63, me_64, me_65, me_66, me_67, me_68, me_69, me_70, me_71, me_72, me_73, me_74]
theorem mlr_4 : ∀ e ∈ ml_4, ckP e := List.forall_mem_cons.mpr ⟨⟨ck_60, gw_of cw_60 rfl⟩, List.forall_mem_cons.mpr ⟨⟨ck_61, gw_of cw_61 rfl⟩, List.forall_mem_cons.mpr ⟨⟨ck_62, gw_of cw_62 rfl⟩, List.forall_mem_cons.mpr ⟨⟨ck_63, gw_of cw_63 rfl⟩, List.forall_mem_cons.mpr ⟨⟨ck_64, gw_of cw_64 rfl⟩, List.forall_mem_cons.mpr ⟨⟨ck_65, gw_of cw_65 rfl⟩, List.forall_mem_cons.mpr ⟨⟨ck_66, gw_of cw_66 rfl⟩, List.forall_mem_cons.mpr ⟨⟨ck_67, gw_of cw_67 rfl⟩, List.forall_mem_cons.mpr ⟨⟨ck_68, gw_of cw_68 rfl⟩, List.forall_mem_cons.mpr ⟨⟨ck_69, gw_of cw_69 rfl⟩, List.forall_mem_cons.mpr ⟨⟨ck_70, gw_of cw_70 rfl⟩, List.forall_mem_cons.mpr ⟨⟨ck_71, gw_of cw_71 rfl⟩, List.forall_mem_cons.mpr ⟨⟨ck_72, gw_of cw_72 rfl⟩, List.forall_mem_cons.mpr ⟨⟨ck_73, gw_of cw_73 rfl⟩, List.forall_mem_cons.mpr ⟨⟨ck_74, gw_of cw_74 rfl⟩, fun _ h => absurd h List.not_mem_nil⟩⟩⟩⟩⟩⟩⟩⟩⟩⟩⟩⟩⟩⟩⟩
def ml_5 : List mE := [me_75, me_76, me_77, me_78, me_79, me_80, me_81, me_82, me_83, me_84, me_85, me_86, me_87, me_88, me_89]
theorem mlr_5 : ∀ e ∈ ml_5, ckP e := List.forall_mem_cons.mpr ⟨⟨ck_75, gw_of cw_75 rfl⟩, List.forall_mem_cons.mpr ⟨⟨ck_76, gw_of cw_76 rfl⟩, List.forall_mem_cons.mpr ⟨⟨ck_77, gw_of cw_77 rfl⟩, List.forall_mem_cons.mpr ⟨⟨ck_78, gw_of cw_78 rfl⟩, List.forall_mem_cons.mpr ⟨⟨ck_79, gw_of cw_79 rfl⟩, List.forall_mem_cons.mpr ⟨⟨ck_80, gw_of cw_80 rfl⟩, List.forall_mem_cons.mpr ⟨⟨ck_81, gw_of cw_81 rfl⟩, List.forall_mem_cons.mpr ⟨⟨ck_82, gw_of cw_82 rfl⟩, List.forall_mem_cons.mpr ⟨⟨ck_83, gw_of cw_83 rfl⟩, List.forall_mem_cons.mpr ⟨⟨ck_84, gw_of cw_84 rfl⟩, List.forall_mem_cons.mpr ⟨⟨ck_85, gw_of cw_85 rfl⟩, List.forall_mem_cons.mpr ⟨⟨ck_86, gw_of cw_86 rfl⟩, List.forall_mem_cons.mpr ⟨⟨ck_87, gw_of cw_87 rfl⟩, List.forall_mem_cons.mpr ⟨⟨ck_88, gw_of cw_88 rfl⟩, List.forall_mem_cons.mpr ⟨⟨ck_89, gw_of cw_89 rfl⟩, fun _ h => absurd h List.not_mem_nil⟩⟩⟩⟩⟩⟩⟩⟩⟩⟩⟩⟩⟩⟩⟩
def ml_6 : List mE := [me_90, me_91, me_92, me_93, me_94, me_95, me_96, me_97, me_98, me_99, me_100, me_101, me_102, me_103, me_104]
theorem mlr_6 : ∀ e ∈ ml_6, ckP e := List.forall_mem_cons.mpr ⟨⟨ck_90, gw_of cw_90 rfl⟩, List.forall_mem_cons.mpr ⟨⟨ck_91, gw_of cw_91 rfl⟩, List.forall_mem_cons.mpr ⟨⟨ck_92, gw_of cw_92 rfl⟩, List.forall_mem_cons.mpr ⟨⟨ck_93, gw_of cw_93 rfl⟩, List.forall_mem_cons.mpr ⟨⟨ck_94, gw_of cw_94 rfl⟩, List.forall_mem_cons.mpr ⟨⟨ck_95, gw_of cw_95 rfl⟩, List.forall_mem_cons.mpr ⟨⟨ck_96, gw_of cw_96 rfl⟩, List.forall_mem_cons.mpr ⟨⟨ck_97, gw_of cw_97 rfl⟩, List.forall_mem_cons.mpr ⟨⟨ck_98, gw_of cw_98 rfl⟩, List.forall_mem_cons.mpr ⟨⟨ck_99, gw_of cw_99 rfl⟩, List.forall_mem_cons.mpr ⟨⟨ck_100, gw_of cw_100 rfl⟩, List.forall_mem_cons.mpr ⟨⟨ck_101, gw_of cw_101 rfl⟩, List.forall_mem_cons.mpr ⟨⟨ck_102, gw_of cw_102 rfl⟩, List.forall_mem_cons.mpr ⟨⟨ck_103, gw_of cw_103 rfl⟩, List.forall_mem_cons.mpr ⟨⟨ck_104, gw_of cw_104 rfl⟩, fun _ h => absurd h List.not_mem_nil⟩⟩⟩⟩⟩⟩⟩⟩⟩⟩⟩⟩⟩⟩⟩
def ml_7 : List mE := [me_105, me_106, me_107, me_108, me_109, me_110, me_111, me_112, me_113, me_114, me_115, me_116, me_117, me_118, me_119]
theorem mlr_7 : ∀ e ∈ ml_7, ckP e := List.forall_mem_cons.mpr ⟨⟨ck_105, gw_of cw_105 rfl⟩, List.forall_mem_cons.mpr ⟨⟨ck_106, gw_of cw_106 rfl⟩, List.forall_mem_cons.mpr ⟨⟨ck_107, gw_of cw_107 rfl⟩, List.forall_mem_cons.mpr ⟨⟨ck_108, gw_of cw_108 rfl⟩, List.forall_mem_cons.mpr ⟨⟨ck_109, gw_of cw_109 rfl⟩, List.forall_mem_cons.mpr ⟨⟨ck_110, gw_of cw_110 rfl⟩, List.forall_mem_cons.mpr ⟨⟨ck_111, gw_of cw_111 rfl⟩, List.forall_mem_cons.mpr ⟨⟨ck_112, gw_of cw_112 rfl⟩, List.forall_mem_cons.mpr ⟨⟨ck_113, gw_of cw_113 rfl⟩, List.forall_mem_cons.mpr ⟨⟨ck_114, gw_of cw_114 rfl⟩, List.forall_mem_cons.mpr ⟨⟨ck_115, gw_of cw_115 rfl⟩, List.forall_mem_cons.mpr ⟨⟨ck_116, gw_of cw_116 rfl⟩, List.forall_mem_cons.mpr ⟨⟨ck_117, gw_of cw_117 rfl⟩, List.forall_mem_cons.mpr ⟨⟨ck_118, gw_of cw_118 rfl⟩, List.forall_mem_cons.mpr ⟨⟨ck_119, gw_of cw_119 rfl⟩, fun _ h => absurd h List.not_mem_nil⟩⟩⟩⟩⟩⟩⟩⟩⟩⟩⟩⟩⟩⟩⟩
def ml_8 : List mE := [me_120, me_121, me_122, me_123, me_124, me_125, me_126, me_127, me_128, me_129, me_130, me_131, me_132, me_133, me_134]
theorem mlr_8 : ∀ e ∈ ml_8, ckP e := List.forall_mem_cons.mpr ⟨⟨ck_120, gw_of cw_120 rfl⟩, List.forall_mem_cons.mpr ⟨⟨ck_121, gw_of cw_121 rfl⟩, List.forall_mem_cons.mpr ⟨⟨ck_122, gw_of cw_122 rfl⟩, List.forall_mem_cons.mpr ⟨⟨ck_123, gw_of cw_123 rfl⟩, List.forall_mem_cons.mpr ⟨⟨ck_124, gw_of cw_124 rfl⟩, List.forall_mem_cons.mpr ⟨⟨ck_125, gw_of cw_125 rfl⟩, List.forall_mem_cons.mpr ⟨⟨ck_126, gw_of cw_126 rfl⟩, List.forall_mem_cons.mpr ⟨⟨ck_127, gw_of cw_127 rfl⟩, List.forall_mem_cons.mpr ⟨⟨ck_128, gw_of cw_128 rfl⟩, List.forall_mem_cons.mpr ⟨⟨ck_129, gw_of cw_129 rfl⟩, List.forall_mem_cons.mpr ⟨⟨ck_130, gw_of cw_130 rfl⟩, List.forall_mem_cons.mpr ⟨⟨ck_131, gw_of cw_131 rfl⟩, List.forall_mem_cons.mpr ⟨⟨ck_132, gw_of cw_132 rfl⟩, List.forall_mem_cons.mpr ⟨⟨ck_133, gw_of cw_133 rfl⟩, List.forall_mem_cons.mpr ⟨⟨ck_134, gw_of cw_134 rfl⟩, fun _ h => absurd h List.not_mem_nil⟩⟩⟩⟩⟩⟩⟩⟩⟩⟩⟩⟩⟩⟩⟩
def ml_9 : List mE := [me_135, me_136, me_137, me_138, me_139, me_140, me_141, me_142, me_143, me_144, me_145, me_146, me_147, me_148, me_149]
theorem mlr_9 : ∀ e ∈ ml_9, ckP e := List.forall_mem_cons.mpr ⟨⟨ck_135, gw_of cw_135 rfl⟩, List.forall_mem_cons.mpr ⟨⟨ck_136, gw_of cw_136 rfl⟩, List.forall_mem_cons.mpr ⟨⟨ck_137, gw_of cw_137 rfl⟩, List.forall_mem_cons.mpr ⟨⟨ck_138, gw_of cw_138 rfl⟩, List.forall_mem_cons.mpr ⟨⟨ck_139, gw_of cw_139 rfl⟩, List.forall_mem_cons.mpr ⟨⟨ck_140, gw_of cw_140 rfl⟩, List.forall_mem_cons.mpr ⟨⟨ck_141, gw_of cw_141 rfl⟩, List.forall_mem_cons.mpr ⟨⟨ck_142, gw_of cw_142 rfl⟩, List.forall_mem_cons.mpr ⟨⟨ck_143, gw_of cw_143 rfl⟩, List.forall_mem_cons.mpr ⟨⟨ck_144, gw_of cw_144 rfl⟩, List.forall_mem_cons.mpr ⟨⟨ck_145, gw_of cw_145 rfl⟩, List.forall_mem_cons.mpr ⟨⟨ck_146, gw_of cw_146 rfl⟩, List.forall_mem_cons.mpr ⟨⟨ck_147, gw_of cw_147 rfl⟩, List.forall_mem_cons.mpr ⟨⟨ck_148, gw_of cw_148 rfl⟩, List.forall_mem_cons.mpr ⟨⟨ck_149, gw_of cw_149 rfl⟩, fun _ h => absurd h List.not_mem_nil⟩⟩⟩⟩⟩⟩⟩⟩⟩⟩⟩⟩⟩⟩⟩
def ml_10 : List mE := [me_150, me_151, me_152, me_153, me_154, me_155, me_156, me_157, me_158, me_159, me_160, me_161, me_162, me_163, me_164]
theorem mlr_10 : ∀ e ∈ ml_10, ckP e := List.forall_mem_cons.mpr ⟨⟨ck_150, gw_of cw_150 rfl⟩, List.forall_mem_cons.mpr ⟨⟨ck_151, gw_of cw_151 rfl⟩, List.forall_mem_cons.mpr ⟨⟨ck_152, gw_of cw_152 rfl⟩, List.forall_mem_cons.mpr ⟨⟨ck_153, gw_of cw_153 rfl⟩, List.forall_mem_cons.mpr ⟨⟨ck_154, gw_of cw_154 rfl⟩, List.forall_mem_cons.mpr ⟨⟨ck_155, gw_of cw_155 rfl⟩, List.forall_mem_cons.mpr ⟨⟨ck_156, gw_of cw_156 rfl⟩, List.forall_mem_cons.mpr ⟨⟨ck_157, gw_of cw_157 rfl⟩, List.forall_mem_cons.mpr ⟨⟨ck_158, gw_of cw_158 rfl⟩, List.forall_mem_cons.mpr ⟨⟨ck_159, gw_of cw_159 rfl⟩, List.forall_mem_cons.mpr ⟨⟨ck_160, gw_of cw_160 rfl⟩, List.forall_mem_cons.mpr ⟨⟨ck_161, gw_of cw_161 rfl⟩, List.forall_mem_cons.mpr ⟨⟨ck_162, gw_of cw_162 rfl⟩, List.forall_mem_cons.mpr ⟨⟨ck_163, gw_of cw_163 rfl⟩, List.forall_mem_cons.mpr ⟨⟨ck_164, gw_of cw_164 rfl⟩, fun _ h => absurd h List.not_mem_nil⟩⟩⟩⟩⟩⟩⟩⟩⟩⟩⟩⟩⟩⟩⟩
set_option maxRecDepth 100000 in
theorem ck_all {j : Nat} (h : j < 165) : ckP (me j) := by
  have hm : me j ∈ mT.take 165 := by
    have hlen : mT.length = 169 := rfl
    unfold me
    rw [List.getD_eq_getElem?_getD, List.getElem?_eq_getElem (by omega)]
    exact List.mem_iff_getElem.mpr ⟨j, by rw [List.length_take]; omega, by rw [List.getElem_take]; rfl⟩
  have he : mT.take 165 = ml_0 ++ (ml_1 ++ (ml_2 ++ (ml_3 ++ (ml_4 ++ (ml_5 ++ (ml_6 ++ (ml_7 ++ (ml_8 ++ (ml_9 ++ (ml_10)))))))))) := rfl
  rw [he] at hm
  simp only [List.mem_append] at hm
  rcases hm with hm | hm | hm | hm | hm | hm | hm | hm | hm | hm | hm
  · exact mlr_0 _ hm
  · exact mlr_1 _ hm
  · exact mlr_2 _ hm
  · exact mlr_3 _ hm
  · exact mlr_4 _ hm
  · exact mlr_5 _ hm
  · exact mlr_6 _ hm
  · exact mlr_7 _ hm
  · exact mlr_8 _ hm
  · exact mlr_9 _ hm
  · exact mlr_10 _ hm
theorem mw_all {j : Nat} (h : j < 165) : mwOk j = true := by
  have key : ∀ (a n : Nat), ((List.range n).map (fun i => mwOk (a + i))).all id = true → a ≤ j → j < a + n → mwOk j = true := by
    intro a n hall h1 h2
    have := List.all_eq_true.mp hall _ (List.mem_map.mpr ⟨j - a, List.mem_range.mpr (by omega), rfl⟩)
    rw [show a + (j - a) = j by omega] at this
    exact this
  by_cases q0 : j < 15
  · exact key 0 15 mw_0 (by omega) (by omega)
  by_cases q1 : j < 30
  · exact key 15 15 mw_15 (by omega) (by omega)
  by_cases q2 : j < 45
  · exact key 30 15 mw_30 (by omega) (by omega)
  by_cases q3 : j < 60
  · exact key 45 15 mw_45 (by omega) (by omega)
  by_cases q4 : j < 75
  · exact key 60 15 mw_60 (by omega) (by omega)
  by_cases q5 : j < 90
  · exact key 75 15 mw_75 (by omega) (by omega)
  by_cases q6 : j < 105
  · exact key 90 15 mw_90 (by omega) (by omega)
  by_cases q7 : j < 120
  · exact key 105 15 mw_105 (by omega) (by omega)
  by_cases q8 : j < 135
  · exact key 120 15 mw_120 (by omega) (by omega)
  by_cases q9 : j < 150
  · exact key 135 15 mw_135 (by omega) (by omega)
  by_cases q10 : j < 165
  · exact key 150 15 mw_150 (by omega) (by omega)
  omega
theorem hmo_all : ∀ j, j < 165 → mOk j := fun j h => ⟨mw_all h, (ck_all h).1, (ck_all h).2⟩
set_option maxRecDepth 100000 in
theorem pc0_w : (List.range 165).all (fun j => decide ((me j).2.2.2.2.2.2.2.2.getD 0 0 = 0)) = true := by decide +kernel
theorem pc0_all : ∀ j, j < 165 → (me j).2.2.2.2.2.2.2.2.getD 0 0 = 0 := fun j h => of_decide_eq_true (List.all_eq_true.mp pc0_w j (List.mem_range.mpr h))
