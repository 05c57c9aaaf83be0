set_option maxRecDepth 100000 in
theorem ck_47 : chkE me_47 = true := by decide +kernel
set_option maxRecDepth 100000 in
theorem cw_47 : lw_tbl[304]? = some (.code me_47.1 me_47.2.1 me_47.2.2.1 me_47.2.2.2.1) := rfl
set_option maxRecDepth 100000 in
theorem ck_48 : chkE me_48 = true := by decide +kernel
set_option maxRecDepth 100000 in
theorem cw_48 : lw_tbl[337]? = some (.code me_48.1 me_48.2.1 me_48.2.2.1 me_48.2.2.2.1) := rfl
set_option maxRecDepth 100000 in
theorem ck_49 : chkE me_49 = true := by decide +kernel
set_option maxRecDepth 100000 in
theorem cw_49 : lw_tbl[325]? = some (.code me_49.1 me_49.2.1 me_49.2.2.1 me_49.2.2.2.1) := rfl
set_option maxRecDepth 100000 in
theorem ck_50 : chkE me_50 = true := by decide +kernel
set_option maxRecDepth 100000 in
theorem cw_50 : lw_tbl[647]? = some (.code me_50.1 me_50.2.1 me_50.2.2.1 me_50.2.2.2.1) := rfl
set_option maxRecDepth 100000 in
theorem ck_51 : chkE me_51 = true := by decide +kernel
set_option maxRecDepth 100000 in
theorem cw_51 : lw_tbl[423]? = some (.code me_51.1 me_51.2.1 me_51.2.2.1 me_51.2.2.2.1) := rfl
set_option maxRecDepth 100000 in
theorem ck_52 : chkE me_52 = true := by decide +kernel
set_option maxRecDepth 100000 in
theorem cw_52 : lw_tbl[547]? = some (.code me_52.1 me_52.2.1 me_52.2.2.1 me_52.2.2.2.1) := rfl
set_option maxRecDepth 100000 in
theorem ck_53 : chkE me_53 = true := by decide +kernel
set_option maxRecDepth 100000 in
theorem cw_53 : lw_tbl[596]? = some (.code me_53.1 me_53.2.1 me_53.2.2.1 me_53.2.2.2.1) := rfl
set_option maxRecDepth 100000 in
theorem ck_54 : chkE me_54 = true := by decide +kernel
set_option maxRecDepth 100000 in
theorem cw_54 : lw_tbl[311]? = some (.code me_54.1 me_54.2.1 me_54.2.2.1 me_54.2.2.2.1) := rfl
set_option maxRecDepth 100000 in
theorem ck_55 : chkE me_55 = true := by decide +kernel
set_option maxRecDepth 100000 in
theorem cw_55 : lw_tbl[315]? = some (.code me_55.1 me_55.2.1 me_55.2.2.1 me_55.2.2.2.1) := rfl
set_option maxRecDepth 100000 in
theorem ck_56 : chkE me_56 = true := by decide +kernel
set_option maxRecDepth 100000 in
theorem cw_56 : lw_tbl[382]? = some (.code me_56.1 me_56.2.1 me_56.2.2.1 me_56.2.2.2.1) := rfl
set_option maxRecDepth 100000 in
theorem ck_57 : chkE me_57 = true := by decide +kernel
set_option maxRecDepth 100000 in
theorem cw_57 : lw_tbl[346]? = some (.code me_57.1 me_57.2.1 me_57.2.2.1 me_57.2.2.2.1) := rfl
set_option maxRecDepth 100000 in
theorem ck_58 : chkE me_58 = true := by decide +kernel
set_option maxRecDepth 100000 in
theorem cw_58 : lw_tbl[319]? = some (.code me_58.1 me_58.2.1 me_58.2.2.1 me_58.2.2.2.1) := rfl
set_option maxRecDepth 100000 in
theorem ck_59 : chkE me_59 = true := by decide +kernel
set_option maxRecDepth 100000 in
theorem cw_59 : lw_tbl[631]? = some (.code me_59.1 me_59.2.1 me_59.2.2.1 me_59.2.2.2.1) := rfl
set_option maxRecDepth 100000 in
theorem ck_60 : chkE me_60 = true := by decide +kernel
set_option maxRecDepth 100000 in
theorem cw_60 : lw_tbl[341]? = some (.code me_60.1 me_60.2.1 me_60.2.2.1 me_60.2.2.2.1) := rfl
set_option maxRecDepth 100000 in
theorem ck_61 : chkE me_61 = true := by decide +kernel
set_option maxRecDepth 100000 in
theorem cw_61 : lw_tbl[333]? = some (.code me_61.1 me_61.2.1 me_61.2.2.1 me_61.2.2.2.1) := rfl
set_option maxRecDepth 100000 in
theorem ck_62 : chkE me_62 = true := by decide +kernel
set_option maxRecDepth 100000 in
theorem cw_62 : lw_tbl[329]? = some (.code me_62.1 me_62.2.1 me_62.2.2.1 me_62.2.2.2.1) := rfl
set_option maxRecDepth 100000 in
theorem ck_63 : chkE me_63 = true := by decide +kernel
set_option maxRecDepth 100000 in
theorem cw_63 : lw_tbl[354]? = some (.code me_63.1 me_63.2.1 me_63.2.2.1 me_63.2.2.2.1) := rfl
set_option maxRecDepth 100000 in
theorem ck_64 : chkE me_64 = true := by decide +kernel
set_option maxRecDepth 100000 in
theorem cw_64 : lw_tbl[350]? = some (.code me_64.1 me_64.2.1 me_64.2.2.1 me_64.2.2.2.1) := rfl
set_option maxRecDepth 100000 in
theorem ck_65 : chkE me_65 = true := by decide +kernel
set_option maxRecDepth 100000 in
theorem cw_65 : lw_tbl[378]? = some (.code me_65.1 me_65.2.1 me_65.2.2.1 me_65.2.2.2.1) := rfl
set_option maxRecDepth 100000 in
theorem ck_66 : chkE me_66 = true := by decide +kernel
set_option maxRecDepth 100000 in
theorem cw_66 : lw_tbl[386]? = some (.code me_66.1 me_66.2.1 me_66.2.2.1 me_66.2.2.2.1) := rfl
set_option maxRecDepth 100000 in
theorem ck_67 : chkE me_67 = true := by decide +kernel
set_option maxRecDepth 100000 in
theorem cw_67 : lw_tbl[397]? = some (.code me_67.1 me_67.2.1 me_67.2.2.1 me_67.2.2.2.1) := rfl
set_option maxRecDepth 100000 in
theorem ck_68 : chkE me_68 = true := by decide +kernel
set_option maxRecDepth 100000 in
theorem cw_68 : lw_tbl[358]? = some (.code me_68.1 me_68.2.1 me_68.2.2.1 me_68.2.2.2.1) := rfl
set_option maxRecDepth 100000 in
theorem ck_69 : chkE me_69 = true := by decide +kernel
set_option maxRecDepth 100000 in
theorem cw_69 : lw_tbl[367]? = some (.code me_69.1 me_69.2.1 me_69.2.2.1 me_69.2.2.2.1) := rfl
set_option maxRecDepth 100000 in
theorem ck_70 : chkE me_70 = true := by decide +kernel
set_option maxRecDepth 100000 in
theorem cw_70 : lw_tbl[374]? = some (.code me_70.1 me_70.2.1 me_70.2.2.1 me_70.2.2.2.1) := rfl
set_option maxRecDepth 100000 in
theorem ck_71 : chkE me_71 = true := by decide +kernel
set_option maxRecDepth 100000 in
theorem cw_71 : lw_tbl[362]? = some (.code me_71.1 me_71.2.1 me_71.2.2.1 me_71.2.2.2.1) := rfl
set_option maxRecDepth 100000 in
theorem ck_72 : chkE me_72 = true := by decide +kernel
set_option maxRecDepth 100000 in
theorem cw_72 : lw_tbl[91]? = some (.code me_72.1 me_72.2.1 me_72.2.2.1 me_72.2.2.2.1) := rfl
set_option maxRecDepth 100000 in
theorem ck_73 : chkE me_73 = true := by decide +kernel
set_option maxRecDepth 100000 in
theorem cw_73 : lw_tbl[258]? = some (.code me_73.1 me_73.2.1 me_73.2.2.1 me_73.2.2.2.1) := rfl
set_option maxRecDepth 100000 in
theorem ck_74 : chkE me_74 = true := by decide +kernel
set_option maxRecDepth 100000 in
theorem cw_74 : lw_tbl[487]? = some (.code me_74.1 me_74.2.1 me_74.2.2.1 me_74.2.2.2.1) := rfl
set_option maxRecDepth 100000 in
theorem ck_75 : chkE me_75 = true := by decide +kernel
set_option maxRecDepth 100000 in
theorem cw_75 : lw_tbl[491]? = some (.code me_75.1 me_75.2.1 me_75.2.2.1 me_75.2.2.2.1) := rfl
set_option maxRecDepth 100000 in
theorem ck_76 : chkE me_76 = true := by decide +kernel
set_option maxRecDepth 100000 in
theorem cw_76 : lw_tbl[516]? = some (.code me_76.1 me_76.2.1 me_76.2.2.1 me_76.2.2.2.1) := rfl
set_option maxRecDepth 100000 in
theorem ck_77 : chkE me_77 = true := by decide +kernel
set_option maxRecDepth 100000 in
theorem cw_77 : lw_tbl[529]? = some (.code me_77.1 me_77.2.1 me_77.2.2.1 me_77.2.2.2.1) := rfl
set_option maxRecDepth 100000 in
theorem ck_78 : chkE me_78 = true := by decide +kernel
set_option maxRecDepth 100000 in
theorem cw_78 : lw_tbl[552]? = some (.code me_78.1 me_78.2.1 me_78.2.2.1 me_78.2.2.2.1) := rfl
set_option maxRecDepth 100000 in
theorem ck_79 : chkE me_79 = true := by decide +kernel
set_option maxRecDepth 100000 in
theorem cw_79 : lw_tbl[557]? = some (.code me_79.1 me_79.2.1 me_79.2.2.1 me_79.2.2.2.1) := rfl
set_option maxRecDepth 100000 in
theorem ck_80 : chkE me_80 = true := by decide +kernel
set_option maxRecDepth 100000 in
theorem cw_80 : lw_tbl[561]? = some (.code me_80.1 me_80.2.1 me_80.2.2.1 me_80.2.2.2.1) := rfl
set_option maxRecDepth 100000 in
theorem ck_81 : chkE me_81 = true := by decide +kernel
set_option maxRecDepth 100000 in
theorem cw_81 : lw_tbl[566]? = some (.code me_81.1 me_81.2.1 me_81.2.2.1 me_81.2.2.2.1) := rfl
set_option maxRecDepth 100000 in
theorem ck_82 : chkE me_82 = true := by decide +kernel
set_option maxRecDepth 100000 in
theorem cw_82 : lw_tbl[578]? = some (.code me_82.1 me_82.2.1 me_82.2.2.1 me_82.2.2.2.1) := rfl
set_option maxRecDepth 100000 in
theorem ck_83 : chkE me_83 = true := by decide +kernel
set_option maxRecDepth 100000 in
theorem cw_83 : lw_tbl[586]? = some (.code me_83.1 me_83.2.1 me_83.2.2.1 me_83.2.2.2.1) := rfl
set_option maxRecDepth 100000 in
theorem ck_84 : chkE me_84 = true := by decide +kernel
set_option maxRecDepth 100000 in
theorem cw_84 : lw_tbl[592]? = some (.code me_84.1 me_84.2.1 me_84.2.2.1 me_84.2.2.2.1) := rfl
set_option maxRecDepth 100000 in
theorem ck_85 : chkE me_85 = true := by decide +kernel
set_option maxRecDepth 100000 in
theorem cw_85 : lw_tbl[601]? = some (.code me_85.1 me_85.2.1 me_85.2.2.1 me_85.2.2.2.1) := rfl
set_option maxRecDepth 100000 in
theorem ck_86 : chkE me_86 = true := by decide +kernel
set_option maxRecDepth 100000 in
theorem cw_86 : lw_tbl[623]? = some (.code me_86.1 me_86.2.1 me_86.2.2.1 me_86.2.2.2.1) := rfl
set_option maxRecDepth 100000 in
theorem ck_87 : chkE me_87 = true := by decide +kernel
set_option maxRecDepth 100000 in
theorem cw_87 : lw_tbl[635]? = some (.code me_87.1 me_87.2.1 me_87.2.2.1 me_87.2.2.2.1) := rfl
set_option maxRecDepth 100000 in
theorem ck_88 : chkE me_88 = true := by decide +kernel
set_option maxRecDepth 100000 in
theorem cw_88 : lw_tbl[651]? = some (.code me_88.1 me_88.2.1 me_88.2.2.1 me_88.2.2.2.1) := rfl
set_option maxRecDepth 100000 in
theorem ck_89 : chkE me_89 = true := by decide +kernel
set_option maxRecDepth 100000 in
theorem cw_89 : lw_tbl[656]? = some (.code me_89.1 me_89.2.1 me_89.2.2.1 me_89.2.2.2.1) := rfl
set_option maxRecDepth 100000 in
theorem ck_90 : chkE me_90 = true := by decide +kernel
set_option maxRecDepth 100000 in
theorem cw_90 : lw_tbl[537]? = some (.code me_90.1 me_90.2.1 me_90.2.2.1 me_90.2.2.2.1) := rfl
set_option maxRecDepth 100000 in
theorem ck_91 : chkE me_91 = true := by decide +kernel
set_option maxRecDepth 100000 in
theorem cw_91 : lw_tbl[660]? = some (.code me_91.1 me_91.2.1 me_91.2.2.1 me_91.2.2.2.1) := rfl
set_option maxRecDepth 100000 in
theorem ck_92 : chkE me_92 = true := by decide +kernel
set_option maxRecDepth 100000 in
theorem cw_92 : lw_tbl[261]? = some (.code me_92.1 me_92.2.1 me_92.2.2.1 me_92.2.2.2.1) := rfl
set_option maxRecDepth 100000 in
theorem ck_93 : chkE me_93 = true := by decide +kernel
set_option maxRecDepth 100000 in
theorem cw_93 : lw_tbl[669]? = some (.code me_93.1 me_93.2.1 me_93.2.2.1 me_93.2.2.2.1) := rfl
set_option maxRecDepth 100000 in
theorem ck_94 : chkE me_94 = true := by decide +kernel
set_option maxRecDepth 100000 in
theorem cw_94 : lw_tbl[749]? = some (.code me_94.1 me_94.2.1 me_94.2.2.1 me_94.2.2.2.1) := rfl
set_option maxRecDepth 100000 in
theorem ck_95 : chkE me_95 = true := by decide +kernel
set_option maxRecDepth 100000 in
theorem cw_95 : lw_tbl[774]? = some (.code me_95.1 me_95.2.1 me_95.2.2.1 me_95.2.2.2.1) := rfl
set_option maxRecDepth 100000 in
theorem ck_96 : chkE me_96 = true := by decide +kernel
set_option maxRecDepth 100000 in
theorem cw_96 : lw_tbl[802]? = some (.code me_96.1 me_96.2.1 me_96.2.2.1 me_96.2.2.2.1) := rfl
set_option maxRecDepth 100000 in
theorem ck_97 : chkE me_97 = true := by decide +kernel
set_option maxRecDepth 100000 in
theorem cw_97 : lw_tbl[770]? = some (.code me_97.1 me_97.2.1 me_97.2.2.1 me_97.2.2.2.1) := rfl
set_option maxRecDepth 100000 in
theorem ck_98 : chkE me_98 = true := by decide +kernel
set_option maxRecDepth 100000 in
theorem cw_98 : lw_tbl[790]? = some (.code me_98.1 me_98.2.1 me_98.2.2.1 me_98.2.2.2.1) := rfl
set_option maxRecDepth 100000 in
theorem ck_99 : chkE me_99 = true := by decide +kernel
set_option maxRecDepth 100000 in
theorem cw_99 : lw_tbl[842]? = some (.code me_99.1 me_99.2.1 me_99.2.2.1 me_99.2.2.2.1) := rfl
set_option maxRecDepth 100000 in
theorem ck_100 : chkE me_100 = true := by decide +kernel
set_option maxRecDepth 100000 in
theorem cw_100 : lw_tbl[846]? = some (.code me_100.1 me_100.2.1 me_100.2.2.1 me_100.2.2.2.1) := rfl
set_option maxRecDepth 100000 in
theorem ck_101 : chkE me_101 = true := by decide +kernel
set_option maxRecDepth 100000 in
theorem cw_101 : lw_tbl[862]? = some (.code me_101.1 me_101.2.1 me_101.2.2.1 me_101.2.2.2.1) := rfl
set_option maxRecDepth 100000 in
theorem ck_102 : chkE me_102 = true := by decide +kernel
set_option maxRecDepth 100000 in
theorem cw_102 : lw_tbl[822]? = some (.code me_102.1 me_102.2.1 me_102.2.2.1 me_102.2.2.2.1) := rfl
set_option maxRecDepth 100000 in
theorem ck_103 : chkE me_103 = true := by decide +kernel
set_option maxRecDepth 100000 in
theorem cw_103 : lw_tbl[910]? = some (.code me_103.1 me_103.2.1 me_103.2.2.1 me_103.2.2.2.1) := rfl
set_option maxRecDepth 100000 in
theorem ck_104 : chkE me_104 = true := by decide +kernel
set_option maxRecDepth 100000 in
theorem cw_104 : lw_tbl[798]? = some (.code me_104.1 me_104.2.1 me_104.2.2.1 me_104.2.2.2.1) := rfl
