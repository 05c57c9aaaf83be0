set_option maxRecDepth 100000 in
theorem ck_105 : chkE me_105 = true := by decide +kernel
set_option maxRecDepth 100000 in
theorem cw_105 : lw_tbl[794]? = some (.code me_105.1 me_105.2.1 me_105.2.2.1 me_105.2.2.2.1) := rfl
set_option maxRecDepth 100000 in
theorem ck_106 : chkE me_106 = true := by decide +kernel
set_option maxRecDepth 100000 in
theorem cw_106 : lw_tbl[830]? = some (.code me_106.1 me_106.2.1 me_106.2.2.1 me_106.2.2.2.1) := rfl
set_option maxRecDepth 100000 in
theorem ck_107 : chkE me_107 = true := by decide +kernel
set_option maxRecDepth 100000 in
theorem cw_107 : lw_tbl[786]? = some (.code me_107.1 me_107.2.1 me_107.2.2.1 me_107.2.2.2.1) := rfl
set_option maxRecDepth 100000 in
theorem ck_108 : chkE me_108 = true := by decide +kernel
set_option maxRecDepth 100000 in
theorem cw_108 : lw_tbl[866]? = some (.code me_108.1 me_108.2.1 me_108.2.2.1 me_108.2.2.2.1) := rfl
set_option maxRecDepth 100000 in
theorem ck_109 : chkE me_109 = true := by decide +kernel
set_option maxRecDepth 100000 in
theorem cw_109 : lw_tbl[929]? = some (.code me_109.1 me_109.2.1 me_109.2.2.1 me_109.2.2.2.1) := rfl
set_option maxRecDepth 100000 in
theorem ck_110 : chkE me_110 = true := by decide +kernel
set_option maxRecDepth 100000 in
theorem cw_110 : lw_tbl[810]? = some (.code me_110.1 me_110.2.1 me_110.2.2.1 me_110.2.2.2.1) := rfl
set_option maxRecDepth 100000 in
theorem ck_111 : chkE me_111 = true := by decide +kernel
set_option maxRecDepth 100000 in
theorem cw_111 : lw_tbl[834]? = some (.code me_111.1 me_111.2.1 me_111.2.2.1 me_111.2.2.2.1) := rfl
set_option maxRecDepth 100000 in
theorem ck_112 : chkE me_112 = true := by decide +kernel
set_option maxRecDepth 100000 in
theorem cw_112 : lw_tbl[818]? = some (.code me_112.1 me_112.2.1 me_112.2.2.1 me_112.2.2.2.1) := rfl
set_option maxRecDepth 100000 in
theorem ck_113 : chkE me_113 = true := by decide +kernel
set_option maxRecDepth 100000 in
theorem cw_113 : lw_tbl[826]? = some (.code me_113.1 me_113.2.1 me_113.2.2.1 me_113.2.2.2.1) := rfl
set_option maxRecDepth 100000 in
theorem ck_114 : chkE me_114 = true := by decide +kernel
set_option maxRecDepth 100000 in
theorem cw_114 : lw_tbl[838]? = some (.code me_114.1 me_114.2.1 me_114.2.2.1 me_114.2.2.2.1) := rfl
set_option maxRecDepth 100000 in
theorem ck_115 : chkE me_115 = true := by decide +kernel
set_option maxRecDepth 100000 in
theorem cw_115 : lw_tbl[850]? = some (.code me_115.1 me_115.2.1 me_115.2.2.1 me_115.2.2.2.1) := rfl
set_option maxRecDepth 100000 in
theorem ck_116 : chkE me_116 = true := by decide +kernel
set_option maxRecDepth 100000 in
theorem cw_116 : lw_tbl[814]? = some (.code me_116.1 me_116.2.1 me_116.2.2.1 me_116.2.2.2.1) := rfl
set_option maxRecDepth 100000 in
theorem ck_117 : chkE me_117 = true := by decide +kernel
set_option maxRecDepth 100000 in
theorem cw_117 : lw_tbl[854]? = some (.code me_117.1 me_117.2.1 me_117.2.2.1 me_117.2.2.2.1) := rfl
set_option maxRecDepth 100000 in
theorem ck_118 : chkE me_118 = true := by decide +kernel
set_option maxRecDepth 100000 in
theorem cw_118 : lw_tbl[858]? = some (.code me_118.1 me_118.2.1 me_118.2.2.1 me_118.2.2.2.1) := rfl
set_option maxRecDepth 100000 in
theorem ck_119 : chkE me_119 = true := by decide +kernel
set_option maxRecDepth 100000 in
theorem cw_119 : lw_tbl[806]? = some (.code me_119.1 me_119.2.1 me_119.2.2.1 me_119.2.2.2.1) := rfl
set_option maxRecDepth 100000 in
theorem ck_120 : chkE me_120 = true := by decide +kernel
set_option maxRecDepth 100000 in
theorem cw_120 : lw_tbl[778]? = some (.code me_120.1 me_120.2.1 me_120.2.2.1 me_120.2.2.2.1) := rfl
set_option maxRecDepth 100000 in
theorem ck_121 : chkE me_121 = true := by decide +kernel
set_option maxRecDepth 100000 in
theorem cw_121 : lw_tbl[757]? = some (.code me_121.1 me_121.2.1 me_121.2.2.1 me_121.2.2.2.1) := rfl
set_option maxRecDepth 100000 in
theorem ck_122 : chkE me_122 = true := by decide +kernel
set_option maxRecDepth 100000 in
theorem cw_122 : lw_tbl[761]? = some (.code me_122.1 me_122.2.1 me_122.2.2.1 me_122.2.2.2.1) := rfl
set_option maxRecDepth 100000 in
theorem ck_123 : chkE me_123 = true := by decide +kernel
set_option maxRecDepth 100000 in
theorem cw_123 : lw_tbl[753]? = some (.code me_123.1 me_123.2.1 me_123.2.2.1 me_123.2.2.2.1) := rfl
set_option maxRecDepth 100000 in
theorem ck_124 : chkE me_124 = true := by decide +kernel
set_option maxRecDepth 100000 in
theorem cw_124 : lw_tbl[921]? = some (.code me_124.1 me_124.2.1 me_124.2.2.1 me_124.2.2.2.1) := rfl
set_option maxRecDepth 100000 in
theorem ck_125 : chkE me_125 = true := by decide +kernel
set_option maxRecDepth 100000 in
theorem cw_125 : lw_tbl[882]? = some (.code me_125.1 me_125.2.1 me_125.2.2.1 me_125.2.2.2.1) := rfl
set_option maxRecDepth 100000 in
theorem ck_126 : chkE me_126 = true := by decide +kernel
set_option maxRecDepth 100000 in
theorem cw_126 : lw_tbl[878]? = some (.code me_126.1 me_126.2.1 me_126.2.2.1 me_126.2.2.2.1) := rfl
set_option maxRecDepth 100000 in
theorem ck_127 : chkE me_127 = true := by decide +kernel
set_option maxRecDepth 100000 in
theorem cw_127 : lw_tbl[886]? = some (.code me_127.1 me_127.2.1 me_127.2.2.1 me_127.2.2.2.1) := rfl
set_option maxRecDepth 100000 in
theorem ck_128 : chkE me_128 = true := by decide +kernel
set_option maxRecDepth 100000 in
theorem cw_128 : lw_tbl[874]? = some (.code me_128.1 me_128.2.1 me_128.2.2.1 me_128.2.2.2.1) := rfl
set_option maxRecDepth 100000 in
theorem ck_129 : chkE me_129 = true := by decide +kernel
set_option maxRecDepth 100000 in
theorem cw_129 : lw_tbl[782]? = some (.code me_129.1 me_129.2.1 me_129.2.2.1 me_129.2.2.2.1) := rfl
set_option maxRecDepth 100000 in
theorem ck_130 : chkE me_130 = true := by decide +kernel
set_option maxRecDepth 100000 in
theorem cw_130 : lw_tbl[766]? = some (.code me_130.1 me_130.2.1 me_130.2.2.1 me_130.2.2.2.1) := rfl
set_option maxRecDepth 100000 in
theorem ck_131 : chkE me_131 = true := by decide +kernel
set_option maxRecDepth 100000 in
theorem cw_131 : lw_tbl[914]? = some (.code me_131.1 me_131.2.1 me_131.2.2.1 me_131.2.2.2.1) := rfl
set_option maxRecDepth 100000 in
theorem ck_132 : chkE me_132 = true := by decide +kernel
set_option maxRecDepth 100000 in
theorem cw_132 : lw_tbl[870]? = some (.code me_132.1 me_132.2.1 me_132.2.2.1 me_132.2.2.2.1) := rfl
set_option maxRecDepth 100000 in
theorem ck_133 : chkE me_133 = true := by decide +kernel
set_option maxRecDepth 100000 in
theorem cw_133 : lw_tbl[890]? = some (.code me_133.1 me_133.2.1 me_133.2.2.1 me_133.2.2.2.1) := rfl
set_option maxRecDepth 100000 in
theorem ck_134 : chkE me_134 = true := by decide +kernel
set_option maxRecDepth 100000 in
theorem cw_134 : lw_tbl[894]? = some (.code me_134.1 me_134.2.1 me_134.2.2.1 me_134.2.2.2.1) := rfl
set_option maxRecDepth 100000 in
theorem ck_135 : chkE me_135 = true := by decide +kernel
set_option maxRecDepth 100000 in
theorem cw_135 : lw_tbl[898]? = some (.code me_135.1 me_135.2.1 me_135.2.2.1 me_135.2.2.2.1) := rfl
set_option maxRecDepth 100000 in
theorem ck_136 : chkE me_136 = true := by decide +kernel
set_option maxRecDepth 100000 in
theorem cw_136 : lw_tbl[902]? = some (.code me_136.1 me_136.2.1 me_136.2.2.1 me_136.2.2.2.1) := rfl
