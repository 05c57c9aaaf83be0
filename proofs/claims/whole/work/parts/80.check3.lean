set_option maxRecDepth 100000 in
theorem ck_137 : chkE me_137 = true := by decide +kernel
set_option maxRecDepth 100000 in
theorem cw_137 : lw_tbl[906]? = some (.code me_137.1 me_137.2.1 me_137.2.2.1 me_137.2.2.2.1) := rfl
set_option maxRecDepth 100000 in
theorem ck_138 : chkE me_138 = true := by decide +kernel
set_option maxRecDepth 100000 in
theorem cw_138 : lw_tbl[918]? = some (.code me_138.1 me_138.2.1 me_138.2.2.1 me_138.2.2.2.1) := rfl
set_option maxRecDepth 100000 in
theorem ck_139 : chkE me_139 = true := by decide +kernel
set_option maxRecDepth 100000 in
theorem cw_139 : lw_tbl[745]? = some (.code me_139.1 me_139.2.1 me_139.2.2.1 me_139.2.2.2.1) := rfl
set_option maxRecDepth 100000 in
theorem ck_140 : chkE me_140 = true := by decide +kernel
set_option maxRecDepth 100000 in
theorem cw_140 : lw_tbl[925]? = some (.code me_140.1 me_140.2.1 me_140.2.2.1 me_140.2.2.2.1) := rfl
set_option maxRecDepth 100000 in
theorem ck_141 : chkE me_141 = true := by decide +kernel
set_option maxRecDepth 100000 in
theorem cw_141 : lw_tbl[938]? = some (.code me_141.1 me_141.2.1 me_141.2.2.1 me_141.2.2.2.1) := rfl
set_option maxRecDepth 100000 in
theorem ck_142 : chkE me_142 = true := by decide +kernel
set_option maxRecDepth 100000 in
theorem cw_142 : lw_tbl[933]? = some (.code me_142.1 me_142.2.1 me_142.2.2.1 me_142.2.2.2.1) := rfl
set_option maxRecDepth 100000 in
theorem ck_143 : chkE me_143 = true := by decide +kernel
set_option maxRecDepth 100000 in
theorem cw_143 : lw_tbl[942]? = some (.code me_143.1 me_143.2.1 me_143.2.2.1 me_143.2.2.2.1) := rfl
set_option maxRecDepth 100000 in
theorem ck_144 : chkE me_144 = true := by decide +kernel
set_option maxRecDepth 100000 in
theorem cw_144 : lw_tbl[950]? = some (.code me_144.1 me_144.2.1 me_144.2.2.1 me_144.2.2.2.1) := rfl
set_option maxRecDepth 100000 in
theorem ck_145 : chkE me_145 = true := by decide +kernel
set_option maxRecDepth 100000 in
theorem cw_145 : lw_tbl[954]? = some (.code me_145.1 me_145.2.1 me_145.2.2.1 me_145.2.2.2.1) := rfl
set_option maxRecDepth 100000 in
theorem ck_146 : chkE me_146 = true := by decide +kernel
set_option maxRecDepth 100000 in
theorem cw_146 : lw_tbl[960]? = some (.code me_146.1 me_146.2.1 me_146.2.2.1 me_146.2.2.2.1) := rfl
set_option maxRecDepth 100000 in
theorem ck_147 : chkE me_147 = true := by decide +kernel
set_option maxRecDepth 100000 in
theorem cw_147 : lw_tbl[946]? = some (.code me_147.1 me_147.2.1 me_147.2.2.1 me_147.2.2.2.1) := rfl
set_option maxRecDepth 100000 in
theorem ck_148 : chkE me_148 = true := by decide +kernel
set_option maxRecDepth 100000 in
theorem cw_148 : lw_tbl[964]? = some (.code me_148.1 me_148.2.1 me_148.2.2.1 me_148.2.2.2.1) := rfl
set_option maxRecDepth 100000 in
theorem ck_149 : chkE me_149 = true := by decide +kernel
set_option maxRecDepth 100000 in
theorem cw_149 : lw_tbl[968]? = some (.code me_149.1 me_149.2.1 me_149.2.2.1 me_149.2.2.2.1) := rfl
set_option maxRecDepth 100000 in
theorem ck_150 : chkE me_150 = true := by decide +kernel
set_option maxRecDepth 100000 in
theorem cw_150 : lw_tbl[972]? = some (.code me_150.1 me_150.2.1 me_150.2.2.1 me_150.2.2.2.1) := rfl
set_option maxRecDepth 100000 in
theorem ck_151 : chkE me_151 = true := by decide +kernel
set_option maxRecDepth 100000 in
theorem cw_151 : lw_tbl[976]? = some (.code me_151.1 me_151.2.1 me_151.2.2.1 me_151.2.2.2.1) := rfl
set_option maxRecDepth 100000 in
theorem ck_152 : chkE me_152 = true := by decide +kernel
set_option maxRecDepth 100000 in
theorem cw_152 : lw_tbl[980]? = some (.code me_152.1 me_152.2.1 me_152.2.2.1 me_152.2.2.2.1) := rfl
set_option maxRecDepth 100000 in
theorem ck_153 : chkE me_153 = true := by decide +kernel
set_option maxRecDepth 100000 in
theorem cw_153 : lw_tbl[984]? = some (.code me_153.1 me_153.2.1 me_153.2.2.1 me_153.2.2.2.1) := rfl
set_option maxRecDepth 100000 in
theorem ck_154 : chkE me_154 = true := by decide +kernel
set_option maxRecDepth 100000 in
theorem cw_154 : lw_tbl[996]? = some (.code me_154.1 me_154.2.1 me_154.2.2.1 me_154.2.2.2.1) := rfl
set_option maxRecDepth 100000 in
theorem ck_155 : chkE me_155 = true := by decide +kernel
set_option maxRecDepth 100000 in
theorem cw_155 : lw_tbl[992]? = some (.code me_155.1 me_155.2.1 me_155.2.2.1 me_155.2.2.2.1) := rfl
set_option maxRecDepth 100000 in
theorem ck_156 : chkE me_156 = true := by decide +kernel
set_option maxRecDepth 100000 in
theorem cw_156 : lw_tbl[988]? = some (.code me_156.1 me_156.2.1 me_156.2.2.1 me_156.2.2.2.1) := rfl
set_option maxRecDepth 100000 in
theorem ck_157 : chkE me_157 = true := by decide +kernel
set_option maxRecDepth 100000 in
theorem cw_157 : lw_tbl[1000]? = some (.code me_157.1 me_157.2.1 me_157.2.2.1 me_157.2.2.2.1) := rfl
set_option maxRecDepth 100000 in
theorem ck_158 : chkE me_158 = true := by decide +kernel
set_option maxRecDepth 100000 in
theorem cw_158 : lw_tbl[1004]? = some (.code me_158.1 me_158.2.1 me_158.2.2.1 me_158.2.2.2.1) := rfl
set_option maxRecDepth 100000 in
theorem ck_159 : chkE me_159 = true := by decide +kernel
set_option maxRecDepth 100000 in
theorem cw_159 : lw_tbl[1008]? = some (.code me_159.1 me_159.2.1 me_159.2.2.1 me_159.2.2.2.1) := rfl
set_option maxRecDepth 100000 in
theorem ck_160 : chkE me_160 = true := by decide +kernel
set_option maxRecDepth 100000 in
theorem cw_160 : lw_tbl[1012]? = some (.code me_160.1 me_160.2.1 me_160.2.2.1 me_160.2.2.2.1) := rfl
set_option maxRecDepth 100000 in
theorem ck_161 : chkE me_161 = true := by decide +kernel
set_option maxRecDepth 100000 in
theorem cw_161 : lw_tbl[1016]? = some (.code me_161.1 me_161.2.1 me_161.2.2.1 me_161.2.2.2.1) := rfl
set_option maxRecDepth 100000 in
theorem ck_162 : chkE me_162 = true := by decide +kernel
set_option maxRecDepth 100000 in
theorem cw_162 : lw_tbl[389]? = some (.code me_162.1 me_162.2.1 me_162.2.2.1 me_162.2.2.2.1) := rfl
set_option maxRecDepth 100000 in
theorem ck_163 : chkE me_163 = true := by decide +kernel
set_option maxRecDepth 100000 in
theorem cw_163 : lw_tbl[393]? = some (.code me_163.1 me_163.2.1 me_163.2.2.1 me_163.2.2.2.1) := rfl
set_option maxRecDepth 100000 in
theorem ck_164 : chkE me_164 = true := by decide +kernel
set_option maxRecDepth 100000 in
theorem cw_164 : lw_tbl[271]? = some (.code me_164.1 me_164.2.1 me_164.2.2.1 me_164.2.2.2.1) := rfl
set_option maxRecDepth 100000 in
theorem ck_165 : chkE me_165 = true := by decide +kernel
set_option maxRecDepth 100000 in
theorem ck_166 : chkE me_166 = true := by decide +kernel
set_option maxRecDepth 100000 in
theorem ck_167 : chkE me_167 = true := by decide +kernel
set_option maxRecDepth 100000 in
theorem ck_168 : chkE me_168 = true := by decide +kernel
