set_option maxRecDepth 100000 in
theorem ck_0 : chkE me_0 = true := by decide +kernel
set_option maxRecDepth 100000 in
theorem cw_0 : lw_tbl[117]? = some (.code me_0.1 me_0.2.1 me_0.2.2.1 me_0.2.2.2.1) := rfl
set_option maxRecDepth 100000 in
theorem ck_1 : chkE me_1 = true := by decide +kernel
set_option maxRecDepth 100000 in
theorem cw_1 : lw_tbl[605]? = some (.code me_1.1 me_1.2.1 me_1.2.2.1 me_1.2.2.2.1) := rfl
set_option maxRecDepth 100000 in
theorem ck_2 : chkE me_2 = true := by decide +kernel
set_option maxRecDepth 100000 in
theorem cw_2 : lw_tbl[612]? = some (.code me_2.1 me_2.2.1 me_2.2.2.1 me_2.2.2.2.1) := rfl
set_option maxRecDepth 100000 in
theorem ck_3 : chkE me_3 = true := by decide +kernel
set_option maxRecDepth 100000 in
theorem cw_3 : lw_tbl[627]? = some (.code me_3.1 me_3.2.1 me_3.2.2.1 me_3.2.2.2.1) := rfl
set_option maxRecDepth 100000 in
theorem ck_4 : chkE me_4 = true := by decide +kernel
set_option maxRecDepth 100000 in
theorem cw_4 : lw_tbl[640]? = some (.code me_4.1 me_4.2.1 me_4.2.2.1 me_4.2.2.2.1) := rfl
set_option maxRecDepth 100000 in
theorem ck_5 : chkE me_5 = true := by decide +kernel
set_option maxRecDepth 100000 in
theorem cw_5 : lw_tbl[643]? = some (.code me_5.1 me_5.2.1 me_5.2.2.1 me_5.2.2.2.1) := rfl
set_option maxRecDepth 100000 in
theorem ck_6 : chkE me_6 = true := by decide +kernel
set_option maxRecDepth 100000 in
theorem cw_6 : lw_tbl[141]? = some (.code me_6.1 me_6.2.1 me_6.2.2.1 me_6.2.2.2.1) := rfl
set_option maxRecDepth 100000 in
theorem ck_7 : chkE me_7 = true := by decide +kernel
set_option maxRecDepth 100000 in
theorem cw_7 : lw_tbl[296]? = some (.code me_7.1 me_7.2.1 me_7.2.2.1 me_7.2.2.2.1) := rfl
set_option maxRecDepth 100000 in
theorem ck_8 : chkE me_8 = true := by decide +kernel
set_option maxRecDepth 100000 in
theorem cw_8 : lw_tbl[524]? = some (.code me_8.1 me_8.2.1 me_8.2.2.1 me_8.2.2.2.1) := rfl
set_option maxRecDepth 100000 in
theorem ck_9 : chkE me_9 = true := by decide +kernel
set_option maxRecDepth 100000 in
theorem cw_9 : lw_tbl[543]? = some (.code me_9.1 me_9.2.1 me_9.2.2.1 me_9.2.2.2.1) := rfl
set_option maxRecDepth 100000 in
theorem ck_10 : chkE me_10 = true := by decide +kernel
set_option maxRecDepth 100000 in
theorem cw_10 : lw_tbl[419]? = some (.code me_10.1 me_10.2.1 me_10.2.2.1 me_10.2.2.2.1) := rfl
set_option maxRecDepth 100000 in
theorem ck_11 : chkE me_11 = true := by decide +kernel
set_option maxRecDepth 100000 in
theorem cw_11 : lw_tbl[570]? = some (.code me_11.1 me_11.2.1 me_11.2.2.1 me_11.2.2.2.1) := rfl
set_option maxRecDepth 100000 in
theorem ck_12 : chkE me_12 = true := by decide +kernel
set_option maxRecDepth 100000 in
theorem cw_12 : lw_tbl[574]? = some (.code me_12.1 me_12.2.1 me_12.2.2.1 me_12.2.2.2.1) := rfl
set_option maxRecDepth 100000 in
theorem ck_13 : chkE me_13 = true := by decide +kernel
set_option maxRecDepth 100000 in
theorem cw_13 : lw_tbl[582]? = some (.code me_13.1 me_13.2.1 me_13.2.2.1 me_13.2.2.2.1) := rfl
set_option maxRecDepth 100000 in
theorem ck_14 : chkE me_14 = true := by decide +kernel
set_option maxRecDepth 100000 in
theorem cw_14 : lw_tbl[280]? = some (.code me_14.1 me_14.2.1 me_14.2.2.1 me_14.2.2.2.1) := rfl
set_option maxRecDepth 100000 in
theorem ck_15 : chkE me_15 = true := by decide +kernel
set_option maxRecDepth 100000 in
theorem cw_15 : lw_tbl[520]? = some (.code me_15.1 me_15.2.1 me_15.2.2.1 me_15.2.2.2.1) := rfl
set_option maxRecDepth 100000 in
theorem ck_16 : chkE me_16 = true := by decide +kernel
set_option maxRecDepth 100000 in
theorem cw_16 : lw_tbl[292]? = some (.code me_16.1 me_16.2.1 me_16.2.2.1 me_16.2.2.2.1) := rfl
set_option maxRecDepth 100000 in
theorem ck_17 : chkE me_17 = true := by decide +kernel
set_option maxRecDepth 100000 in
theorem cw_17 : lw_tbl[467]? = some (.code me_17.1 me_17.2.1 me_17.2.2.1 me_17.2.2.2.1) := rfl
set_option maxRecDepth 100000 in
theorem ck_18 : chkE me_18 = true := by decide +kernel
set_option maxRecDepth 100000 in
theorem cw_18 : lw_tbl[471]? = some (.code me_18.1 me_18.2.1 me_18.2.2.1 me_18.2.2.2.1) := rfl
set_option maxRecDepth 100000 in
theorem ck_19 : chkE me_19 = true := by decide +kernel
set_option maxRecDepth 100000 in
theorem cw_19 : lw_tbl[479]? = some (.code me_19.1 me_19.2.1 me_19.2.2.1 me_19.2.2.2.1) := rfl
set_option maxRecDepth 100000 in
theorem ck_20 : chkE me_20 = true := by decide +kernel
set_option maxRecDepth 100000 in
theorem cw_20 : lw_tbl[475]? = some (.code me_20.1 me_20.2.1 me_20.2.2.1 me_20.2.2.2.1) := rfl
set_option maxRecDepth 100000 in
theorem ck_21 : chkE me_21 = true := by decide +kernel
set_option maxRecDepth 100000 in
theorem cw_21 : lw_tbl[444]? = some (.code me_21.1 me_21.2.1 me_21.2.2.1 me_21.2.2.2.1) := rfl
set_option maxRecDepth 100000 in
theorem ck_22 : chkE me_22 = true := by decide +kernel
set_option maxRecDepth 100000 in
theorem cw_22 : lw_tbl[440]? = some (.code me_22.1 me_22.2.1 me_22.2.2.1 me_22.2.2.2.1) := rfl
set_option maxRecDepth 100000 in
theorem ck_23 : chkE me_23 = true := by decide +kernel
set_option maxRecDepth 100000 in
theorem cw_23 : lw_tbl[483]? = some (.code me_23.1 me_23.2.1 me_23.2.2.1 me_23.2.2.2.1) := rfl
set_option maxRecDepth 100000 in
theorem ck_24 : chkE me_24 = true := by decide +kernel
set_option maxRecDepth 100000 in
theorem cw_24 : lw_tbl[401]? = some (.code me_24.1 me_24.2.1 me_24.2.2.1 me_24.2.2.2.1) := rfl
set_option maxRecDepth 100000 in
theorem ck_25 : chkE me_25 = true := by decide +kernel
set_option maxRecDepth 100000 in
theorem cw_25 : lw_tbl[415]? = some (.code me_25.1 me_25.2.1 me_25.2.2.1 me_25.2.2.2.1) := rfl
set_option maxRecDepth 100000 in
theorem ck_26 : chkE me_26 = true := by decide +kernel
set_option maxRecDepth 100000 in
theorem cw_26 : lw_tbl[427]? = some (.code me_26.1 me_26.2.1 me_26.2.2.1 me_26.2.2.2.1) := rfl
set_option maxRecDepth 100000 in
theorem ck_27 : chkE me_27 = true := by decide +kernel
set_option maxRecDepth 100000 in
theorem cw_27 : lw_tbl[431]? = some (.code me_27.1 me_27.2.1 me_27.2.2.1 me_27.2.2.2.1) := rfl
set_option maxRecDepth 100000 in
theorem ck_28 : chkE me_28 = true := by decide +kernel
set_option maxRecDepth 100000 in
theorem cw_28 : lw_tbl[436]? = some (.code me_28.1 me_28.2.1 me_28.2.2.1 me_28.2.2.2.1) := rfl
set_option maxRecDepth 100000 in
theorem ck_29 : chkE me_29 = true := by decide +kernel
set_option maxRecDepth 100000 in
theorem cw_29 : lw_tbl[449]? = some (.code me_29.1 me_29.2.1 me_29.2.2.1 me_29.2.2.2.1) := rfl
set_option maxRecDepth 100000 in
theorem ck_30 : chkE me_30 = true := by decide +kernel
set_option maxRecDepth 100000 in
theorem cw_30 : lw_tbl[454]? = some (.code me_30.1 me_30.2.1 me_30.2.2.1 me_30.2.2.2.1) := rfl
set_option maxRecDepth 100000 in
theorem ck_31 : chkE me_31 = true := by decide +kernel
set_option maxRecDepth 100000 in
theorem cw_31 : lw_tbl[459]? = some (.code me_31.1 me_31.2.1 me_31.2.2.1 me_31.2.2.2.1) := rfl
set_option maxRecDepth 100000 in
theorem ck_32 : chkE me_32 = true := by decide +kernel
set_option maxRecDepth 100000 in
theorem cw_32 : lw_tbl[463]? = some (.code me_32.1 me_32.2.1 me_32.2.2.1 me_32.2.2.2.1) := rfl
set_option maxRecDepth 100000 in
theorem ck_33 : chkE me_33 = true := by decide +kernel
set_option maxRecDepth 100000 in
theorem cw_33 : lw_tbl[99]? = some (.code me_33.1 me_33.2.1 me_33.2.2.1 me_33.2.2.2.1) := rfl
set_option maxRecDepth 100000 in
theorem ck_34 : chkE me_34 = true := by decide +kernel
set_option maxRecDepth 100000 in
theorem cw_34 : lw_tbl[409]? = some (.code me_34.1 me_34.2.1 me_34.2.2.1 me_34.2.2.2.1) := rfl
set_option maxRecDepth 100000 in
theorem ck_35 : chkE me_35 = true := by decide +kernel
set_option maxRecDepth 100000 in
theorem cw_35 : lw_tbl[284]? = some (.code me_35.1 me_35.2.1 me_35.2.2.1 me_35.2.2.2.1) := rfl
set_option maxRecDepth 100000 in
theorem ck_36 : chkE me_36 = true := by decide +kernel
set_option maxRecDepth 100000 in
theorem cw_36 : lw_tbl[288]? = some (.code me_36.1 me_36.2.1 me_36.2.2.1 me_36.2.2.2.1) := rfl
set_option maxRecDepth 100000 in
theorem ck_37 : chkE me_37 = true := by decide +kernel
set_option maxRecDepth 100000 in
theorem cw_37 : lw_tbl[405]? = some (.code me_37.1 me_37.2.1 me_37.2.2.1 me_37.2.2.2.1) := rfl
set_option maxRecDepth 100000 in
theorem ck_38 : chkE me_38 = true := by decide +kernel
set_option maxRecDepth 100000 in
theorem cw_38 : lw_tbl[499]? = some (.code me_38.1 me_38.2.1 me_38.2.2.1 me_38.2.2.2.1) := rfl
set_option maxRecDepth 100000 in
theorem ck_39 : chkE me_39 = true := by decide +kernel
set_option maxRecDepth 100000 in
theorem cw_39 : lw_tbl[664]? = some (.code me_39.1 me_39.2.1 me_39.2.2.1 me_39.2.2.2.1) := rfl
set_option maxRecDepth 100000 in
theorem ck_40 : chkE me_40 = true := by decide +kernel
set_option maxRecDepth 100000 in
theorem cw_40 : lw_tbl[495]? = some (.code me_40.1 me_40.2.1 me_40.2.2.1 me_40.2.2.2.1) := rfl
set_option maxRecDepth 100000 in
theorem ck_41 : chkE me_41 = true := by decide +kernel
set_option maxRecDepth 100000 in
theorem cw_41 : lw_tbl[507]? = some (.code me_41.1 me_41.2.1 me_41.2.2.1 me_41.2.2.2.1) := rfl
set_option maxRecDepth 100000 in
theorem ck_42 : chkE me_42 = true := by decide +kernel
set_option maxRecDepth 100000 in
theorem cw_42 : lw_tbl[512]? = some (.code me_42.1 me_42.2.1 me_42.2.2.1 me_42.2.2.2.1) := rfl
set_option maxRecDepth 100000 in
theorem ck_43 : chkE me_43 = true := by decide +kernel
set_option maxRecDepth 100000 in
theorem cw_43 : lw_tbl[147]? = some (.code me_43.1 me_43.2.1 me_43.2.2.1 me_43.2.2.2.1) := rfl
set_option maxRecDepth 100000 in
theorem ck_44 : chkE me_44 = true := by decide +kernel
set_option maxRecDepth 100000 in
theorem cw_44 : lw_tbl[265]? = some (.code me_44.1 me_44.2.1 me_44.2.2.1 me_44.2.2.2.1) := rfl
set_option maxRecDepth 100000 in
theorem ck_45 : chkE me_45 = true := by decide +kernel
set_option maxRecDepth 100000 in
theorem cw_45 : lw_tbl[276]? = some (.code me_45.1 me_45.2.1 me_45.2.2.1 me_45.2.2.2.1) := rfl
set_option maxRecDepth 100000 in
theorem ck_46 : chkE me_46 = true := by decide +kernel
set_option maxRecDepth 100000 in
theorem cw_46 : lw_tbl[300]? = some (.code me_46.1 me_46.2.1 me_46.2.2.1 me_46.2.2.2.1) := rfl
