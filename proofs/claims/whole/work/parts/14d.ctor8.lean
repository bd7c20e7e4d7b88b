def qB0 : St := alc qA33 8 0
theorem qB0_o : Obj qB0 8 38 := ⟨by decide +kernel, by decide +kernel⟩
theorem qB0_s : sn qB0 = 39 := by decide +kernel
def qB1 : St := alc qB0 10 7
theorem qB1_o : Obj qB1 8 38 := by unfold qB1; exact alc_ob qB0_o
def qB2 : St := pR qB1 38 1 (some 39)
theorem qB2_o : Obj qB2 8 38 := by unfold qB2; exact pR_ob qB1_o
theorem qB2_s : sn qB2 = 40 := by decide +kernel
def qB3 : St := alc qB2 10 5627
theorem qB3_o : Obj qB3 8 38 := by unfold qB3; exact alc_ob qB2_o
def qB4 : St := pR qB3 38 2 (some 40)
theorem qB4_o : Obj qB4 8 38 := by unfold qB4; exact pR_ob qB3_o
theorem qB4_s : sn qB4 = 41 := by decide +kernel
def qB5 : St := alc qB4 10 11254
theorem qB5_o : Obj qB5 8 38 := by unfold qB5; exact alc_ob qB4_o
def qB6 : St := pR qB5 38 3 (some 41)
theorem qB6_o : Obj qB6 8 38 := by unfold qB6; exact pR_ob qB5_o
theorem qB6_s : sn qB6 = 42 := by decide +kernel
def qB7 : St := alc qB6 12 2
theorem qB7_o : Obj qB7 8 38 := by unfold qB7; exact alc_ob qB6_o
def qB8 : St := pR qB7 38 4 (some 42)
theorem qB8_o : Obj qB8 8 38 := by unfold qB8; exact pR_ob qB7_o
theorem qB8_s : sn qB8 = 43 := by decide +kernel
def qB9 : St := alc qB8 10 6
theorem qB9_o : Obj qB9 8 38 := by unfold qB9; exact alc_ob qB8_o
def qB10 : St := pR qB9 38 5 (some 43)
theorem qB10_o : Obj qB10 8 38 := by unfold qB10; exact pR_ob qB9_o
theorem qB10_s : sn qB10 = 44 := by decide +kernel
def qB11 : St := alc qB10 9 121
theorem qB11_o : Obj qB11 8 38 := by unfold qB11; exact alc_ob qB10_o
theorem qB11_a44 : Arr qB11 9 121 44 := by have h : Arr (alc qB10 9 121) 9 121 (sn qB10) := alc_new; rw [qB10_s] at h; unfold qB11; exact h
def qB12 : St := pI qB11 44 0 (vp_nar .byte (98 : Int32))
theorem qB12_o : Obj qB12 8 38 := by unfold qB12; exact pI_ob qB11_o
theorem qB12_a44 : Arr qB12 9 121 44 := by unfold qB12; exact pI_ar qB11_a44
def qB13 : St := pI qB12 44 1 (vp_nar .byte (101 : Int32))
theorem qB13_o : Obj qB13 8 38 := by unfold qB13; exact pI_ob qB12_o
theorem qB13_a44 : Arr qB13 9 121 44 := by unfold qB13; exact pI_ar qB12_a44
def qB14 : St := pI qB13 44 2 (vp_nar .byte (97 : Int32))
theorem qB14_o : Obj qB14 8 38 := by unfold qB14; exact pI_ob qB13_o
theorem qB14_a44 : Arr qB14 9 121 44 := by unfold qB14; exact pI_ar qB13_a44
def qB15 : St := pI qB14 44 3 (vp_nar .byte (116 : Int32))
theorem qB15_o : Obj qB15 8 38 := by unfold qB15; exact pI_ob qB14_o
theorem qB15_a44 : Arr qB15 9 121 44 := by unfold qB15; exact pI_ar qB14_a44
def qB16 : St := pI qB15 44 4 (vp_nar .byte (115 : Int32))
theorem qB16_o : Obj qB16 8 38 := by unfold qB16; exact pI_ob qB15_o
theorem qB16_a44 : Arr qB16 9 121 44 := by unfold qB16; exact pI_ar qB15_a44
def qB17 : St := pI qB16 44 5 (vp_nar .byte (32 : Int32))
theorem qB17_o : Obj qB17 8 38 := by unfold qB17; exact pI_ob qB16_o
theorem qB17_a44 : Arr qB17 9 121 44 := by unfold qB17; exact pI_ar qB16_a44
def qB18 : St := pI qB17 44 6 (vp_nar .byte (115 : Int32))
theorem qB18_o : Obj qB18 8 38 := by unfold qB18; exact pI_ob qB17_o
theorem qB18_a44 : Arr qB18 9 121 44 := by unfold qB18; exact pI_ar qB17_a44
def qB19 : St := pI qB18 44 7 (vp_nar .byte (107 : Int32))
theorem qB19_o : Obj qB19 8 38 := by unfold qB19; exact pI_ob qB18_o
theorem qB19_a44 : Arr qB19 9 121 44 := by unfold qB19; exact pI_ar qB18_a44
def qB20 : St := pI qB19 44 8 (vp_nar .byte (105 : Int32))
theorem qB20_o : Obj qB20 8 38 := by unfold qB20; exact pI_ob qB19_o
theorem qB20_a44 : Arr qB20 9 121 44 := by unfold qB20; exact pI_ar qB19_a44
def qB21 : St := pI qB20 44 9 (vp_nar .byte (112 : Int32))
theorem qB21_o : Obj qB21 8 38 := by unfold qB21; exact pI_ob qB20_o
theorem qB21_a44 : Arr qB21 9 121 44 := by unfold qB21; exact pI_ar qB20_a44
def qB22 : St := pI qB21 44 10 (vp_nar .byte (115 : Int32))
theorem qB22_o : Obj qB22 8 38 := by unfold qB22; exact pI_ob qB21_o
theorem qB22_a44 : Arr qB22 9 121 44 := by unfold qB22; exact pI_ar qB21_a44
def qB23 : St := pI qB22 44 11 (vp_nar .byte (32 : Int32))
theorem qB23_o : Obj qB23 8 38 := by unfold qB23; exact pI_ob qB22_o
theorem qB23_a44 : Arr qB23 9 121 44 := by unfold qB23; exact pI_ar qB22_a44
def qB24 : St := pI qB23 44 12 (vp_nar .byte (116 : Int32))
theorem qB24_o : Obj qB24 8 38 := by unfold qB24; exact pI_ob qB23_o
theorem qB24_a44 : Arr qB24 9 121 44 := by unfold qB24; exact pI_ar qB23_a44
def qB25 : St := pI qB24 44 13 (vp_nar .byte (117 : Int32))
theorem qB25_o : Obj qB25 8 38 := by unfold qB25; exact pI_ob qB24_o
theorem qB25_a44 : Arr qB25 9 121 44 := by unfold qB25; exact pI_ar qB24_a44
def qB26 : St := pI qB25 44 14 (vp_nar .byte (114 : Int32))
theorem qB26_o : Obj qB26 8 38 := by unfold qB26; exact pI_ob qB25_o
theorem qB26_a44 : Arr qB26 9 121 44 := by unfold qB26; exact pI_ar qB25_a44
def qB27 : St := pI qB26 44 15 (vp_nar .byte (110 : Int32))
theorem qB27_o : Obj qB27 8 38 := by unfold qB27; exact pI_ob qB26_o
theorem qB27_a44 : Arr qB27 9 121 44 := by unfold qB27; exact pI_ar qB26_a44
def qB28 : St := pI qB27 44 16 (vp_nar .byte (115 : Int32))
theorem qB28_o : Obj qB28 8 38 := by unfold qB28; exact pI_ob qB27_o
theorem qB28_a44 : Arr qB28 9 121 44 := by unfold qB28; exact pI_ar qB27_a44
def qB29 : St := pI qB28 44 17 (vp_nar .byte (32 : Int32))
theorem qB29_o : Obj qB29 8 38 := by unfold qB29; exact pI_ob qB28_o
theorem qB29_a44 : Arr qB29 9 121 44 := by unfold qB29; exact pI_ar qB28_a44
def qB30 : St := pI qB29 44 18 (vp_nar .byte (107 : Int32))
theorem qB30_o : Obj qB30 8 38 := by unfold qB30; exact pI_ob qB29_o
theorem qB30_a44 : Arr qB30 9 121 44 := by unfold qB30; exact pI_ar qB29_a44
def qB31 : St := pI qB30 44 19 (vp_nar .byte (101 : Int32))
theorem qB31_o : Obj qB31 8 38 := by unfold qB31; exact pI_ob qB30_o
theorem qB31_a44 : Arr qB31 9 121 44 := by unfold qB31; exact pI_ar qB30_a44
def qB32 : St := pI qB31 44 20 (vp_nar .byte (101 : Int32))
theorem qB32_o : Obj qB32 8 38 := by unfold qB32; exact pI_ob qB31_o
theorem qB32_a44 : Arr qB32 9 121 44 := by unfold qB32; exact pI_ar qB31_a44
def qB33 : St := pI qB32 44 21 (vp_nar .byte (112 : Int32))
theorem qB33_o : Obj qB33 8 38 := by unfold qB33; exact pI_ob qB32_o
theorem qB33_a44 : Arr qB33 9 121 44 := by unfold qB33; exact pI_ar qB32_a44
def qB34 : St := pI qB33 44 22 (vp_nar .byte (115 : Int32))
theorem qB34_o : Obj qB34 8 38 := by unfold qB34; exact pI_ob qB33_o
theorem qB34_a44 : Arr qB34 9 121 44 := by unfold qB34; exact pI_ar qB33_a44
def qB35 : St := pI qB34 44 23 (vp_nar .byte (32 : Int32))
theorem qB35_o : Obj qB35 8 38 := by unfold qB35; exact pI_ob qB34_o
theorem qB35_a44 : Arr qB35 9 121 44 := by unfold qB35; exact pI_ar qB34_a44
def qB36 : St := pI qB35 44 24 (vp_nar .byte (105 : Int32))
theorem qB36_o : Obj qB36 8 38 := by unfold qB36; exact pI_ob qB35_o
theorem qB36_a44 : Arr qB36 9 121 44 := by unfold qB36; exact pI_ar qB35_a44
def qB37 : St := pI qB36 44 25 (vp_nar .byte (102 : Int32))
theorem qB37_o : Obj qB37 8 38 := by unfold qB37; exact pI_ob qB36_o
theorem qB37_a44 : Arr qB37 9 121 44 := by unfold qB37; exact pI_ar qB36_a44
def qB38 : St := pI qB37 44 26 (vp_nar .byte (32 : Int32))
theorem qB38_o : Obj qB38 8 38 := by unfold qB38; exact pI_ob qB37_o
theorem qB38_a44 : Arr qB38 9 121 44 := by unfold qB38; exact pI_ar qB37_a44
def qB39 : St := pI qB38 44 27 (vp_nar .byte (111 : Int32))
theorem qB39_o : Obj qB39 8 38 := by unfold qB39; exact pI_ob qB38_o
theorem qB39_a44 : Arr qB39 9 121 44 := by unfold qB39; exact pI_ar qB38_a44
def qB40 : St := pI qB39 44 28 (vp_nar .byte (114 : Int32))
theorem qB40_o : Obj qB40 8 38 := by unfold qB40; exact pI_ob qB39_o
theorem qB40_a44 : Arr qB40 9 121 44 := by unfold qB40; exact pI_ar qB39_a44
def qB41 : St := pI qB40 44 29 (vp_nar .byte (32 : Int32))
theorem qB41_o : Obj qB41 8 38 := by unfold qB41; exact pI_ob qB40_o
theorem qB41_a44 : Arr qB41 9 121 44 := by unfold qB41; exact pI_ar qB40_a44
def qB42 : St := pI qB41 44 30 (vp_nar .byte (97 : Int32))
theorem qB42_o : Obj qB42 8 38 := by unfold qB42; exact pI_ob qB41_o
theorem qB42_a44 : Arr qB42 9 121 44 := by unfold qB42; exact pI_ar qB41_a44
def qB43 : St := pI qB42 44 31 (vp_nar .byte (110 : Int32))
theorem qB43_o : Obj qB43 8 38 := by unfold qB43; exact pI_ob qB42_o
theorem qB43_a44 : Arr qB43 9 121 44 := by unfold qB43; exact pI_ar qB42_a44
def qB44 : St := pI qB43 44 32 (vp_nar .byte (100 : Int32))
theorem qB44_o : Obj qB44 8 38 := by unfold qB44; exact pI_ob qB43_o
theorem qB44_a44 : Arr qB44 9 121 44 := by unfold qB44; exact pI_ar qB43_a44
def qB45 : St := pI qB44 44 33 (vp_nar .byte (32 : Int32))
theorem qB45_o : Obj qB45 8 38 := by unfold qB45; exact pI_ob qB44_o
theorem qB45_a44 : Arr qB45 9 121 44 := by unfold qB45; exact pI_ar qB44_a44
def qB46 : St := pI qB45 44 34 (vp_nar .byte (110 : Int32))
theorem qB46_o : Obj qB46 8 38 := by unfold qB46; exact pI_ob qB45_o
theorem qB46_a44 : Arr qB46 9 121 44 := by unfold qB46; exact pI_ar qB45_a44
def qB47 : St := pI qB46 44 35 (vp_nar .byte (111 : Int32))
theorem qB47_o : Obj qB47 8 38 := by unfold qB47; exact pI_ob qB46_o
theorem qB47_a44 : Arr qB47 9 121 44 := by unfold qB47; exact pI_ar qB46_a44
def qB48 : St := pI qB47 44 36 (vp_nar .byte (116 : Int32))
theorem qB48_o : Obj qB48 8 38 := by unfold qB48; exact pI_ob qB47_o
theorem qB48_a44 : Arr qB48 9 121 44 := by unfold qB48; exact pI_ar qB47_a44
def qB49 : St := pI qB48 44 37 (vp_nar .byte (32 : Int32))
theorem qB49_o : Obj qB49 8 38 := by unfold qB49; exact pI_ob qB48_o
theorem qB49_a44 : Arr qB49 9 121 44 := by unfold qB49; exact pI_ar qB48_a44
def qB50 : St := pI qB49 44 38 (vp_nar .byte (99 : Int32))
theorem qB50_o : Obj qB50 8 38 := by unfold qB50; exact pI_ob qB49_o
theorem qB50_a44 : Arr qB50 9 121 44 := by unfold qB50; exact pI_ar qB49_a44
def qB51 : St := pI qB50 44 39 (vp_nar .byte (104 : Int32))
theorem qB51_o : Obj qB51 8 38 := by unfold qB51; exact pI_ob qB50_o
theorem qB51_a44 : Arr qB51 9 121 44 := by unfold qB51; exact pI_ar qB50_a44
def qB52 : St := pI qB51 44 40 (vp_nar .byte (105 : Int32))
theorem qB52_o : Obj qB52 8 38 := by unfold qB52; exact pI_ob qB51_o
theorem qB52_a44 : Arr qB52 9 121 44 := by unfold qB52; exact pI_ar qB51_a44
def qB53 : St := pI qB52 44 41 (vp_nar .byte (108 : Int32))
theorem qB53_o : Obj qB53 8 38 := by unfold qB53; exact pI_ob qB52_o
theorem qB53_a44 : Arr qB53 9 121 44 := by unfold qB53; exact pI_ar qB52_a44
def qB54 : St := pI qB53 44 42 (vp_nar .byte (100 : Int32))
theorem qB54_o : Obj qB54 8 38 := by unfold qB54; exact pI_ob qB53_o
theorem qB54_a44 : Arr qB54 9 121 44 := by unfold qB54; exact pI_ar qB53_a44
def qB55 : St := pI qB54 44 43 (vp_nar .byte (32 : Int32))
theorem qB55_o : Obj qB55 8 38 := by unfold qB55; exact pI_ob qB54_o
theorem qB55_a44 : Arr qB55 9 121 44 := by unfold qB55; exact pI_ar qB54_a44
def qB56 : St := pI qB55 44 44 (vp_nar .byte (114 : Int32))
theorem qB56_o : Obj qB56 8 38 := by unfold qB56; exact pI_ob qB55_o
theorem qB56_a44 : Arr qB56 9 121 44 := by unfold qB56; exact pI_ar qB55_a44
def qB57 : St := pI qB56 44 45 (vp_nar .byte (104 : Int32))
theorem qB57_o : Obj qB57 8 38 := by unfold qB57; exact pI_ob qB56_o
theorem qB57_a44 : Arr qB57 9 121 44 := by unfold qB57; exact pI_ar qB56_a44
def qB58 : St := pI qB57 44 46 (vp_nar .byte (121 : Int32))
theorem qB58_o : Obj qB58 8 38 := by unfold qB58; exact pI_ob qB57_o
theorem qB58_a44 : Arr qB58 9 121 44 := by unfold qB58; exact pI_ar qB57_a44
def qB59 : St := pI qB58 44 47 (vp_nar .byte (109 : Int32))
theorem qB59_o : Obj qB59 8 38 := by unfold qB59; exact pI_ob qB58_o
theorem qB59_a44 : Arr qB59 9 121 44 := by unfold qB59; exact pI_ar qB58_a44
def qB60 : St := pI qB59 44 48 (vp_nar .byte (101 : Int32))
theorem qB60_o : Obj qB60 8 38 := by unfold qB60; exact pI_ob qB59_o
theorem qB60_a44 : Arr qB60 9 121 44 := by unfold qB60; exact pI_ar qB59_a44
def qB61 : St := pI qB60 44 49 (vp_nar .byte (32 : Int32))
theorem qB61_o : Obj qB61 8 38 := by unfold qB61; exact pI_ob qB60_o
theorem qB61_a44 : Arr qB61 9 121 44 := by unfold qB61; exact pI_ar qB60_a44
def qB62 : St := pI qB61 44 50 (vp_nar .byte (98 : Int32))
theorem qB62_o : Obj qB62 8 38 := by unfold qB62; exact pI_ob qB61_o
theorem qB62_a44 : Arr qB62 9 121 44 := by unfold qB62; exact pI_ar qB61_a44
def qB63 : St := pI qB62 44 51 (vp_nar .byte (101 : Int32))
theorem qB63_o : Obj qB63 8 38 := by unfold qB63; exact pI_ob qB62_o
theorem qB63_a44 : Arr qB63 9 121 44 := by unfold qB63; exact pI_ar qB62_a44
def qB64 : St := pI qB63 44 52 (vp_nar .byte (97 : Int32))
theorem qB64_o : Obj qB64 8 38 := by unfold qB64; exact pI_ob qB63_o
theorem qB64_a44 : Arr qB64 9 121 44 := by unfold qB64; exact pI_ar qB63_a44
def qB65 : St := pI qB64 44 53 (vp_nar .byte (116 : Int32))
theorem qB65_o : Obj qB65 8 38 := by unfold qB65; exact pI_ob qB64_o
theorem qB65_a44 : Arr qB65 9 121 44 := by unfold qB65; exact pI_ar qB64_a44
def qB66 : St := pI qB65 44 54 (vp_nar .byte (32 : Int32))
theorem qB66_o : Obj qB66 8 38 := by unfold qB66; exact pI_ob qB65_o
theorem qB66_a44 : Arr qB66 9 121 44 := by unfold qB66; exact pI_ar qB65_a44
def qB67 : St := pI qB66 44 55 (vp_nar .byte (109 : Int32))
theorem qB67_o : Obj qB67 8 38 := by unfold qB67; exact pI_ob qB66_o
theorem qB67_a44 : Arr qB67 9 121 44 := by unfold qB67; exact pI_ar qB66_a44
def qB68 : St := pI qB67 44 56 (vp_nar .byte (111 : Int32))
theorem qB68_o : Obj qB68 8 38 := by unfold qB68; exact pI_ob qB67_o
theorem qB68_a44 : Arr qB68 9 121 44 := by unfold qB68; exact pI_ar qB67_a44
def qB69 : St := pI qB68 44 57 (vp_nar .byte (111 : Int32))
theorem qB69_o : Obj qB69 8 38 := by unfold qB69; exact pI_ob qB68_o
theorem qB69_a44 : Arr qB69 9 121 44 := by unfold qB69; exact pI_ar qB68_a44
def qB70 : St := pI qB69 44 58 (vp_nar .byte (100 : Int32))
theorem qB70_o : Obj qB70 8 38 := by unfold qB70; exact pI_ob qB69_o
theorem qB70_a44 : Arr qB70 9 121 44 := by unfold qB70; exact pI_ar qB69_a44
def qB71 : St := pI qB70 44 59 (vp_nar .byte (32 : Int32))
theorem qB71_o : Obj qB71 8 38 := by unfold qB71; exact pI_ob qB70_o
theorem qB71_a44 : Arr qB71 9 121 44 := by unfold qB71; exact pI_ar qB70_a44
def qB72 : St := pI qB71 44 60 (vp_nar .byte (113 : Int32))
theorem qB72_o : Obj qB72 8 38 := by unfold qB72; exact pI_ob qB71_o
theorem qB72_a44 : Arr qB72 9 121 44 := by unfold qB72; exact pI_ar qB71_a44
def qB73 : St := pI qB72 44 61 (vp_nar .byte (117 : Int32))
theorem qB73_o : Obj qB73 8 38 := by unfold qB73; exact pI_ob qB72_o
theorem qB73_a44 : Arr qB73 9 121 44 := by unfold qB73; exact pI_ar qB72_a44
def qB74 : St := pI qB73 44 62 (vp_nar .byte (105 : Int32))
theorem qB74_o : Obj qB74 8 38 := by unfold qB74; exact pI_ob qB73_o
theorem qB74_a44 : Arr qB74 9 121 44 := by unfold qB74; exact pI_ar qB73_a44
def qB75 : St := pI qB74 44 63 (vp_nar .byte (99 : Int32))
theorem qB75_o : Obj qB75 8 38 := by unfold qB75; exact pI_ob qB74_o
theorem qB75_a44 : Arr qB75 9 121 44 := by unfold qB75; exact pI_ar qB74_a44
def qB76 : St := pI qB75 44 64 (vp_nar .byte (107 : Int32))
theorem qB76_o : Obj qB76 8 38 := by unfold qB76; exact pI_ob qB75_o
theorem qB76_a44 : Arr qB76 9 121 44 := by unfold qB76; exact pI_ar qB75_a44
def qB77 : St := pI qB76 44 65 (vp_nar .byte (32 : Int32))
theorem qB77_o : Obj qB77 8 38 := by unfold qB77; exact pI_ob qB76_o
theorem qB77_a44 : Arr qB77 9 121 44 := by unfold qB77; exact pI_ar qB76_a44
def qB78 : St := pI qB77 44 66 (vp_nar .byte (109 : Int32))
theorem qB78_o : Obj qB78 8 38 := by unfold qB78; exact pI_ob qB77_o
theorem qB78_a44 : Arr qB78 9 121 44 := by unfold qB78; exact pI_ar qB77_a44
def qB79 : St := pI qB78 44 67 (vp_nar .byte (97 : Int32))
theorem qB79_o : Obj qB79 8 38 := by unfold qB79; exact pI_ob qB78_o
theorem qB79_a44 : Arr qB79 9 121 44 := by unfold qB79; exact pI_ar qB78_a44
def qB80 : St := pI qB79 44 68 (vp_nar .byte (110 : Int32))
theorem qB80_o : Obj qB80 8 38 := by unfold qB80; exact pI_ob qB79_o
theorem qB80_a44 : Arr qB80 9 121 44 := by unfold qB80; exact pI_ar qB79_a44
def qB81 : St := pI qB80 44 69 (vp_nar .byte (121 : Int32))
theorem qB81_o : Obj qB81 8 38 := by unfold qB81; exact pI_ob qB80_o
theorem qB81_a44 : Arr qB81 9 121 44 := by unfold qB81; exact pI_ar qB80_a44
def qB82 : St := pI qB81 44 70 (vp_nar .byte (32 : Int32))
theorem qB82_o : Obj qB82 8 38 := by unfold qB82; exact pI_ob qB81_o
theorem qB82_a44 : Arr qB82 9 121 44 := by unfold qB82; exact pI_ar qB81_a44
def qB83 : St := pI qB82 44 71 (vp_nar .byte (114 : Int32))
theorem qB83_o : Obj qB83 8 38 := by unfold qB83; exact pI_ob qB82_o
theorem qB83_a44 : Arr qB83 9 121 44 := by unfold qB83; exact pI_ar qB82_a44
def qB84 : St := pI qB83 44 72 (vp_nar .byte (111 : Int32))
theorem qB84_o : Obj qB84 8 38 := by unfold qB84; exact pI_ob qB83_o
theorem qB84_a44 : Arr qB84 9 121 44 := by unfold qB84; exact pI_ar qB83_a44
def qB85 : St := pI qB84 44 73 (vp_nar .byte (117 : Int32))
theorem qB85_o : Obj qB85 8 38 := by unfold qB85; exact pI_ob qB84_o
theorem qB85_a44 : Arr qB85 9 121 44 := by unfold qB85; exact pI_ar qB84_a44
def qB86 : St := pI qB85 44 74 (vp_nar .byte (110 : Int32))
theorem qB86_o : Obj qB86 8 38 := by unfold qB86; exact pI_ob qB85_o
theorem qB86_a44 : Arr qB86 9 121 44 := by unfold qB86; exact pI_ar qB85_a44
def qB87 : St := pI qB86 44 75 (vp_nar .byte (100 : Int32))
theorem qB87_o : Obj qB87 8 38 := by unfold qB87; exact pI_ob qB86_o
theorem qB87_a44 : Arr qB87 9 121 44 := by unfold qB87; exact pI_ar qB86_a44
def qB88 : St := pI qB87 44 76 (vp_nar .byte (32 : Int32))
theorem qB88_o : Obj qB88 8 38 := by unfold qB88; exact pI_ob qB87_o
theorem qB88_a44 : Arr qB88 9 121 44 := by unfold qB88; exact pI_ar qB87_a44
def qB89 : St := pI qB88 44 77 (vp_nar .byte (100 : Int32))
theorem qB89_o : Obj qB89 8 38 := by unfold qB89; exact pI_ob qB88_o
theorem qB89_a44 : Arr qB89 9 121 44 := by unfold qB89; exact pI_ar qB88_a44
def qB90 : St := pI qB89 44 78 (vp_nar .byte (111 : Int32))
theorem qB90_o : Obj qB90 8 38 := by unfold qB90; exact pI_ob qB89_o
theorem qB90_a44 : Arr qB90 9 121 44 := by unfold qB90; exact pI_ar qB89_a44
def qB91 : St := pI qB90 44 79 (vp_nar .byte (110 : Int32))
theorem qB91_o : Obj qB91 8 38 := by unfold qB91; exact pI_ob qB90_o
theorem qB91_a44 : Arr qB91 9 121 44 := by unfold qB91; exact pI_ar qB90_a44
def qB92 : St := pI qB91 44 80 (vp_nar .byte (101 : Int32))
theorem qB92_o : Obj qB92 8 38 := by unfold qB92; exact pI_ob qB91_o
theorem qB92_a44 : Arr qB92 9 121 44 := by unfold qB92; exact pI_ar qB91_a44
def qB93 : St := pI qB92 44 81 (vp_nar .byte (32 : Int32))
theorem qB93_o : Obj qB93 8 38 := by unfold qB93; exact pI_ob qB92_o
theorem qB93_a44 : Arr qB93 9 121 44 := by unfold qB93; exact pI_ar qB92_a44
def qB94 : St := pI qB93 44 82 (vp_nar .byte (108 : Int32))
theorem qB94_o : Obj qB94 8 38 := by unfold qB94; exact pI_ob qB93_o
theorem qB94_a44 : Arr qB94 9 121 44 := by unfold qB94; exact pI_ar qB93_a44
def qB95 : St := pI qB94 44 83 (vp_nar .byte (97 : Int32))
theorem qB95_o : Obj qB95 8 38 := by unfold qB95; exact pI_ob qB94_o
theorem qB95_a44 : Arr qB95 9 121 44 := by unfold qB95; exact pI_ar qB94_a44
def qB96 : St := pI qB95 44 84 (vp_nar .byte (116 : Int32))
theorem qB96_o : Obj qB96 8 38 := by unfold qB96; exact pI_ob qB95_o
theorem qB96_a44 : Arr qB96 9 121 44 := by unfold qB96; exact pI_ar qB95_a44
def qB97 : St := pI qB96 44 85 (vp_nar .byte (101 : Int32))
theorem qB97_o : Obj qB97 8 38 := by unfold qB97; exact pI_ob qB96_o
theorem qB97_a44 : Arr qB97 9 121 44 := by unfold qB97; exact pI_ar qB96_a44
def qB98 : St := pI qB97 44 86 (vp_nar .byte (115 : Int32))
theorem qB98_o : Obj qB98 8 38 := by unfold qB98; exact pI_ob qB97_o
theorem qB98_a44 : Arr qB98 9 121 44 := by unfold qB98; exact pI_ar qB97_a44
def qB99 : St := pI qB98 44 87 (vp_nar .byte (116 : Int32))
theorem qB99_o : Obj qB99 8 38 := by unfold qB99; exact pI_ob qB98_o
theorem qB99_a44 : Arr qB99 9 121 44 := by unfold qB99; exact pI_ar qB98_a44
def qB100 : St := pI qB99 44 88 (vp_nar .byte (32 : Int32))
theorem qB100_o : Obj qB100 8 38 := by unfold qB100; exact pI_ob qB99_o
theorem qB100_a44 : Arr qB100 9 121 44 := by unfold qB100; exact pI_ar qB99_a44
def qB101 : St := pI qB100 44 89 (vp_nar .byte (97 : Int32))
theorem qB101_o : Obj qB101 8 38 := by unfold qB101; exact pI_ob qB100_o
theorem qB101_a44 : Arr qB101 9 121 44 := by unfold qB101; exact pI_ar qB100_a44
def qB102 : St := pI qB101 44 90 (vp_nar .byte (116 : Int32))
theorem qB102_o : Obj qB102 8 38 := by unfold qB102; exact pI_ob qB101_o
theorem qB102_a44 : Arr qB102 9 121 44 := by unfold qB102; exact pI_ar qB101_a44
def qB103 : St := pI qB102 44 91 (vp_nar .byte (32 : Int32))
theorem qB103_o : Obj qB103 8 38 := by unfold qB103; exact pI_ob qB102_o
theorem qB103_a44 : Arr qB103 9 121 44 := by unfold qB103; exact pI_ar qB102_a44
def qB104 : St := pI qB103 44 92 (vp_nar .byte (105 : Int32))
theorem qB104_o : Obj qB104 8 38 := by unfold qB104; exact pI_ob qB103_o
theorem qB104_a44 : Arr qB104 9 121 44 := by unfold qB104; exact pI_ar qB103_a44
def qB105 : St := pI qB104 44 93 (vp_nar .byte (110 : Int32))
theorem qB105_o : Obj qB105 8 38 := by unfold qB105; exact pI_ob qB104_o
theorem qB105_a44 : Arr qB105 9 121 44 := by unfold qB105; exact pI_ar qB104_a44
def qB106 : St := pI qB105 44 94 (vp_nar .byte (32 : Int32))
theorem qB106_o : Obj qB106 8 38 := by unfold qB106; exact pI_ob qB105_o
theorem qB106_a44 : Arr qB106 9 121 44 := by unfold qB106; exact pI_ar qB105_a44
def qB107 : St := pI qB106 44 95 (vp_nar .byte (115 : Int32))
theorem qB107_o : Obj qB107 8 38 := by unfold qB107; exact pI_ob qB106_o
theorem qB107_a44 : Arr qB107 9 121 44 := by unfold qB107; exact pI_ar qB106_a44
def qB108 : St := pI qB107 44 96 (vp_nar .byte (97 : Int32))
theorem qB108_o : Obj qB108 8 38 := by unfold qB108; exact pI_ob qB107_o
theorem qB108_a44 : Arr qB108 9 121 44 := by unfold qB108; exact pI_ar qB107_a44
def qB109 : St := pI qB108 44 97 (vp_nar .byte (121 : Int32))
theorem qB109_o : Obj qB109 8 38 := by unfold qB109; exact pI_ob qB108_o
theorem qB109_a44 : Arr qB109 9 121 44 := by unfold qB109; exact pI_ar qB108_a44
def qB110 : St := pI qB109 44 98 (vp_nar .byte (32 : Int32))
theorem qB110_o : Obj qB110 8 38 := by unfold qB110; exact pI_ob qB109_o
theorem qB110_a44 : Arr qB110 9 121 44 := by unfold qB110; exact pI_ar qB109_a44
def qB111 : St := pI qB110 44 99 (vp_nar .byte (106 : Int32))
theorem qB111_o : Obj qB111 8 38 := by unfold qB111; exact pI_ob qB110_o
theorem qB111_a44 : Arr qB111 9 121 44 := by unfold qB111; exact pI_ar qB110_a44
def qB112 : St := pI qB111 44 100 (vp_nar .byte (111 : Int32))
theorem qB112_o : Obj qB112 8 38 := by unfold qB112; exact pI_ob qB111_o
theorem qB112_a44 : Arr qB112 9 121 44 := by unfold qB112; exact pI_ar qB111_a44
def qB113 : St := pI qB112 44 101 (vp_nar .byte (105 : Int32))
theorem qB113_o : Obj qB113 8 38 := by unfold qB113; exact pI_ob qB112_o
theorem qB113_a44 : Arr qB113 9 121 44 := by unfold qB113; exact pI_ar qB112_a44
def qB114 : St := pI qB113 44 102 (vp_nar .byte (110 : Int32))
theorem qB114_o : Obj qB114 8 38 := by unfold qB114; exact pI_ob qB113_o
theorem qB114_a44 : Arr qB114 9 121 44 := by unfold qB114; exact pI_ar qB113_a44
def qB115 : St := pI qB114 44 103 (vp_nar .byte (32 : Int32))
theorem qB115_o : Obj qB115 8 38 := by unfold qB115; exact pI_ob qB114_o
theorem qB115_a44 : Arr qB115 9 121 44 := by unfold qB115; exact pI_ar qB114_a44
def qB116 : St := pI qB115 44 104 (vp_nar .byte (108 : Int32))
theorem qB116_o : Obj qB116 8 38 := by unfold qB116; exact pI_ob qB115_o
theorem qB116_a44 : Arr qB116 9 121 44 := by unfold qB116; exact pI_ar qB115_a44
def qB117 : St := pI qB116 44 105 (vp_nar .byte (101 : Int32))
theorem qB117_o : Obj qB117 8 38 := by unfold qB117; exact pI_ob qB116_o
theorem qB117_a44 : Arr qB117 9 121 44 := by unfold qB117; exact pI_ar qB116_a44
def qB118 : St := pI qB117 44 106 (vp_nar .byte (97 : Int32))
theorem qB118_o : Obj qB118 8 38 := by unfold qB118; exact pI_ob qB117_o
theorem qB118_a44 : Arr qB118 9 121 44 := by unfold qB118; exact pI_ar qB117_a44
def qB119 : St := pI qB118 44 107 (vp_nar .byte (118 : Int32))
theorem qB119_o : Obj qB119 8 38 := by unfold qB119; exact pI_ob qB118_o
theorem qB119_a44 : Arr qB119 9 121 44 := by unfold qB119; exact pI_ar qB118_a44
def qB120 : St := pI qB119 44 108 (vp_nar .byte (101 : Int32))
theorem qB120_o : Obj qB120 8 38 := by unfold qB120; exact pI_ob qB119_o
theorem qB120_a44 : Arr qB120 9 121 44 := by unfold qB120; exact pI_ar qB119_a44
def qB121 : St := pI qB120 44 109 (vp_nar .byte (32 : Int32))
theorem qB121_o : Obj qB121 8 38 := by unfold qB121; exact pI_ob qB120_o
theorem qB121_a44 : Arr qB121 9 121 44 := by unfold qB121; exact pI_ar qB120_a44
def qB122 : St := pI qB121 44 110 (vp_nar .byte (112 : Int32))
theorem qB122_o : Obj qB122 8 38 := by unfold qB122; exact pI_ob qB121_o
theorem qB122_a44 : Arr qB122 9 121 44 := by unfold qB122; exact pI_ar qB121_a44
def qB123 : St := pI qB122 44 111 (vp_nar .byte (97 : Int32))
theorem qB123_o : Obj qB123 8 38 := by unfold qB123; exact pI_ob qB122_o
theorem qB123_a44 : Arr qB123 9 121 44 := by unfold qB123; exact pI_ar qB122_a44
def qB124 : St := pI qB123 44 112 (vp_nar .byte (115 : Int32))
theorem qB124_o : Obj qB124 8 38 := by unfold qB124; exact pI_ob qB123_o
theorem qB124_a44 : Arr qB124 9 121 44 := by unfold qB124; exact pI_ar qB123_a44
def qB125 : St := pI qB124 44 113 (vp_nar .byte (115 : Int32))
theorem qB125_o : Obj qB125 8 38 := by unfold qB125; exact pI_ob qB124_o
theorem qB125_a44 : Arr qB125 9 121 44 := by unfold qB125; exact pI_ar qB124_a44
def qB126 : St := pI qB125 44 114 (vp_nar .byte (32 : Int32))
theorem qB126_o : Obj qB126 8 38 := by unfold qB126; exact pI_ob qB125_o
theorem qB126_a44 : Arr qB126 9 121 44 := by unfold qB126; exact pI_ar qB125_a44
def qB127 : St := pI qB126 44 115 (vp_nar .byte (116 : Int32))
theorem qB127_o : Obj qB127 8 38 := by unfold qB127; exact pI_ob qB126_o
theorem qB127_a44 : Arr qB127 9 121 44 := by unfold qB127; exact pI_ar qB126_a44
def qB128 : St := pI qB127 44 116 (vp_nar .byte (105 : Int32))
theorem qB128_o : Obj qB128 8 38 := by unfold qB128; exact pI_ob qB127_o
theorem qB128_a44 : Arr qB128 9 121 44 := by unfold qB128; exact pI_ar qB127_a44
def qB129 : St := pI qB128 44 117 (vp_nar .byte (109 : Int32))
theorem qB129_o : Obj qB129 8 38 := by unfold qB129; exact pI_ob qB128_o
theorem qB129_a44 : Arr qB129 9 121 44 := by unfold qB129; exact pI_ar qB128_a44
def qB130 : St := pI qB129 44 118 (vp_nar .byte (101 : Int32))
theorem qB130_o : Obj qB130 8 38 := by unfold qB130; exact pI_ob qB129_o
theorem qB130_a44 : Arr qB130 9 121 44 := by unfold qB130; exact pI_ar qB129_a44
def qB131 : St := pI qB130 44 119 (vp_nar .byte (115 : Int32))
theorem qB131_o : Obj qB131 8 38 := by unfold qB131; exact pI_ob qB130_o
theorem qB131_a44 : Arr qB131 9 121 44 := by unfold qB131; exact pI_ar qB130_a44
def qB132 : St := pI qB131 44 120 (vp_nar .byte (32 : Int32))
theorem qB132_o : Obj qB132 8 38 := by unfold qB132; exact pI_ob qB131_o
theorem qB132_a44 : Arr qB132 9 121 44 := by unfold qB132; exact pI_ar qB131_a44
def qB133 : St := pR qB132 38 7 (some 44)
theorem qB133_o : Obj qB133 8 38 := by unfold qB133; exact pR_ob qB132_o
theorem qB133_a44 : Arr qB133 9 121 44 := by unfold qB133; exact pR_ar qB132_a44
theorem qB133_s : sn qB133 = 45 := by decide +kernel
def qB134 : St := alc qB133 9 400
theorem qB134_o : Obj qB134 8 38 := by unfold qB134; exact alc_ob qB133_o
def qB135 : St := pR qB134 38 11 (some 45)
theorem qB135_o : Obj qB135 8 38 := by unfold qB135; exact pR_ob qB134_o
theorem qB135_s : sn qB135 = 46 := by decide +kernel
def qB136 : St := alc qB135 10 5
theorem qB136_o : Obj qB136 8 38 := by unfold qB136; exact alc_ob qB135_o
def qB137 : St := pR qB136 38 12 (some 46)
theorem qB137_o : Obj qB137 8 38 := by unfold qB137; exact pR_ob qB136_o
def qB138 : St := pI qB137 38 14 (-1 : Int32)
theorem qB138_o : Obj qB138 8 38 := by unfold qB138; exact pI_ob qB137_o
theorem qB138_s : sn qB138 = 47 := by decide +kernel
def qB139 : St := alc qB138 10 401
theorem qB139_o : Obj qB139 8 38 := by unfold qB139; exact alc_ob qB138_o
def qB140 : St := pR qB139 38 15 (some 47)
theorem qB140_o : Obj qB140 8 38 := by unfold qB140; exact pR_ob qB139_o
theorem qB140_s : sn qB140 = 48 := by decide +kernel
def qB141 : St := alc qB140 10 401
theorem qB141_o : Obj qB141 8 38 := by unfold qB141; exact alc_ob qB140_o
def qB142 : St := pR qB141 38 16 (some 48)
theorem qB142_o : Obj qB142 8 38 := by unfold qB142; exact pR_ob qB141_o
theorem qB142_s : sn qB142 = 49 := by decide +kernel
def qB143 : St := alc qB142 10 401
theorem qB143_o : Obj qB143 8 38 := by unfold qB143; exact alc_ob qB142_o
def qB144 : St := pR qB143 38 17 (some 49)
theorem qB144_o : Obj qB144 8 38 := by unfold qB144; exact pR_ob qB143_o
theorem qB144_s : sn qB144 = 50 := by decide +kernel
def qB145 : St := alc qB144 10 7
theorem qB145_o : Obj qB145 8 38 := by unfold qB145; exact alc_ob qB144_o
def qB146 : St := pR qB145 38 26 (some 50)
theorem qB146_o : Obj qB146 8 38 := by unfold qB146; exact pR_ob qB145_o
theorem qB146_s : sn qB146 = 51 := by decide +kernel
def qB147 : St := alc qB146 10 16
theorem qB147_o : Obj qB147 8 38 := by unfold qB147; exact alc_ob qB146_o
def qB148 : St := pR qB147 38 29 (some 51)
theorem qB148_o : Obj qB148 8 38 := by unfold qB148; exact pR_ob qB147_o
theorem qB148_s : sn qB148 = 52 := by decide +kernel
def qB149 : St := alc qB148 10 64
theorem qB149_o : Obj qB149 8 38 := by unfold qB149; exact alc_ob qB148_o
def qB150 : St := pR qB149 38 30 (some 52)
theorem qB150_o : Obj qB150 8 38 := by unfold qB150; exact pR_ob qB149_o
theorem qB150_s : sn qB150 = 53 := by decide +kernel
def qB151 : St := alc qB150 10 64
theorem qB151_o : Obj qB151 8 38 := by unfold qB151; exact alc_ob qB150_o
def qB152 : St := pR qB151 38 31 (some 53)
theorem qB152_o : Obj qB152 8 38 := by unfold qB152; exact pR_ob qB151_o
theorem qB152_s : sn qB152 = 54 := by decide +kernel
def qB153 : St := alc qB152 10 60
theorem qB153_o : Obj qB153 8 38 := by unfold qB153; exact alc_ob qB152_o
def qB154 : St := pR qB153 38 33 (some 54)
theorem qB154_o : Obj qB154 8 38 := by unfold qB154; exact pR_ob qB153_o
theorem qB154_s : sn qB154 = 55 := by decide +kernel
def qB155 : St := alc qB154 10 1920
theorem qB155_o : Obj qB155 8 38 := by unfold qB155; exact alc_ob qB154_o
def qB156 : St := pR qB155 38 35 (some 55)
theorem qB156_o : Obj qB156 8 38 := by unfold qB156; exact pR_ob qB155_o
theorem qB156_s : sn qB156 = 56 := by decide +kernel
def qB157 : St := alc qB156 10 384
theorem qB157_o : Obj qB157 8 38 := by unfold qB157; exact alc_ob qB156_o
def qB158 : St := pR qB157 38 36 (some 56)
theorem qB158_o : Obj qB158 8 38 := by unfold qB158; exact pR_ob qB157_o
theorem qB158_s : sn qB158 = 57 := by decide +kernel
def qB159 : St := alc qB158 10 384
theorem qB159_o : Obj qB159 8 38 := by unfold qB159; exact alc_ob qB158_o
def qB160 : St := pR qB159 38 37 (some 57)
theorem qB160_o : Obj qB160 8 38 := by unfold qB160; exact pR_ob qB159_o
theorem qB160_s : sn qB160 = 58 := by decide +kernel
def qB161 : St := alc qB160 10 384
theorem qB161_o : Obj qB161 8 38 := by unfold qB161; exact alc_ob qB160_o
def qB162 : St := pR qB161 38 38 (some 58)
theorem qB162_o : Obj qB162 8 38 := by unfold qB162; exact pR_ob qB161_o
theorem qB162_s : sn qB162 = 59 := by decide +kernel
def qB163 : St := alc qB162 12 384
theorem qB163_o : Obj qB163 8 38 := by unfold qB163; exact alc_ob qB162_o
def qB164 : St := pR qB163 38 39 (some 59)
theorem qB164_o : Obj qB164 8 38 := by unfold qB164; exact pR_ob qB163_o
theorem qB164_s : sn qB164 = 60 := by decide +kernel
def qB165 : St := alc qB164 10 384
theorem qB165_o : Obj qB165 8 38 := by unfold qB165; exact alc_ob qB164_o
def qB166 : St := pR qB165 38 41 (some 60)
theorem qB166_o : Obj qB166 8 38 := by unfold qB166; exact pR_ob qB165_o
theorem qB166_s : sn qB166 = 61 := by decide +kernel
def qB167 : St := alc qB166 10 768
theorem qB167_o : Obj qB167 8 38 := by unfold qB167; exact alc_ob qB166_o
def qB168 : St := pR qB167 38 42 (some 61)
theorem qB168_o : Obj qB168 8 38 := by unfold qB168; exact pR_ob qB167_o
theorem qB168_s : sn qB168 = 62 := by decide +kernel
def qB169 : St := alc qB168 11 768
theorem qB169_o : Obj qB169 8 38 := by unfold qB169; exact alc_ob qB168_o
def qB170 : St := pR qB169 38 44 (some 62)
theorem qB170_o : Obj qB170 8 38 := by unfold qB170; exact pR_ob qB169_o
theorem qB170_s : sn qB170 = 63 := by decide +kernel
def qB171 : St := alc qB170 10 4
theorem qB171_o : Obj qB171 8 38 := by unfold qB171; exact alc_ob qB170_o
def qB172 : St := pR qB171 38 45 (some 63)
theorem qB172_o : Obj qB172 8 38 := by unfold qB172; exact pR_ob qB171_o
def qB173 : St := pI qB172 38 46 (-1 : Int32)
theorem qB173_o : Obj qB173 8 38 := by unfold qB173; exact pI_ob qB172_o
theorem qB173_s : sn qB173 = 64 := by decide +kernel
def qB174 : St := alc qB173 10 6
theorem qB174_o : Obj qB174 8 38 := by unfold qB174; exact alc_ob qB173_o
def qB175 : St := pR qB174 38 54 (some 64)
theorem qB175_o : Obj qB175 8 38 := by unfold qB175; exact pR_ob qB174_o
def qB176 : St := pI qB175 38 55 (-1 : Int32)
theorem qB176_o : Obj qB176 8 38 := by unfold qB176; exact pI_ob qB175_o
theorem qB176_a40 : Arr qB176 10 5627 40 := ⟨by decide +kernel, by decide +kernel, by decide +kernel⟩
def qB177 : St := pI qB176 40 14 (1 : Int32)
theorem qB177_o : Obj qB177 8 38 := by unfold qB177; exact pI_ob qB176_o
theorem qB177_a40 : Arr qB177 10 5627 40 := ⟨by decide +kernel, by decide +kernel, by decide +kernel⟩
def qB178 : St := pI qB177 40 19 (-1 : Int32)
theorem qB178_o : Obj qB178 8 38 := by unfold qB178; exact pI_ob qB177_o
set_option maxHeartbeats 4000000 in
set_option maxRecDepth 100000 in
theorem zX8_init_0 {E : Ev} {x : Cx} (hR : xR x = rmh 1 26 24222) (ht : xt x) (hr : (xM x).sig.returnType = none) (hnm : (xM x).name = "<init>") (kk : G E Wn x RX8 cX8_init 1 (4, 16890) qB8 37 [(0, .ref (eB E + 38))] []) : G E Wn x RX8 cX8_init 1 (0, 0) qB0 0 [(0, .ref (eB E + 38))] [] := by
  refine g_aload_n rfl 0 rfl dX8_init_0 ?_
  refine g_objInit tw4_174 hR (by decide) (Nat.le_of_ble_eq_true rfl) dX8_init_1 ?_
  refine g_aload_n rfl 0 rfl dX8_init_4 ?_
  refine g_bipush (7 : Int32) (by decide) dX8_init_5 ?_
  refine g_newaL_int 39 7 1 7 qB0_s (by decide) rfl (by decide) hR rfl rfl ⟨by decide, by decide⟩ ht (fun _ => trivial) dX8_init_7 ?_
  refine g_putF (j := 1) cok8 (by decide) rfl rfl hnm rfl rfl rfl tw4_176 (fun _ => qB1_o) ht (fun _ => trivial) dX8_init_9 ?_
  refine g_aload_n rfl 0 rfl dX8_init_12 ?_
  refine g_sipush (5627 : Int32) (by decide) dX8_init_13 ?_
  refine g_newaL_int 40 5627 2 5634 qB2_s (by decide) rfl (by decide) hR rfl rfl ⟨by decide, by decide⟩ ht (fun _ => trivial) dX8_init_16 ?_
  refine g_putF (j := 2) cok8 (by decide) rfl rfl hnm rfl rfl rfl tw4_177 (fun _ => qB3_o) ht (fun _ => trivial) dX8_init_18 ?_
  refine g_aload_n rfl 0 rfl dX8_init_21 ?_
  refine g_sipush (11254 : Int32) (by decide) dX8_init_22 ?_
  refine g_newaL_int 41 11254 3 16888 qB4_s (by decide) rfl (by decide) hR rfl rfl ⟨by decide, by decide⟩ ht (fun _ => trivial) dX8_init_25 ?_
  refine g_putF (j := 3) cok8 (by decide) rfl rfl hnm rfl rfl rfl tw4_178 (fun _ => qB5_o) ht (fun _ => trivial) dX8_init_27 ?_
  refine g_aload_n rfl 0 rfl dX8_init_30 ?_
  refine g_iconst (2 : Int32) (by decide) dX8_init_31 ?_
  refine g_newaL_boolean 42 2 4 16890 qB6_s (by decide) rfl (by decide) hR rfl rfl ⟨by decide, by decide⟩ ht (fun _ => trivial) dX8_init_32 ?_
  refine g_putF (j := 4) cok8 (by decide) rfl rfl hnm rfl rfl rfl tw4_179 (fun _ => qB7_o) ht (fun _ => trivial) dX8_init_34 ?_
  exact kk
set_option maxHeartbeats 4000000 in
set_option maxRecDepth 100000 in
theorem zX8_init_1 {E : Ev} {x : Cx} (hR : xR x = rmh 1 26 24222) (ht : xt x) (hr : (xM x).sig.returnType = none) (hnm : (xM x).name = "<init>") (kk : G E Wn x RX8 cX8_init 1 (6, 17017) qB16 75 [(0, .ref (eB E + 38))] [.ref (eB E + 44), .ref (eB E + 38)]) : G E Wn x RX8 cX8_init 1 (4, 16890) qB8 37 [(0, .ref (eB E + 38))] [] := by
  refine g_aload_n rfl 0 rfl dX8_init_37 ?_
  refine g_bipush (6 : Int32) (by decide) dX8_init_38 ?_
  refine g_newaL_int 43 6 5 16896 qB8_s (by decide) rfl (by decide) hR rfl rfl ⟨by decide, by decide⟩ ht (fun _ => trivial) dX8_init_40 ?_
  refine g_putF (j := 5) cok8 (by decide) rfl rfl hnm rfl rfl rfl tw4_180 (fun _ => qB9_o) ht (fun _ => trivial) dX8_init_42 ?_
  refine g_aload_n rfl 0 rfl dX8_init_45 ?_
  refine g_bipush (121 : Int32) (by decide) dX8_init_46 ?_
  refine g_newaL_byte 44 121 6 17017 qB10_s (by decide) rfl (by decide) hR rfl rfl ⟨by decide, by decide⟩ ht (fun _ => trivial) dX8_init_48 ?_
  refine g_dup rfl dX8_init_50 ?_
  refine g_iconst (0 : Int32) (by decide) dX8_init_51 ?_
  refine g_bipush (98 : Int32) (by decide) dX8_init_52 ?_
  refine g_bastj 0 rfl (fun _ => qB11_a44) (ixb_in rfl) ht (fun _ => trivial) dX8_init_54 ?_
  refine g_dup rfl dX8_init_55 ?_
  refine g_iconst (1 : Int32) (by decide) dX8_init_56 ?_
  refine g_bipush (101 : Int32) (by decide) dX8_init_57 ?_
  refine g_bastj 1 rfl (fun _ => qB12_a44) (ixb_in rfl) ht (fun _ => trivial) dX8_init_59 ?_
  refine g_dup rfl dX8_init_60 ?_
  refine g_iconst (2 : Int32) (by decide) dX8_init_61 ?_
  refine g_bipush (97 : Int32) (by decide) dX8_init_62 ?_
  refine g_bastj 2 rfl (fun _ => qB13_a44) (ixb_in rfl) ht (fun _ => trivial) dX8_init_64 ?_
  refine g_dup rfl dX8_init_65 ?_
  refine g_iconst (3 : Int32) (by decide) dX8_init_66 ?_
  refine g_bipush (116 : Int32) (by decide) dX8_init_67 ?_
  refine g_bastj 3 rfl (fun _ => qB14_a44) (ixb_in rfl) ht (fun _ => trivial) dX8_init_69 ?_
  refine g_dup rfl dX8_init_70 ?_
  refine g_iconst (4 : Int32) (by decide) dX8_init_71 ?_
  refine g_bipush (115 : Int32) (by decide) dX8_init_72 ?_
  refine g_bastj 4 rfl (fun _ => qB15_a44) (ixb_in rfl) ht (fun _ => trivial) dX8_init_74 ?_
  exact kk
set_option maxHeartbeats 4000000 in
set_option maxRecDepth 100000 in
theorem zX8_init_2 {E : Ev} {x : Cx} (hR : xR x = rmh 1 26 24222) (ht : xt x) (hr : (xM x).sig.returnType = none) (hnm : (xM x).name = "<init>") (kk : G E Wn x RX8 cX8_init 1 (6, 17017) qB24 122 [(0, .ref (eB E + 38))] [.ref (eB E + 44), .ref (eB E + 38)]) : G E Wn x RX8 cX8_init 1 (6, 17017) qB16 75 [(0, .ref (eB E + 38))] [.ref (eB E + 44), .ref (eB E + 38)] := by
  refine g_dup rfl dX8_init_75 ?_
  refine g_iconst (5 : Int32) (by decide) dX8_init_76 ?_
  refine g_bipush (32 : Int32) (by decide) dX8_init_77 ?_
  refine g_bastj 5 rfl (fun _ => qB16_a44) (ixb_in rfl) ht (fun _ => trivial) dX8_init_79 ?_
  refine g_dup rfl dX8_init_80 ?_
  refine g_bipush (6 : Int32) (by decide) dX8_init_81 ?_
  refine g_bipush (115 : Int32) (by decide) dX8_init_83 ?_
  refine g_bastj 6 rfl (fun _ => qB17_a44) (ixb_in rfl) ht (fun _ => trivial) dX8_init_85 ?_
  refine g_dup rfl dX8_init_86 ?_
  refine g_bipush (7 : Int32) (by decide) dX8_init_87 ?_
  refine g_bipush (107 : Int32) (by decide) dX8_init_89 ?_
  refine g_bastj 7 rfl (fun _ => qB18_a44) (ixb_in rfl) ht (fun _ => trivial) dX8_init_91 ?_
  refine g_dup rfl dX8_init_92 ?_
  refine g_bipush (8 : Int32) (by decide) dX8_init_93 ?_
  refine g_bipush (105 : Int32) (by decide) dX8_init_95 ?_
  refine g_bastj 8 rfl (fun _ => qB19_a44) (ixb_in rfl) ht (fun _ => trivial) dX8_init_97 ?_
  refine g_dup rfl dX8_init_98 ?_
  refine g_bipush (9 : Int32) (by decide) dX8_init_99 ?_
  refine g_bipush (112 : Int32) (by decide) dX8_init_101 ?_
  refine g_bastj 9 rfl (fun _ => qB20_a44) (ixb_in rfl) ht (fun _ => trivial) dX8_init_103 ?_
  refine g_dup rfl dX8_init_104 ?_
  refine g_bipush (10 : Int32) (by decide) dX8_init_105 ?_
  refine g_bipush (115 : Int32) (by decide) dX8_init_107 ?_
  refine g_bastj 10 rfl (fun _ => qB21_a44) (ixb_in rfl) ht (fun _ => trivial) dX8_init_109 ?_
  refine g_dup rfl dX8_init_110 ?_
  refine g_bipush (11 : Int32) (by decide) dX8_init_111 ?_
  refine g_bipush (32 : Int32) (by decide) dX8_init_113 ?_
  refine g_bastj 11 rfl (fun _ => qB22_a44) (ixb_in rfl) ht (fun _ => trivial) dX8_init_115 ?_
  refine g_dup rfl dX8_init_116 ?_
  refine g_bipush (12 : Int32) (by decide) dX8_init_117 ?_
  refine g_bipush (116 : Int32) (by decide) dX8_init_119 ?_
  refine g_bastj 12 rfl (fun _ => qB23_a44) (ixb_in rfl) ht (fun _ => trivial) dX8_init_121 ?_
  exact kk
set_option maxHeartbeats 4000000 in
set_option maxRecDepth 100000 in
theorem zX8_init_3 {E : Ev} {x : Cx} (hR : xR x = rmh 1 26 24222) (ht : xt x) (hr : (xM x).sig.returnType = none) (hnm : (xM x).name = "<init>") (kk : G E Wn x RX8 cX8_init 1 (6, 17017) qB32 170 [(0, .ref (eB E + 38))] [.ref (eB E + 44), .ref (eB E + 38)]) : G E Wn x RX8 cX8_init 1 (6, 17017) qB24 122 [(0, .ref (eB E + 38))] [.ref (eB E + 44), .ref (eB E + 38)] := by
  refine g_dup rfl dX8_init_122 ?_
  refine g_bipush (13 : Int32) (by decide) dX8_init_123 ?_
  refine g_bipush (117 : Int32) (by decide) dX8_init_125 ?_
  refine g_bastj 13 rfl (fun _ => qB24_a44) (ixb_in rfl) ht (fun _ => trivial) dX8_init_127 ?_
  refine g_dup rfl dX8_init_128 ?_
  refine g_bipush (14 : Int32) (by decide) dX8_init_129 ?_
  refine g_bipush (114 : Int32) (by decide) dX8_init_131 ?_
  refine g_bastj 14 rfl (fun _ => qB25_a44) (ixb_in rfl) ht (fun _ => trivial) dX8_init_133 ?_
  refine g_dup rfl dX8_init_134 ?_
  refine g_bipush (15 : Int32) (by decide) dX8_init_135 ?_
  refine g_bipush (110 : Int32) (by decide) dX8_init_137 ?_
  refine g_bastj 15 rfl (fun _ => qB26_a44) (ixb_in rfl) ht (fun _ => trivial) dX8_init_139 ?_
  refine g_dup rfl dX8_init_140 ?_
  refine g_bipush (16 : Int32) (by decide) dX8_init_141 ?_
  refine g_bipush (115 : Int32) (by decide) dX8_init_143 ?_
  refine g_bastj 16 rfl (fun _ => qB27_a44) (ixb_in rfl) ht (fun _ => trivial) dX8_init_145 ?_
  refine g_dup rfl dX8_init_146 ?_
  refine g_bipush (17 : Int32) (by decide) dX8_init_147 ?_
  refine g_bipush (32 : Int32) (by decide) dX8_init_149 ?_
  refine g_bastj 17 rfl (fun _ => qB28_a44) (ixb_in rfl) ht (fun _ => trivial) dX8_init_151 ?_
  refine g_dup rfl dX8_init_152 ?_
  refine g_bipush (18 : Int32) (by decide) dX8_init_153 ?_
  refine g_bipush (107 : Int32) (by decide) dX8_init_155 ?_
  refine g_bastj 18 rfl (fun _ => qB29_a44) (ixb_in rfl) ht (fun _ => trivial) dX8_init_157 ?_
  refine g_dup rfl dX8_init_158 ?_
  refine g_bipush (19 : Int32) (by decide) dX8_init_159 ?_
  refine g_bipush (101 : Int32) (by decide) dX8_init_161 ?_
  refine g_bastj 19 rfl (fun _ => qB30_a44) (ixb_in rfl) ht (fun _ => trivial) dX8_init_163 ?_
  refine g_dup rfl dX8_init_164 ?_
  refine g_bipush (20 : Int32) (by decide) dX8_init_165 ?_
  refine g_bipush (101 : Int32) (by decide) dX8_init_167 ?_
  refine g_bastj 20 rfl (fun _ => qB31_a44) (ixb_in rfl) ht (fun _ => trivial) dX8_init_169 ?_
  exact kk
set_option maxHeartbeats 4000000 in
set_option maxRecDepth 100000 in
theorem zX8_init_4 {E : Ev} {x : Cx} (hR : xR x = rmh 1 26 24222) (ht : xt x) (hr : (xM x).sig.returnType = none) (hnm : (xM x).name = "<init>") (kk : G E Wn x RX8 cX8_init 1 (6, 17017) qB40 218 [(0, .ref (eB E + 38))] [.ref (eB E + 44), .ref (eB E + 38)]) : G E Wn x RX8 cX8_init 1 (6, 17017) qB32 170 [(0, .ref (eB E + 38))] [.ref (eB E + 44), .ref (eB E + 38)] := by
  refine g_dup rfl dX8_init_170 ?_
  refine g_bipush (21 : Int32) (by decide) dX8_init_171 ?_
  refine g_bipush (112 : Int32) (by decide) dX8_init_173 ?_
  refine g_bastj 21 rfl (fun _ => qB32_a44) (ixb_in rfl) ht (fun _ => trivial) dX8_init_175 ?_
  refine g_dup rfl dX8_init_176 ?_
  refine g_bipush (22 : Int32) (by decide) dX8_init_177 ?_
  refine g_bipush (115 : Int32) (by decide) dX8_init_179 ?_
  refine g_bastj 22 rfl (fun _ => qB33_a44) (ixb_in rfl) ht (fun _ => trivial) dX8_init_181 ?_
  refine g_dup rfl dX8_init_182 ?_
  refine g_bipush (23 : Int32) (by decide) dX8_init_183 ?_
  refine g_bipush (32 : Int32) (by decide) dX8_init_185 ?_
  refine g_bastj 23 rfl (fun _ => qB34_a44) (ixb_in rfl) ht (fun _ => trivial) dX8_init_187 ?_
  refine g_dup rfl dX8_init_188 ?_
  refine g_bipush (24 : Int32) (by decide) dX8_init_189 ?_
  refine g_bipush (105 : Int32) (by decide) dX8_init_191 ?_
  refine g_bastj 24 rfl (fun _ => qB35_a44) (ixb_in rfl) ht (fun _ => trivial) dX8_init_193 ?_
  refine g_dup rfl dX8_init_194 ?_
  refine g_bipush (25 : Int32) (by decide) dX8_init_195 ?_
  refine g_bipush (102 : Int32) (by decide) dX8_init_197 ?_
  refine g_bastj 25 rfl (fun _ => qB36_a44) (ixb_in rfl) ht (fun _ => trivial) dX8_init_199 ?_
  refine g_dup rfl dX8_init_200 ?_
  refine g_bipush (26 : Int32) (by decide) dX8_init_201 ?_
  refine g_bipush (32 : Int32) (by decide) dX8_init_203 ?_
  refine g_bastj 26 rfl (fun _ => qB37_a44) (ixb_in rfl) ht (fun _ => trivial) dX8_init_205 ?_
  refine g_dup rfl dX8_init_206 ?_
  refine g_bipush (27 : Int32) (by decide) dX8_init_207 ?_
  refine g_bipush (111 : Int32) (by decide) dX8_init_209 ?_
  refine g_bastj 27 rfl (fun _ => qB38_a44) (ixb_in rfl) ht (fun _ => trivial) dX8_init_211 ?_
  refine g_dup rfl dX8_init_212 ?_
  refine g_bipush (28 : Int32) (by decide) dX8_init_213 ?_
  refine g_bipush (114 : Int32) (by decide) dX8_init_215 ?_
  refine g_bastj 28 rfl (fun _ => qB39_a44) (ixb_in rfl) ht (fun _ => trivial) dX8_init_217 ?_
  exact kk
set_option maxHeartbeats 4000000 in
set_option maxRecDepth 100000 in
theorem zX8_init_5 {E : Ev} {x : Cx} (hR : xR x = rmh 1 26 24222) (ht : xt x) (hr : (xM x).sig.returnType = none) (hnm : (xM x).name = "<init>") (kk : G E Wn x RX8 cX8_init 1 (6, 17017) qB48 266 [(0, .ref (eB E + 38))] [.ref (eB E + 44), .ref (eB E + 38)]) : G E Wn x RX8 cX8_init 1 (6, 17017) qB40 218 [(0, .ref (eB E + 38))] [.ref (eB E + 44), .ref (eB E + 38)] := by
  refine g_dup rfl dX8_init_218 ?_
  refine g_bipush (29 : Int32) (by decide) dX8_init_219 ?_
  refine g_bipush (32 : Int32) (by decide) dX8_init_221 ?_
  refine g_bastj 29 rfl (fun _ => qB40_a44) (ixb_in rfl) ht (fun _ => trivial) dX8_init_223 ?_
  refine g_dup rfl dX8_init_224 ?_
  refine g_bipush (30 : Int32) (by decide) dX8_init_225 ?_
  refine g_bipush (97 : Int32) (by decide) dX8_init_227 ?_
  refine g_bastj 30 rfl (fun _ => qB41_a44) (ixb_in rfl) ht (fun _ => trivial) dX8_init_229 ?_
  refine g_dup rfl dX8_init_230 ?_
  refine g_bipush (31 : Int32) (by decide) dX8_init_231 ?_
  refine g_bipush (110 : Int32) (by decide) dX8_init_233 ?_
  refine g_bastj 31 rfl (fun _ => qB42_a44) (ixb_in rfl) ht (fun _ => trivial) dX8_init_235 ?_
  refine g_dup rfl dX8_init_236 ?_
  refine g_bipush (32 : Int32) (by decide) dX8_init_237 ?_
  refine g_bipush (100 : Int32) (by decide) dX8_init_239 ?_
  refine g_bastj 32 rfl (fun _ => qB43_a44) (ixb_in rfl) ht (fun _ => trivial) dX8_init_241 ?_
  refine g_dup rfl dX8_init_242 ?_
  refine g_bipush (33 : Int32) (by decide) dX8_init_243 ?_
  refine g_bipush (32 : Int32) (by decide) dX8_init_245 ?_
  refine g_bastj 33 rfl (fun _ => qB44_a44) (ixb_in rfl) ht (fun _ => trivial) dX8_init_247 ?_
  refine g_dup rfl dX8_init_248 ?_
  refine g_bipush (34 : Int32) (by decide) dX8_init_249 ?_
  refine g_bipush (110 : Int32) (by decide) dX8_init_251 ?_
  refine g_bastj 34 rfl (fun _ => qB45_a44) (ixb_in rfl) ht (fun _ => trivial) dX8_init_253 ?_
  refine g_dup rfl dX8_init_254 ?_
  refine g_bipush (35 : Int32) (by decide) dX8_init_255 ?_
  refine g_bipush (111 : Int32) (by decide) dX8_init_257 ?_
  refine g_bastj 35 rfl (fun _ => qB46_a44) (ixb_in rfl) ht (fun _ => trivial) dX8_init_259 ?_
  refine g_dup rfl dX8_init_260 ?_
  refine g_bipush (36 : Int32) (by decide) dX8_init_261 ?_
  refine g_bipush (116 : Int32) (by decide) dX8_init_263 ?_
  refine g_bastj 36 rfl (fun _ => qB47_a44) (ixb_in rfl) ht (fun _ => trivial) dX8_init_265 ?_
  exact kk
set_option maxHeartbeats 4000000 in
set_option maxRecDepth 100000 in
theorem zX8_init_6 {E : Ev} {x : Cx} (hR : xR x = rmh 1 26 24222) (ht : xt x) (hr : (xM x).sig.returnType = none) (hnm : (xM x).name = "<init>") (kk : G E Wn x RX8 cX8_init 1 (6, 17017) qB56 314 [(0, .ref (eB E + 38))] [.ref (eB E + 44), .ref (eB E + 38)]) : G E Wn x RX8 cX8_init 1 (6, 17017) qB48 266 [(0, .ref (eB E + 38))] [.ref (eB E + 44), .ref (eB E + 38)] := by
  refine g_dup rfl dX8_init_266 ?_
  refine g_bipush (37 : Int32) (by decide) dX8_init_267 ?_
  refine g_bipush (32 : Int32) (by decide) dX8_init_269 ?_
  refine g_bastj 37 rfl (fun _ => qB48_a44) (ixb_in rfl) ht (fun _ => trivial) dX8_init_271 ?_
  refine g_dup rfl dX8_init_272 ?_
  refine g_bipush (38 : Int32) (by decide) dX8_init_273 ?_
  refine g_bipush (99 : Int32) (by decide) dX8_init_275 ?_
  refine g_bastj 38 rfl (fun _ => qB49_a44) (ixb_in rfl) ht (fun _ => trivial) dX8_init_277 ?_
  refine g_dup rfl dX8_init_278 ?_
  refine g_bipush (39 : Int32) (by decide) dX8_init_279 ?_
  refine g_bipush (104 : Int32) (by decide) dX8_init_281 ?_
  refine g_bastj 39 rfl (fun _ => qB50_a44) (ixb_in rfl) ht (fun _ => trivial) dX8_init_283 ?_
  refine g_dup rfl dX8_init_284 ?_
  refine g_bipush (40 : Int32) (by decide) dX8_init_285 ?_
  refine g_bipush (105 : Int32) (by decide) dX8_init_287 ?_
  refine g_bastj 40 rfl (fun _ => qB51_a44) (ixb_in rfl) ht (fun _ => trivial) dX8_init_289 ?_
  refine g_dup rfl dX8_init_290 ?_
  refine g_bipush (41 : Int32) (by decide) dX8_init_291 ?_
  refine g_bipush (108 : Int32) (by decide) dX8_init_293 ?_
  refine g_bastj 41 rfl (fun _ => qB52_a44) (ixb_in rfl) ht (fun _ => trivial) dX8_init_295 ?_
  refine g_dup rfl dX8_init_296 ?_
  refine g_bipush (42 : Int32) (by decide) dX8_init_297 ?_
  refine g_bipush (100 : Int32) (by decide) dX8_init_299 ?_
  refine g_bastj 42 rfl (fun _ => qB53_a44) (ixb_in rfl) ht (fun _ => trivial) dX8_init_301 ?_
  refine g_dup rfl dX8_init_302 ?_
  refine g_bipush (43 : Int32) (by decide) dX8_init_303 ?_
  refine g_bipush (32 : Int32) (by decide) dX8_init_305 ?_
  refine g_bastj 43 rfl (fun _ => qB54_a44) (ixb_in rfl) ht (fun _ => trivial) dX8_init_307 ?_
  refine g_dup rfl dX8_init_308 ?_
  refine g_bipush (44 : Int32) (by decide) dX8_init_309 ?_
  refine g_bipush (114 : Int32) (by decide) dX8_init_311 ?_
  refine g_bastj 44 rfl (fun _ => qB55_a44) (ixb_in rfl) ht (fun _ => trivial) dX8_init_313 ?_
  exact kk
set_option maxHeartbeats 4000000 in
set_option maxRecDepth 100000 in
theorem zX8_init_7 {E : Ev} {x : Cx} (hR : xR x = rmh 1 26 24222) (ht : xt x) (hr : (xM x).sig.returnType = none) (hnm : (xM x).name = "<init>") (kk : G E Wn x RX8 cX8_init 1 (6, 17017) qB64 362 [(0, .ref (eB E + 38))] [.ref (eB E + 44), .ref (eB E + 38)]) : G E Wn x RX8 cX8_init 1 (6, 17017) qB56 314 [(0, .ref (eB E + 38))] [.ref (eB E + 44), .ref (eB E + 38)] := by
  refine g_dup rfl dX8_init_314 ?_
  refine g_bipush (45 : Int32) (by decide) dX8_init_315 ?_
  refine g_bipush (104 : Int32) (by decide) dX8_init_317 ?_
  refine g_bastj 45 rfl (fun _ => qB56_a44) (ixb_in rfl) ht (fun _ => trivial) dX8_init_319 ?_
  refine g_dup rfl dX8_init_320 ?_
  refine g_bipush (46 : Int32) (by decide) dX8_init_321 ?_
  refine g_bipush (121 : Int32) (by decide) dX8_init_323 ?_
  refine g_bastj 46 rfl (fun _ => qB57_a44) (ixb_in rfl) ht (fun _ => trivial) dX8_init_325 ?_
  refine g_dup rfl dX8_init_326 ?_
  refine g_bipush (47 : Int32) (by decide) dX8_init_327 ?_
  refine g_bipush (109 : Int32) (by decide) dX8_init_329 ?_
  refine g_bastj 47 rfl (fun _ => qB58_a44) (ixb_in rfl) ht (fun _ => trivial) dX8_init_331 ?_
  refine g_dup rfl dX8_init_332 ?_
  refine g_bipush (48 : Int32) (by decide) dX8_init_333 ?_
  refine g_bipush (101 : Int32) (by decide) dX8_init_335 ?_
  refine g_bastj 48 rfl (fun _ => qB59_a44) (ixb_in rfl) ht (fun _ => trivial) dX8_init_337 ?_
  refine g_dup rfl dX8_init_338 ?_
  refine g_bipush (49 : Int32) (by decide) dX8_init_339 ?_
  refine g_bipush (32 : Int32) (by decide) dX8_init_341 ?_
  refine g_bastj 49 rfl (fun _ => qB60_a44) (ixb_in rfl) ht (fun _ => trivial) dX8_init_343 ?_
  refine g_dup rfl dX8_init_344 ?_
  refine g_bipush (50 : Int32) (by decide) dX8_init_345 ?_
  refine g_bipush (98 : Int32) (by decide) dX8_init_347 ?_
  refine g_bastj 50 rfl (fun _ => qB61_a44) (ixb_in rfl) ht (fun _ => trivial) dX8_init_349 ?_
  refine g_dup rfl dX8_init_350 ?_
  refine g_bipush (51 : Int32) (by decide) dX8_init_351 ?_
  refine g_bipush (101 : Int32) (by decide) dX8_init_353 ?_
  refine g_bastj 51 rfl (fun _ => qB62_a44) (ixb_in rfl) ht (fun _ => trivial) dX8_init_355 ?_
  refine g_dup rfl dX8_init_356 ?_
  refine g_bipush (52 : Int32) (by decide) dX8_init_357 ?_
  refine g_bipush (97 : Int32) (by decide) dX8_init_359 ?_
  refine g_bastj 52 rfl (fun _ => qB63_a44) (ixb_in rfl) ht (fun _ => trivial) dX8_init_361 ?_
  exact kk
set_option maxHeartbeats 4000000 in
set_option maxRecDepth 100000 in
theorem zX8_init_8 {E : Ev} {x : Cx} (hR : xR x = rmh 1 26 24222) (ht : xt x) (hr : (xM x).sig.returnType = none) (hnm : (xM x).name = "<init>") (kk : G E Wn x RX8 cX8_init 1 (6, 17017) qB72 410 [(0, .ref (eB E + 38))] [.ref (eB E + 44), .ref (eB E + 38)]) : G E Wn x RX8 cX8_init 1 (6, 17017) qB64 362 [(0, .ref (eB E + 38))] [.ref (eB E + 44), .ref (eB E + 38)] := by
  refine g_dup rfl dX8_init_362 ?_
  refine g_bipush (53 : Int32) (by decide) dX8_init_363 ?_
  refine g_bipush (116 : Int32) (by decide) dX8_init_365 ?_
  refine g_bastj 53 rfl (fun _ => qB64_a44) (ixb_in rfl) ht (fun _ => trivial) dX8_init_367 ?_
  refine g_dup rfl dX8_init_368 ?_
  refine g_bipush (54 : Int32) (by decide) dX8_init_369 ?_
  refine g_bipush (32 : Int32) (by decide) dX8_init_371 ?_
  refine g_bastj 54 rfl (fun _ => qB65_a44) (ixb_in rfl) ht (fun _ => trivial) dX8_init_373 ?_
  refine g_dup rfl dX8_init_374 ?_
  refine g_bipush (55 : Int32) (by decide) dX8_init_375 ?_
  refine g_bipush (109 : Int32) (by decide) dX8_init_377 ?_
  refine g_bastj 55 rfl (fun _ => qB66_a44) (ixb_in rfl) ht (fun _ => trivial) dX8_init_379 ?_
  refine g_dup rfl dX8_init_380 ?_
  refine g_bipush (56 : Int32) (by decide) dX8_init_381 ?_
  refine g_bipush (111 : Int32) (by decide) dX8_init_383 ?_
  refine g_bastj 56 rfl (fun _ => qB67_a44) (ixb_in rfl) ht (fun _ => trivial) dX8_init_385 ?_
  refine g_dup rfl dX8_init_386 ?_
  refine g_bipush (57 : Int32) (by decide) dX8_init_387 ?_
  refine g_bipush (111 : Int32) (by decide) dX8_init_389 ?_
  refine g_bastj 57 rfl (fun _ => qB68_a44) (ixb_in rfl) ht (fun _ => trivial) dX8_init_391 ?_
  refine g_dup rfl dX8_init_392 ?_
  refine g_bipush (58 : Int32) (by decide) dX8_init_393 ?_
  refine g_bipush (100 : Int32) (by decide) dX8_init_395 ?_
  refine g_bastj 58 rfl (fun _ => qB69_a44) (ixb_in rfl) ht (fun _ => trivial) dX8_init_397 ?_
  refine g_dup rfl dX8_init_398 ?_
  refine g_bipush (59 : Int32) (by decide) dX8_init_399 ?_
  refine g_bipush (32 : Int32) (by decide) dX8_init_401 ?_
  refine g_bastj 59 rfl (fun _ => qB70_a44) (ixb_in rfl) ht (fun _ => trivial) dX8_init_403 ?_
  refine g_dup rfl dX8_init_404 ?_
  refine g_bipush (60 : Int32) (by decide) dX8_init_405 ?_
  refine g_bipush (113 : Int32) (by decide) dX8_init_407 ?_
  refine g_bastj 60 rfl (fun _ => qB71_a44) (ixb_in rfl) ht (fun _ => trivial) dX8_init_409 ?_
  exact kk
set_option maxHeartbeats 4000000 in
set_option maxRecDepth 100000 in
theorem zX8_init_9 {E : Ev} {x : Cx} (hR : xR x = rmh 1 26 24222) (ht : xt x) (hr : (xM x).sig.returnType = none) (hnm : (xM x).name = "<init>") (kk : G E Wn x RX8 cX8_init 1 (6, 17017) qB80 458 [(0, .ref (eB E + 38))] [.ref (eB E + 44), .ref (eB E + 38)]) : G E Wn x RX8 cX8_init 1 (6, 17017) qB72 410 [(0, .ref (eB E + 38))] [.ref (eB E + 44), .ref (eB E + 38)] := by
  refine g_dup rfl dX8_init_410 ?_
  refine g_bipush (61 : Int32) (by decide) dX8_init_411 ?_
  refine g_bipush (117 : Int32) (by decide) dX8_init_413 ?_
  refine g_bastj 61 rfl (fun _ => qB72_a44) (ixb_in rfl) ht (fun _ => trivial) dX8_init_415 ?_
  refine g_dup rfl dX8_init_416 ?_
  refine g_bipush (62 : Int32) (by decide) dX8_init_417 ?_
  refine g_bipush (105 : Int32) (by decide) dX8_init_419 ?_
  refine g_bastj 62 rfl (fun _ => qB73_a44) (ixb_in rfl) ht (fun _ => trivial) dX8_init_421 ?_
  refine g_dup rfl dX8_init_422 ?_
  refine g_bipush (63 : Int32) (by decide) dX8_init_423 ?_
  refine g_bipush (99 : Int32) (by decide) dX8_init_425 ?_
  refine g_bastj 63 rfl (fun _ => qB74_a44) (ixb_in rfl) ht (fun _ => trivial) dX8_init_427 ?_
  refine g_dup rfl dX8_init_428 ?_
  refine g_bipush (64 : Int32) (by decide) dX8_init_429 ?_
  refine g_bipush (107 : Int32) (by decide) dX8_init_431 ?_
  refine g_bastj 64 rfl (fun _ => qB75_a44) (ixb_in rfl) ht (fun _ => trivial) dX8_init_433 ?_
  refine g_dup rfl dX8_init_434 ?_
  refine g_bipush (65 : Int32) (by decide) dX8_init_435 ?_
  refine g_bipush (32 : Int32) (by decide) dX8_init_437 ?_
  refine g_bastj 65 rfl (fun _ => qB76_a44) (ixb_in rfl) ht (fun _ => trivial) dX8_init_439 ?_
  refine g_dup rfl dX8_init_440 ?_
  refine g_bipush (66 : Int32) (by decide) dX8_init_441 ?_
  refine g_bipush (109 : Int32) (by decide) dX8_init_443 ?_
  refine g_bastj 66 rfl (fun _ => qB77_a44) (ixb_in rfl) ht (fun _ => trivial) dX8_init_445 ?_
  refine g_dup rfl dX8_init_446 ?_
  refine g_bipush (67 : Int32) (by decide) dX8_init_447 ?_
  refine g_bipush (97 : Int32) (by decide) dX8_init_449 ?_
  refine g_bastj 67 rfl (fun _ => qB78_a44) (ixb_in rfl) ht (fun _ => trivial) dX8_init_451 ?_
  refine g_dup rfl dX8_init_452 ?_
  refine g_bipush (68 : Int32) (by decide) dX8_init_453 ?_
  refine g_bipush (110 : Int32) (by decide) dX8_init_455 ?_
  refine g_bastj 68 rfl (fun _ => qB79_a44) (ixb_in rfl) ht (fun _ => trivial) dX8_init_457 ?_
  exact kk
set_option maxHeartbeats 4000000 in
set_option maxRecDepth 100000 in
theorem zX8_init_10 {E : Ev} {x : Cx} (hR : xR x = rmh 1 26 24222) (ht : xt x) (hr : (xM x).sig.returnType = none) (hnm : (xM x).name = "<init>") (kk : G E Wn x RX8 cX8_init 1 (6, 17017) qB88 506 [(0, .ref (eB E + 38))] [.ref (eB E + 44), .ref (eB E + 38)]) : G E Wn x RX8 cX8_init 1 (6, 17017) qB80 458 [(0, .ref (eB E + 38))] [.ref (eB E + 44), .ref (eB E + 38)] := by
  refine g_dup rfl dX8_init_458 ?_
  refine g_bipush (69 : Int32) (by decide) dX8_init_459 ?_
  refine g_bipush (121 : Int32) (by decide) dX8_init_461 ?_
  refine g_bastj 69 rfl (fun _ => qB80_a44) (ixb_in rfl) ht (fun _ => trivial) dX8_init_463 ?_
  refine g_dup rfl dX8_init_464 ?_
  refine g_bipush (70 : Int32) (by decide) dX8_init_465 ?_
  refine g_bipush (32 : Int32) (by decide) dX8_init_467 ?_
  refine g_bastj 70 rfl (fun _ => qB81_a44) (ixb_in rfl) ht (fun _ => trivial) dX8_init_469 ?_
  refine g_dup rfl dX8_init_470 ?_
  refine g_bipush (71 : Int32) (by decide) dX8_init_471 ?_
  refine g_bipush (114 : Int32) (by decide) dX8_init_473 ?_
  refine g_bastj 71 rfl (fun _ => qB82_a44) (ixb_in rfl) ht (fun _ => trivial) dX8_init_475 ?_
  refine g_dup rfl dX8_init_476 ?_
  refine g_bipush (72 : Int32) (by decide) dX8_init_477 ?_
  refine g_bipush (111 : Int32) (by decide) dX8_init_479 ?_
  refine g_bastj 72 rfl (fun _ => qB83_a44) (ixb_in rfl) ht (fun _ => trivial) dX8_init_481 ?_
  refine g_dup rfl dX8_init_482 ?_
  refine g_bipush (73 : Int32) (by decide) dX8_init_483 ?_
  refine g_bipush (117 : Int32) (by decide) dX8_init_485 ?_
  refine g_bastj 73 rfl (fun _ => qB84_a44) (ixb_in rfl) ht (fun _ => trivial) dX8_init_487 ?_
  refine g_dup rfl dX8_init_488 ?_
  refine g_bipush (74 : Int32) (by decide) dX8_init_489 ?_
  refine g_bipush (110 : Int32) (by decide) dX8_init_491 ?_
  refine g_bastj 74 rfl (fun _ => qB85_a44) (ixb_in rfl) ht (fun _ => trivial) dX8_init_493 ?_
  refine g_dup rfl dX8_init_494 ?_
  refine g_bipush (75 : Int32) (by decide) dX8_init_495 ?_
  refine g_bipush (100 : Int32) (by decide) dX8_init_497 ?_
  refine g_bastj 75 rfl (fun _ => qB86_a44) (ixb_in rfl) ht (fun _ => trivial) dX8_init_499 ?_
  refine g_dup rfl dX8_init_500 ?_
  refine g_bipush (76 : Int32) (by decide) dX8_init_501 ?_
  refine g_bipush (32 : Int32) (by decide) dX8_init_503 ?_
  refine g_bastj 76 rfl (fun _ => qB87_a44) (ixb_in rfl) ht (fun _ => trivial) dX8_init_505 ?_
  exact kk
set_option maxHeartbeats 4000000 in
set_option maxRecDepth 100000 in
theorem zX8_init_11 {E : Ev} {x : Cx} (hR : xR x = rmh 1 26 24222) (ht : xt x) (hr : (xM x).sig.returnType = none) (hnm : (xM x).name = "<init>") (kk : G E Wn x RX8 cX8_init 1 (6, 17017) qB96 554 [(0, .ref (eB E + 38))] [.ref (eB E + 44), .ref (eB E + 38)]) : G E Wn x RX8 cX8_init 1 (6, 17017) qB88 506 [(0, .ref (eB E + 38))] [.ref (eB E + 44), .ref (eB E + 38)] := by
  refine g_dup rfl dX8_init_506 ?_
  refine g_bipush (77 : Int32) (by decide) dX8_init_507 ?_
  refine g_bipush (100 : Int32) (by decide) dX8_init_509 ?_
  refine g_bastj 77 rfl (fun _ => qB88_a44) (ixb_in rfl) ht (fun _ => trivial) dX8_init_511 ?_
  refine g_dup rfl dX8_init_512 ?_
  refine g_bipush (78 : Int32) (by decide) dX8_init_513 ?_
  refine g_bipush (111 : Int32) (by decide) dX8_init_515 ?_
  refine g_bastj 78 rfl (fun _ => qB89_a44) (ixb_in rfl) ht (fun _ => trivial) dX8_init_517 ?_
  refine g_dup rfl dX8_init_518 ?_
  refine g_bipush (79 : Int32) (by decide) dX8_init_519 ?_
  refine g_bipush (110 : Int32) (by decide) dX8_init_521 ?_
  refine g_bastj 79 rfl (fun _ => qB90_a44) (ixb_in rfl) ht (fun _ => trivial) dX8_init_523 ?_
  refine g_dup rfl dX8_init_524 ?_
  refine g_bipush (80 : Int32) (by decide) dX8_init_525 ?_
  refine g_bipush (101 : Int32) (by decide) dX8_init_527 ?_
  refine g_bastj 80 rfl (fun _ => qB91_a44) (ixb_in rfl) ht (fun _ => trivial) dX8_init_529 ?_
  refine g_dup rfl dX8_init_530 ?_
  refine g_bipush (81 : Int32) (by decide) dX8_init_531 ?_
  refine g_bipush (32 : Int32) (by decide) dX8_init_533 ?_
  refine g_bastj 81 rfl (fun _ => qB92_a44) (ixb_in rfl) ht (fun _ => trivial) dX8_init_535 ?_
  refine g_dup rfl dX8_init_536 ?_
  refine g_bipush (82 : Int32) (by decide) dX8_init_537 ?_
  refine g_bipush (108 : Int32) (by decide) dX8_init_539 ?_
  refine g_bastj 82 rfl (fun _ => qB93_a44) (ixb_in rfl) ht (fun _ => trivial) dX8_init_541 ?_
  refine g_dup rfl dX8_init_542 ?_
  refine g_bipush (83 : Int32) (by decide) dX8_init_543 ?_
  refine g_bipush (97 : Int32) (by decide) dX8_init_545 ?_
  refine g_bastj 83 rfl (fun _ => qB94_a44) (ixb_in rfl) ht (fun _ => trivial) dX8_init_547 ?_
  refine g_dup rfl dX8_init_548 ?_
  refine g_bipush (84 : Int32) (by decide) dX8_init_549 ?_
  refine g_bipush (116 : Int32) (by decide) dX8_init_551 ?_
  refine g_bastj 84 rfl (fun _ => qB95_a44) (ixb_in rfl) ht (fun _ => trivial) dX8_init_553 ?_
  exact kk
set_option maxHeartbeats 4000000 in
set_option maxRecDepth 100000 in
theorem zX8_init_12 {E : Ev} {x : Cx} (hR : xR x = rmh 1 26 24222) (ht : xt x) (hr : (xM x).sig.returnType = none) (hnm : (xM x).name = "<init>") (kk : G E Wn x RX8 cX8_init 1 (6, 17017) qB104 602 [(0, .ref (eB E + 38))] [.ref (eB E + 44), .ref (eB E + 38)]) : G E Wn x RX8 cX8_init 1 (6, 17017) qB96 554 [(0, .ref (eB E + 38))] [.ref (eB E + 44), .ref (eB E + 38)] := by
  refine g_dup rfl dX8_init_554 ?_
  refine g_bipush (85 : Int32) (by decide) dX8_init_555 ?_
  refine g_bipush (101 : Int32) (by decide) dX8_init_557 ?_
  refine g_bastj 85 rfl (fun _ => qB96_a44) (ixb_in rfl) ht (fun _ => trivial) dX8_init_559 ?_
  refine g_dup rfl dX8_init_560 ?_
  refine g_bipush (86 : Int32) (by decide) dX8_init_561 ?_
  refine g_bipush (115 : Int32) (by decide) dX8_init_563 ?_
  refine g_bastj 86 rfl (fun _ => qB97_a44) (ixb_in rfl) ht (fun _ => trivial) dX8_init_565 ?_
  refine g_dup rfl dX8_init_566 ?_
  refine g_bipush (87 : Int32) (by decide) dX8_init_567 ?_
  refine g_bipush (116 : Int32) (by decide) dX8_init_569 ?_
  refine g_bastj 87 rfl (fun _ => qB98_a44) (ixb_in rfl) ht (fun _ => trivial) dX8_init_571 ?_
  refine g_dup rfl dX8_init_572 ?_
  refine g_bipush (88 : Int32) (by decide) dX8_init_573 ?_
  refine g_bipush (32 : Int32) (by decide) dX8_init_575 ?_
  refine g_bastj 88 rfl (fun _ => qB99_a44) (ixb_in rfl) ht (fun _ => trivial) dX8_init_577 ?_
  refine g_dup rfl dX8_init_578 ?_
  refine g_bipush (89 : Int32) (by decide) dX8_init_579 ?_
  refine g_bipush (97 : Int32) (by decide) dX8_init_581 ?_
  refine g_bastj 89 rfl (fun _ => qB100_a44) (ixb_in rfl) ht (fun _ => trivial) dX8_init_583 ?_
  refine g_dup rfl dX8_init_584 ?_
  refine g_bipush (90 : Int32) (by decide) dX8_init_585 ?_
  refine g_bipush (116 : Int32) (by decide) dX8_init_587 ?_
  refine g_bastj 90 rfl (fun _ => qB101_a44) (ixb_in rfl) ht (fun _ => trivial) dX8_init_589 ?_
  refine g_dup rfl dX8_init_590 ?_
  refine g_bipush (91 : Int32) (by decide) dX8_init_591 ?_
  refine g_bipush (32 : Int32) (by decide) dX8_init_593 ?_
  refine g_bastj 91 rfl (fun _ => qB102_a44) (ixb_in rfl) ht (fun _ => trivial) dX8_init_595 ?_
  refine g_dup rfl dX8_init_596 ?_
  refine g_bipush (92 : Int32) (by decide) dX8_init_597 ?_
  refine g_bipush (105 : Int32) (by decide) dX8_init_599 ?_
  refine g_bastj 92 rfl (fun _ => qB103_a44) (ixb_in rfl) ht (fun _ => trivial) dX8_init_601 ?_
  exact kk
set_option maxHeartbeats 4000000 in
set_option maxRecDepth 100000 in
theorem zX8_init_13 {E : Ev} {x : Cx} (hR : xR x = rmh 1 26 24222) (ht : xt x) (hr : (xM x).sig.returnType = none) (hnm : (xM x).name = "<init>") (kk : G E Wn x RX8 cX8_init 1 (6, 17017) qB112 650 [(0, .ref (eB E + 38))] [.ref (eB E + 44), .ref (eB E + 38)]) : G E Wn x RX8 cX8_init 1 (6, 17017) qB104 602 [(0, .ref (eB E + 38))] [.ref (eB E + 44), .ref (eB E + 38)] := by
  refine g_dup rfl dX8_init_602 ?_
  refine g_bipush (93 : Int32) (by decide) dX8_init_603 ?_
  refine g_bipush (110 : Int32) (by decide) dX8_init_605 ?_
  refine g_bastj 93 rfl (fun _ => qB104_a44) (ixb_in rfl) ht (fun _ => trivial) dX8_init_607 ?_
  refine g_dup rfl dX8_init_608 ?_
  refine g_bipush (94 : Int32) (by decide) dX8_init_609 ?_
  refine g_bipush (32 : Int32) (by decide) dX8_init_611 ?_
  refine g_bastj 94 rfl (fun _ => qB105_a44) (ixb_in rfl) ht (fun _ => trivial) dX8_init_613 ?_
  refine g_dup rfl dX8_init_614 ?_
  refine g_bipush (95 : Int32) (by decide) dX8_init_615 ?_
  refine g_bipush (115 : Int32) (by decide) dX8_init_617 ?_
  refine g_bastj 95 rfl (fun _ => qB106_a44) (ixb_in rfl) ht (fun _ => trivial) dX8_init_619 ?_
  refine g_dup rfl dX8_init_620 ?_
  refine g_bipush (96 : Int32) (by decide) dX8_init_621 ?_
  refine g_bipush (97 : Int32) (by decide) dX8_init_623 ?_
  refine g_bastj 96 rfl (fun _ => qB107_a44) (ixb_in rfl) ht (fun _ => trivial) dX8_init_625 ?_
  refine g_dup rfl dX8_init_626 ?_
  refine g_bipush (97 : Int32) (by decide) dX8_init_627 ?_
  refine g_bipush (121 : Int32) (by decide) dX8_init_629 ?_
  refine g_bastj 97 rfl (fun _ => qB108_a44) (ixb_in rfl) ht (fun _ => trivial) dX8_init_631 ?_
  refine g_dup rfl dX8_init_632 ?_
  refine g_bipush (98 : Int32) (by decide) dX8_init_633 ?_
  refine g_bipush (32 : Int32) (by decide) dX8_init_635 ?_
  refine g_bastj 98 rfl (fun _ => qB109_a44) (ixb_in rfl) ht (fun _ => trivial) dX8_init_637 ?_
  refine g_dup rfl dX8_init_638 ?_
  refine g_bipush (99 : Int32) (by decide) dX8_init_639 ?_
  refine g_bipush (106 : Int32) (by decide) dX8_init_641 ?_
  refine g_bastj 99 rfl (fun _ => qB110_a44) (ixb_in rfl) ht (fun _ => trivial) dX8_init_643 ?_
  refine g_dup rfl dX8_init_644 ?_
  refine g_bipush (100 : Int32) (by decide) dX8_init_645 ?_
  refine g_bipush (111 : Int32) (by decide) dX8_init_647 ?_
  refine g_bastj 100 rfl (fun _ => qB111_a44) (ixb_in rfl) ht (fun _ => trivial) dX8_init_649 ?_
  exact kk
set_option maxHeartbeats 4000000 in
set_option maxRecDepth 100000 in
theorem zX8_init_14 {E : Ev} {x : Cx} (hR : xR x = rmh 1 26 24222) (ht : xt x) (hr : (xM x).sig.returnType = none) (hnm : (xM x).name = "<init>") (kk : G E Wn x RX8 cX8_init 1 (6, 17017) qB120 698 [(0, .ref (eB E + 38))] [.ref (eB E + 44), .ref (eB E + 38)]) : G E Wn x RX8 cX8_init 1 (6, 17017) qB112 650 [(0, .ref (eB E + 38))] [.ref (eB E + 44), .ref (eB E + 38)] := by
  refine g_dup rfl dX8_init_650 ?_
  refine g_bipush (101 : Int32) (by decide) dX8_init_651 ?_
  refine g_bipush (105 : Int32) (by decide) dX8_init_653 ?_
  refine g_bastj 101 rfl (fun _ => qB112_a44) (ixb_in rfl) ht (fun _ => trivial) dX8_init_655 ?_
  refine g_dup rfl dX8_init_656 ?_
  refine g_bipush (102 : Int32) (by decide) dX8_init_657 ?_
  refine g_bipush (110 : Int32) (by decide) dX8_init_659 ?_
  refine g_bastj 102 rfl (fun _ => qB113_a44) (ixb_in rfl) ht (fun _ => trivial) dX8_init_661 ?_
  refine g_dup rfl dX8_init_662 ?_
  refine g_bipush (103 : Int32) (by decide) dX8_init_663 ?_
  refine g_bipush (32 : Int32) (by decide) dX8_init_665 ?_
  refine g_bastj 103 rfl (fun _ => qB114_a44) (ixb_in rfl) ht (fun _ => trivial) dX8_init_667 ?_
  refine g_dup rfl dX8_init_668 ?_
  refine g_bipush (104 : Int32) (by decide) dX8_init_669 ?_
  refine g_bipush (108 : Int32) (by decide) dX8_init_671 ?_
  refine g_bastj 104 rfl (fun _ => qB115_a44) (ixb_in rfl) ht (fun _ => trivial) dX8_init_673 ?_
  refine g_dup rfl dX8_init_674 ?_
  refine g_bipush (105 : Int32) (by decide) dX8_init_675 ?_
  refine g_bipush (101 : Int32) (by decide) dX8_init_677 ?_
  refine g_bastj 105 rfl (fun _ => qB116_a44) (ixb_in rfl) ht (fun _ => trivial) dX8_init_679 ?_
  refine g_dup rfl dX8_init_680 ?_
  refine g_bipush (106 : Int32) (by decide) dX8_init_681 ?_
  refine g_bipush (97 : Int32) (by decide) dX8_init_683 ?_
  refine g_bastj 106 rfl (fun _ => qB117_a44) (ixb_in rfl) ht (fun _ => trivial) dX8_init_685 ?_
  refine g_dup rfl dX8_init_686 ?_
  refine g_bipush (107 : Int32) (by decide) dX8_init_687 ?_
  refine g_bipush (118 : Int32) (by decide) dX8_init_689 ?_
  refine g_bastj 107 rfl (fun _ => qB118_a44) (ixb_in rfl) ht (fun _ => trivial) dX8_init_691 ?_
  refine g_dup rfl dX8_init_692 ?_
  refine g_bipush (108 : Int32) (by decide) dX8_init_693 ?_
  refine g_bipush (101 : Int32) (by decide) dX8_init_695 ?_
  refine g_bastj 108 rfl (fun _ => qB119_a44) (ixb_in rfl) ht (fun _ => trivial) dX8_init_697 ?_
  exact kk
set_option maxHeartbeats 4000000 in
set_option maxRecDepth 100000 in
theorem zX8_init_15 {E : Ev} {x : Cx} (hR : xR x = rmh 1 26 24222) (ht : xt x) (hr : (xM x).sig.returnType = none) (hnm : (xM x).name = "<init>") (kk : G E Wn x RX8 cX8_init 1 (6, 17017) qB128 746 [(0, .ref (eB E + 38))] [.ref (eB E + 44), .ref (eB E + 38)]) : G E Wn x RX8 cX8_init 1 (6, 17017) qB120 698 [(0, .ref (eB E + 38))] [.ref (eB E + 44), .ref (eB E + 38)] := by
  refine g_dup rfl dX8_init_698 ?_
  refine g_bipush (109 : Int32) (by decide) dX8_init_699 ?_
  refine g_bipush (32 : Int32) (by decide) dX8_init_701 ?_
  refine g_bastj 109 rfl (fun _ => qB120_a44) (ixb_in rfl) ht (fun _ => trivial) dX8_init_703 ?_
  refine g_dup rfl dX8_init_704 ?_
  refine g_bipush (110 : Int32) (by decide) dX8_init_705 ?_
  refine g_bipush (112 : Int32) (by decide) dX8_init_707 ?_
  refine g_bastj 110 rfl (fun _ => qB121_a44) (ixb_in rfl) ht (fun _ => trivial) dX8_init_709 ?_
  refine g_dup rfl dX8_init_710 ?_
  refine g_bipush (111 : Int32) (by decide) dX8_init_711 ?_
  refine g_bipush (97 : Int32) (by decide) dX8_init_713 ?_
  refine g_bastj 111 rfl (fun _ => qB122_a44) (ixb_in rfl) ht (fun _ => trivial) dX8_init_715 ?_
  refine g_dup rfl dX8_init_716 ?_
  refine g_bipush (112 : Int32) (by decide) dX8_init_717 ?_
  refine g_bipush (115 : Int32) (by decide) dX8_init_719 ?_
  refine g_bastj 112 rfl (fun _ => qB123_a44) (ixb_in rfl) ht (fun _ => trivial) dX8_init_721 ?_
  refine g_dup rfl dX8_init_722 ?_
  refine g_bipush (113 : Int32) (by decide) dX8_init_723 ?_
  refine g_bipush (115 : Int32) (by decide) dX8_init_725 ?_
  refine g_bastj 113 rfl (fun _ => qB124_a44) (ixb_in rfl) ht (fun _ => trivial) dX8_init_727 ?_
  refine g_dup rfl dX8_init_728 ?_
  refine g_bipush (114 : Int32) (by decide) dX8_init_729 ?_
  refine g_bipush (32 : Int32) (by decide) dX8_init_731 ?_
  refine g_bastj 114 rfl (fun _ => qB125_a44) (ixb_in rfl) ht (fun _ => trivial) dX8_init_733 ?_
  refine g_dup rfl dX8_init_734 ?_
  refine g_bipush (115 : Int32) (by decide) dX8_init_735 ?_
  refine g_bipush (116 : Int32) (by decide) dX8_init_737 ?_
  refine g_bastj 115 rfl (fun _ => qB126_a44) (ixb_in rfl) ht (fun _ => trivial) dX8_init_739 ?_
  refine g_dup rfl dX8_init_740 ?_
  refine g_bipush (116 : Int32) (by decide) dX8_init_741 ?_
  refine g_bipush (105 : Int32) (by decide) dX8_init_743 ?_
  refine g_bastj 116 rfl (fun _ => qB127_a44) (ixb_in rfl) ht (fun _ => trivial) dX8_init_745 ?_
  exact kk
set_option maxHeartbeats 4000000 in
set_option maxRecDepth 100000 in
theorem zX8_init_16 {E : Ev} {x : Cx} (hR : xR x = rmh 1 26 24222) (ht : xt x) (hr : (xM x).sig.returnType = none) (hnm : (xM x).name = "<init>") (kk : G E Wn x RX8 cX8_init 1 (8, 17422) qB136 786 [(0, .ref (eB E + 38))] [.ref (eB E + 46), .ref (eB E + 38)]) : G E Wn x RX8 cX8_init 1 (6, 17017) qB128 746 [(0, .ref (eB E + 38))] [.ref (eB E + 44), .ref (eB E + 38)] := by
  refine g_dup rfl dX8_init_746 ?_
  refine g_bipush (117 : Int32) (by decide) dX8_init_747 ?_
  refine g_bipush (109 : Int32) (by decide) dX8_init_749 ?_
  refine g_bastj 117 rfl (fun _ => qB128_a44) (ixb_in rfl) ht (fun _ => trivial) dX8_init_751 ?_
  refine g_dup rfl dX8_init_752 ?_
  refine g_bipush (118 : Int32) (by decide) dX8_init_753 ?_
  refine g_bipush (101 : Int32) (by decide) dX8_init_755 ?_
  refine g_bastj 118 rfl (fun _ => qB129_a44) (ixb_in rfl) ht (fun _ => trivial) dX8_init_757 ?_
  refine g_dup rfl dX8_init_758 ?_
  refine g_bipush (119 : Int32) (by decide) dX8_init_759 ?_
  refine g_bipush (115 : Int32) (by decide) dX8_init_761 ?_
  refine g_bastj 119 rfl (fun _ => qB130_a44) (ixb_in rfl) ht (fun _ => trivial) dX8_init_763 ?_
  refine g_dup rfl dX8_init_764 ?_
  refine g_bipush (120 : Int32) (by decide) dX8_init_765 ?_
  refine g_bipush (32 : Int32) (by decide) dX8_init_767 ?_
  refine g_bastj 120 rfl (fun _ => qB131_a44) (ixb_in rfl) ht (fun _ => trivial) dX8_init_769 ?_
  refine g_putF (j := 7) cok8 (by decide) rfl rfl hnm rfl rfl rfl tw4_182 (fun _ => qB132_o) ht (fun _ => trivial) dX8_init_770 ?_
  refine g_aload_n rfl 0 rfl dX8_init_773 ?_
  refine g_sipush (400 : Int32) (by decide) dX8_init_774 ?_
  refine g_newaL_byte 45 400 7 17417 qB133_s (by decide) rfl (by decide) hR rfl rfl ⟨by decide, by decide⟩ ht (fun _ => trivial) dX8_init_777 ?_
  refine g_putF (j := 11) cok8 (by decide) rfl rfl hnm rfl rfl rfl tw4_186 (fun _ => qB134_o) ht (fun _ => trivial) dX8_init_779 ?_
  refine g_aload_n rfl 0 rfl dX8_init_782 ?_
  refine g_iconst (5 : Int32) (by decide) dX8_init_783 ?_
  refine g_newaL_int 46 5 8 17422 qB135_s (by decide) rfl (by decide) hR rfl rfl ⟨by decide, by decide⟩ ht (fun _ => trivial) dX8_init_784 ?_
  exact kk
set_option maxHeartbeats 4000000 in
set_option maxRecDepth 100000 in
theorem zX8_init_17 {E : Ev} {x : Cx} (hR : xR x = rmh 1 26 24222) (ht : xt x) (hr : (xM x).sig.returnType = none) (hnm : (xM x).name = "<init>") (kk : G E Wn x RX8 cX8_init 1 (11, 18625) qB144 821 [(0, .ref (eB E + 38))] []) : G E Wn x RX8 cX8_init 1 (8, 17422) qB136 786 [(0, .ref (eB E + 38))] [.ref (eB E + 46), .ref (eB E + 38)] := by
  refine g_putF (j := 12) cok8 (by decide) rfl rfl hnm rfl rfl rfl tw4_187 (fun _ => qB136_o) ht (fun _ => trivial) dX8_init_786 ?_
  refine g_aload_n rfl 0 rfl dX8_init_789 ?_
  refine g_iconst (-1 : Int32) (by decide) dX8_init_790 ?_
  refine g_putI (j := 14) cok8 (by decide) rfl rfl rfl rfl (Or.inl tw4_189) (fun _ => qB137_o) ht (fun _ => trivial) dX8_init_791 ?_
  refine g_aload_n rfl 0 rfl dX8_init_794 ?_
  refine g_sipush (401 : Int32) (by decide) dX8_init_795 ?_
  refine g_newaL_int 47 401 9 17823 qB138_s (by decide) rfl (by decide) hR rfl rfl ⟨by decide, by decide⟩ ht (fun _ => trivial) dX8_init_798 ?_
  refine g_putF (j := 15) cok8 (by decide) rfl rfl hnm rfl rfl rfl tw4_190 (fun _ => qB139_o) ht (fun _ => trivial) dX8_init_800 ?_
  refine g_aload_n rfl 0 rfl dX8_init_803 ?_
  refine g_sipush (401 : Int32) (by decide) dX8_init_804 ?_
  refine g_newaL_int 48 401 10 18224 qB140_s (by decide) rfl (by decide) hR rfl rfl ⟨by decide, by decide⟩ ht (fun _ => trivial) dX8_init_807 ?_
  refine g_putF (j := 16) cok8 (by decide) rfl rfl hnm rfl rfl rfl tw4_191 (fun _ => qB141_o) ht (fun _ => trivial) dX8_init_809 ?_
  refine g_aload_n rfl 0 rfl dX8_init_812 ?_
  refine g_sipush (401 : Int32) (by decide) dX8_init_813 ?_
  refine g_newaL_int 49 401 11 18625 qB142_s (by decide) rfl (by decide) hR rfl rfl ⟨by decide, by decide⟩ ht (fun _ => trivial) dX8_init_816 ?_
  refine g_putF (j := 17) cok8 (by decide) rfl rfl hnm rfl rfl rfl tw4_192 (fun _ => qB143_o) ht (fun _ => trivial) dX8_init_818 ?_
  exact kk
set_option maxHeartbeats 4000000 in
set_option maxRecDepth 100000 in
theorem zX8_init_18 {E : Ev} {x : Cx} (hR : xR x = rmh 1 26 24222) (ht : xt x) (hr : (xM x).sig.returnType = none) (hnm : (xM x).name = "<init>") (kk : G E Wn x RX8 cX8_init 1 (15, 18776) qB152 853 [(0, .ref (eB E + 38))] []) : G E Wn x RX8 cX8_init 1 (11, 18625) qB144 821 [(0, .ref (eB E + 38))] [] := by
  refine g_aload_n rfl 0 rfl dX8_init_821 ?_
  refine g_bipush (7 : Int32) (by decide) dX8_init_822 ?_
  refine g_newaL_int 50 7 12 18632 qB144_s (by decide) rfl (by decide) hR rfl rfl ⟨by decide, by decide⟩ ht (fun _ => trivial) dX8_init_824 ?_
  refine g_putF (j := 26) cok8 (by decide) rfl rfl hnm rfl rfl rfl tw4_201 (fun _ => qB145_o) ht (fun _ => trivial) dX8_init_826 ?_
  refine g_aload_n rfl 0 rfl dX8_init_829 ?_
  refine g_bipush (16 : Int32) (by decide) dX8_init_830 ?_
  refine g_newaL_int 51 16 13 18648 qB146_s (by decide) rfl (by decide) hR rfl rfl ⟨by decide, by decide⟩ ht (fun _ => trivial) dX8_init_832 ?_
  refine g_putF (j := 29) cok8 (by decide) rfl rfl hnm rfl rfl rfl tw4_204 (fun _ => qB147_o) ht (fun _ => trivial) dX8_init_834 ?_
  refine g_aload_n rfl 0 rfl dX8_init_837 ?_
  refine g_bipush (64 : Int32) (by decide) dX8_init_838 ?_
  refine g_newaL_int 52 64 14 18712 qB148_s (by decide) rfl (by decide) hR rfl rfl ⟨by decide, by decide⟩ ht (fun _ => trivial) dX8_init_840 ?_
  refine g_putF (j := 30) cok8 (by decide) rfl rfl hnm rfl rfl rfl tw4_205 (fun _ => qB149_o) ht (fun _ => trivial) dX8_init_842 ?_
  refine g_aload_n rfl 0 rfl dX8_init_845 ?_
  refine g_bipush (64 : Int32) (by decide) dX8_init_846 ?_
  refine g_newaL_int 53 64 15 18776 qB150_s (by decide) rfl (by decide) hR rfl rfl ⟨by decide, by decide⟩ ht (fun _ => trivial) dX8_init_848 ?_
  refine g_putF (j := 31) cok8 (by decide) rfl rfl hnm rfl rfl rfl tw4_206 (fun _ => qB151_o) ht (fun _ => trivial) dX8_init_850 ?_
  exact kk
set_option maxHeartbeats 4000000 in
set_option maxRecDepth 100000 in
theorem zX8_init_19 {E : Ev} {x : Cx} (hR : xR x = rmh 1 26 24222) (ht : xt x) (hr : (xM x).sig.returnType = none) (hnm : (xM x).name = "<init>") (kk : G E Wn x RX8 cX8_init 1 (19, 21524) qB160 888 [(0, .ref (eB E + 38))] []) : G E Wn x RX8 cX8_init 1 (15, 18776) qB152 853 [(0, .ref (eB E + 38))] [] := by
  refine g_aload_n rfl 0 rfl dX8_init_853 ?_
  refine g_bipush (60 : Int32) (by decide) dX8_init_854 ?_
  refine g_newaL_int 54 60 16 18836 qB152_s (by decide) rfl (by decide) hR rfl rfl ⟨by decide, by decide⟩ ht (fun _ => trivial) dX8_init_856 ?_
  refine g_putF (j := 33) cok8 (by decide) rfl rfl hnm rfl rfl rfl tw4_208 (fun _ => qB153_o) ht (fun _ => trivial) dX8_init_858 ?_
  refine g_aload_n rfl 0 rfl dX8_init_861 ?_
  refine g_sipush (1920 : Int32) (by decide) dX8_init_862 ?_
  refine g_newaL_int 55 1920 17 20756 qB154_s (by decide) rfl (by decide) hR rfl rfl ⟨by decide, by decide⟩ ht (fun _ => trivial) dX8_init_865 ?_
  refine g_putF (j := 35) cok8 (by decide) rfl rfl hnm rfl rfl rfl tw4_210 (fun _ => qB155_o) ht (fun _ => trivial) dX8_init_867 ?_
  refine g_aload_n rfl 0 rfl dX8_init_870 ?_
  refine g_sipush (384 : Int32) (by decide) dX8_init_871 ?_
  refine g_newaL_int 56 384 18 21140 qB156_s (by decide) rfl (by decide) hR rfl rfl ⟨by decide, by decide⟩ ht (fun _ => trivial) dX8_init_874 ?_
  refine g_putF (j := 36) cok8 (by decide) rfl rfl hnm rfl rfl rfl tw4_211 (fun _ => qB157_o) ht (fun _ => trivial) dX8_init_876 ?_
  refine g_aload_n rfl 0 rfl dX8_init_879 ?_
  refine g_sipush (384 : Int32) (by decide) dX8_init_880 ?_
  refine g_newaL_int 57 384 19 21524 qB158_s (by decide) rfl (by decide) hR rfl rfl ⟨by decide, by decide⟩ ht (fun _ => trivial) dX8_init_883 ?_
  refine g_putF (j := 37) cok8 (by decide) rfl rfl hnm rfl rfl rfl tw4_212 (fun _ => qB159_o) ht (fun _ => trivial) dX8_init_885 ?_
  exact kk
set_option maxHeartbeats 4000000 in
set_option maxRecDepth 100000 in
theorem zX8_init_20 {E : Ev} {x : Cx} (hR : xR x = rmh 1 26 24222) (ht : xt x) (hr : (xM x).sig.returnType = none) (hnm : (xM x).name = "<init>") (kk : G E Wn x RX8 cX8_init 1 (23, 23444) qB168 924 [(0, .ref (eB E + 38))] []) : G E Wn x RX8 cX8_init 1 (19, 21524) qB160 888 [(0, .ref (eB E + 38))] [] := by
  refine g_aload_n rfl 0 rfl dX8_init_888 ?_
  refine g_sipush (384 : Int32) (by decide) dX8_init_889 ?_
  refine g_newaL_int 58 384 20 21908 qB160_s (by decide) rfl (by decide) hR rfl rfl ⟨by decide, by decide⟩ ht (fun _ => trivial) dX8_init_892 ?_
  refine g_putF (j := 38) cok8 (by decide) rfl rfl hnm rfl rfl rfl tw4_213 (fun _ => qB161_o) ht (fun _ => trivial) dX8_init_894 ?_
  refine g_aload_n rfl 0 rfl dX8_init_897 ?_
  refine g_sipush (384 : Int32) (by decide) dX8_init_898 ?_
  refine g_newaL_boolean 59 384 21 22292 qB162_s (by decide) rfl (by decide) hR rfl rfl ⟨by decide, by decide⟩ ht (fun _ => trivial) dX8_init_901 ?_
  refine g_putF (j := 39) cok8 (by decide) rfl rfl hnm rfl rfl rfl tw4_214 (fun _ => qB163_o) ht (fun _ => trivial) dX8_init_903 ?_
  refine g_aload_n rfl 0 rfl dX8_init_906 ?_
  refine g_sipush (384 : Int32) (by decide) dX8_init_907 ?_
  refine g_newaL_int 60 384 22 22676 qB164_s (by decide) rfl (by decide) hR rfl rfl ⟨by decide, by decide⟩ ht (fun _ => trivial) dX8_init_910 ?_
  refine g_putF (j := 41) cok8 (by decide) rfl rfl hnm rfl rfl rfl tw4_216 (fun _ => qB165_o) ht (fun _ => trivial) dX8_init_912 ?_
  refine g_aload_n rfl 0 rfl dX8_init_915 ?_
  refine g_sipush (768 : Int32) (by decide) dX8_init_916 ?_
  refine g_newaL_int 61 768 23 23444 qB166_s (by decide) rfl (by decide) hR rfl rfl ⟨by decide, by decide⟩ ht (fun _ => trivial) dX8_init_919 ?_
  refine g_putF (j := 42) cok8 (by decide) rfl rfl hnm rfl rfl rfl tw4_217 (fun _ => qB167_o) ht (fun _ => trivial) dX8_init_921 ?_
  exact kk
set_option maxHeartbeats 4000000 in
set_option maxRecDepth 100000 in
theorem zX8_init_21 {E : Ev} {x : Cx} (hR : xR x = rmh 1 26 24222) (ht : xt x) (hr : (xM x).sig.returnType = none) (hnm : (xM x).name = "<init>") (kk : G E Wn x RX8 cX8_init 1 (26, 24222) qB176 958 [(0, .ref (eB E + 38))] []) : G E Wn x RX8 cX8_init 1 (23, 23444) qB168 924 [(0, .ref (eB E + 38))] [] := by
  refine g_aload_n rfl 0 rfl dX8_init_924 ?_
  refine g_sipush (768 : Int32) (by decide) dX8_init_925 ?_
  refine g_newaL_long 62 768 24 24212 qB168_s (by decide) rfl (by decide) hR rfl rfl ⟨by decide, by decide⟩ ht (fun _ => trivial) dX8_init_928 ?_
  refine g_putF (j := 44) cok8 (by decide) rfl rfl hnm rfl rfl rfl tw4_219 (fun _ => qB169_o) ht (fun _ => trivial) dX8_init_930 ?_
  refine g_aload_n rfl 0 rfl dX8_init_933 ?_
  refine g_iconst (4 : Int32) (by decide) dX8_init_934 ?_
  refine g_newaL_int 63 4 25 24216 qB170_s (by decide) rfl (by decide) hR rfl rfl ⟨by decide, by decide⟩ ht (fun _ => trivial) dX8_init_935 ?_
  refine g_putF (j := 45) cok8 (by decide) rfl rfl hnm rfl rfl rfl tw4_220 (fun _ => qB171_o) ht (fun _ => trivial) dX8_init_937 ?_
  refine g_aload_n rfl 0 rfl dX8_init_940 ?_
  refine g_iconst (-1 : Int32) (by decide) dX8_init_941 ?_
  refine g_putI (j := 46) cok8 (by decide) rfl rfl rfl rfl (Or.inl tw4_221) (fun _ => qB172_o) ht (fun _ => trivial) dX8_init_942 ?_
  refine g_aload_n rfl 0 rfl dX8_init_945 ?_
  refine g_bipush (6 : Int32) (by decide) dX8_init_946 ?_
  refine g_newaL_int 64 6 26 24222 qB173_s (by decide) rfl (by decide) hR rfl rfl ⟨by decide, by decide⟩ ht (fun _ => trivial) dX8_init_948 ?_
  refine g_putF (j := 54) cok8 (by decide) rfl rfl hnm rfl rfl rfl tw4_229 (fun _ => qB174_o) ht (fun _ => trivial) dX8_init_950 ?_
  refine g_aload_n rfl 0 rfl dX8_init_953 ?_
  refine g_iconst (-1 : Int32) (by decide) dX8_init_954 ?_
  refine g_putI (j := 55) cok8 (by decide) rfl rfl rfl rfl (Or.inl tw4_230) (fun _ => qB175_o) ht (fun _ => trivial) dX8_init_955 ?_
  exact kk
set_option maxHeartbeats 4000000 in
set_option maxRecDepth 100000 in
theorem zX8_init_22 {E : Ev} {x : Cx} (hR : xR x = rmh 1 26 24222) (ht : xt x) (hr : (xM x).sig.returnType = none) (hnm : (xM x).name = "<init>") (hQ : QM E Wn x none qB178 (26, 24222)) : G E Wn x RX8 cX8_init 1 (26, 24222) qB176 958 [(0, .ref (eB E + 38))] [] := by
  refine g_aload_n rfl 0 rfl dX8_init_958 ?_
  refine g_get (j := 2) cok8 (by decide) (.ref (eB E + 40)) (Or.inl tw4_177) (fun _ => qB176_o) (fun _ => slot_ref rfl (show sR qB176 38 2 = some 40 by decide +kernel)) dX8_init_959 ?_
  refine g_bipush (14 : Int32) (by decide) dX8_init_962 ?_
  refine g_iconst (1 : Int32) (by decide) dX8_init_964 ?_
  refine g_iastj 14 rfl (fun _ => qB176_a40) (ixb_in rfl) ht (fun _ => trivial) dX8_init_965 ?_
  refine g_aload_n rfl 0 rfl dX8_init_966 ?_
  refine g_get (j := 2) cok8 (by decide) (.ref (eB E + 40)) (Or.inl tw4_177) (fun _ => qB177_o) (fun _ => slot_ref rfl (show sR qB177 38 2 = some 40 by decide +kernel)) dX8_init_967 ?_
  refine g_bipush (19 : Int32) (by decide) dX8_init_970 ?_
  refine g_iconst (-1 : Int32) (by decide) dX8_init_972 ?_
  refine g_iastj 19 rfl (fun _ => qB177_a40) (ixb_in rfl) ht (fun _ => trivial) dX8_init_973 ?_
  exact g_ret hQ hr rfl rfl dX8_init_974
theorem kX8_init {l : Launch} {E : Ev} : CM l E Wn yX8_init cX8_init 1 none 1 26 24222 [.ref (eB E + 38)] qB0 none qB178 :=
  CM.intro mok_X8_init (Nat.le_of_ble_eq_true rfl) (fun x hl hR ht hr hQ hnm => (zX8_init_0 hR ht hr hnm (zX8_init_1 hR ht hr hnm (zX8_init_2 hR ht hr hnm (zX8_init_3 hR ht hr hnm (zX8_init_4 hR ht hr hnm (zX8_init_5 hR ht hr hnm (zX8_init_6 hR ht hr hnm (zX8_init_7 hR ht hr hnm (zX8_init_8 hR ht hr hnm (zX8_init_9 hR ht hr hnm (zX8_init_10 hR ht hr hnm (zX8_init_11 hR ht hr hnm (zX8_init_12 hR ht hr hnm (zX8_init_13 hR ht hr hnm (zX8_init_14 hR ht hr hnm (zX8_init_15 hR ht hr hnm (zX8_init_16 hR ht hr hnm (zX8_init_17 hR ht hr hnm (zX8_init_18 hR ht hr hnm (zX8_init_19 hR ht hr hnm (zX8_init_20 hR ht hr hnm (zX8_init_21 hR ht hr hnm (zX8_init_22 hR ht hr hnm hQ))))))))))))))))))))))))
