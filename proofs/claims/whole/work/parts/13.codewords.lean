/-! CODE WORDS of the methods in the tables; printed by wip/whole/tools/tab.py. -/
def pm_cwp (r : pm_MT) : Prop := Cond.code r.2.2.2.2.1 r.2.2.2.2.2.1 r.2.1 r.2.2.2.1 ∈ lw_tbl
theorem pm_cw_all {l : List pm_MT} {r : pm_MT} (h : pm_cwp r) (k : ∀ x ∈ l, pm_cwp x) : ∀ x ∈ r :: l, pm_cwp x := by
  intro x hx
  rcases List.mem_cons.mp hx with rfl | hx
  · exact h
  · exact k x hx
set_option maxRecDepth 100000 in
theorem pt_w0 : pm_cwp pt_m0 := List.mem_of_getElem? (i := 61) (by rfl)
set_option maxRecDepth 100000 in
theorem pt_w1 : pm_cwp pt_m1 := List.mem_of_getElem? (i := 204) (by rfl)
set_option maxRecDepth 100000 in
theorem pt_w2 : pm_cwp pt_m2 := List.mem_of_getElem? (i := 255) (by rfl)
set_option maxRecDepth 100000 in
theorem pt_w3 : pm_cwp pt_m3 := List.mem_of_getElem? (i := 277) (by rfl)
set_option maxRecDepth 100000 in
theorem pt_w4 : pm_cwp pt_m4 := List.mem_of_getElem? (i := 289) (by rfl)
set_option maxRecDepth 100000 in
theorem pt_w5 : pm_cwp pt_m5 := List.mem_of_getElem? (i := 305) (by rfl)
set_option maxRecDepth 100000 in
theorem pt_w6 : pm_cwp pt_m6 := List.mem_of_getElem? (i := 437) (by rfl)
set_option maxRecDepth 100000 in
theorem pt_w7 : pm_cwp pt_m7 := List.mem_of_getElem? (i := 441) (by rfl)
set_option maxRecDepth 100000 in
theorem pt_w8 : pm_cwp pt_m8 := List.mem_of_getElem? (i := 454) (by rfl)
set_option maxRecDepth 100000 in
theorem pt_w9 : pm_cwp pt_m9 := List.mem_of_getElem? (i := 475) (by rfl)
set_option maxRecDepth 100000 in
theorem pt_w10 : pm_cwp pt_m10 := List.mem_of_getElem? (i := 483) (by rfl)
set_option maxRecDepth 100000 in
theorem pt_w11 : pm_cwp pt_m11 := List.mem_of_getElem? (i := 494) (by rfl)
set_option maxRecDepth 100000 in
theorem pt_w12 : pm_cwp pt_m12 := List.mem_of_getElem? (i := 511) (by rfl)
set_option maxRecDepth 100000 in
theorem pt_w13 : pm_cwp pt_m13 := List.mem_of_getElem? (i := 515) (by rfl)
set_option maxRecDepth 100000 in
theorem pt_w14 : pm_cwp pt_m14 := List.mem_of_getElem? (i := 519) (by rfl)
set_option maxRecDepth 100000 in
theorem pt_w15 : pm_cwp pt_m15 := List.mem_of_getElem? (i := 565) (by rfl)
set_option maxRecDepth 100000 in
theorem pt_w16 : pm_cwp pt_m16 := List.mem_of_getElem? (i := 569) (by rfl)
set_option maxRecDepth 100000 in
theorem pt_w17 : pm_cwp pt_m17 := List.mem_of_getElem? (i := 575) (by rfl)
set_option maxRecDepth 100000 in
theorem pt_w18 : pm_cwp pt_m18 := List.mem_of_getElem? (i := 583) (by rfl)
set_option maxRecDepth 100000 in
theorem pt_w19 : pm_cwp pt_m19 := List.mem_of_getElem? (i := 657) (by rfl)
set_option maxRecDepth 100000 in
theorem pt_w20 : pm_cwp pt_m20 := List.mem_of_getElem? (i := 490) (by rfl)
set_option maxRecDepth 100000 in
theorem pt_w21 : pm_cwp pt_m21 := List.mem_of_getElem? (i := 497) (by rfl)
set_option maxRecDepth 100000 in
theorem pt_w22 : pm_cwp pt_m22 := List.mem_of_getElem? (i := 313) (by rfl)
set_option maxRecDepth 100000 in
theorem pt_w23 : pm_cwp pt_m23 := List.mem_of_getElem? (i := 309) (by rfl)
set_option maxRecDepth 100000 in
theorem pt_w24 : pm_cwp pt_m24 := List.mem_of_getElem? (i := 662) (by rfl)
set_option maxRecDepth 100000 in
theorem pt_w25 : pm_cwp pt_m25 := List.mem_of_getElem? (i := 449) (by rfl)
set_option maxRecDepth 100000 in
theorem pt_w26 : pm_cwp pt_m26 := List.mem_of_getElem? (i := 384) (by rfl)
set_option maxRecDepth 100000 in
theorem pt_w27 : pm_cwp pt_m27 := List.mem_of_getElem? (i := 405) (by rfl)
set_option maxRecDepth 100000 in
theorem pt_w28 : pm_cwp pt_m28 := List.mem_of_getElem? (i := 524) (by rfl)
set_option maxRecDepth 100000 in
theorem pt_w29 : pm_cwp pt_m29 := List.mem_of_getElem? (i := 528) (by rfl)
set_option maxRecDepth 100000 in
theorem pt_w30 : pm_cwp pt_m30 := List.mem_of_getElem? (i := 538) (by rfl)
set_option maxRecDepth 100000 in
theorem pt_w31 : pm_cwp pt_m31 := List.mem_of_getElem? (i := 549) (by rfl)
set_option maxRecDepth 100000 in
theorem pt_w32 : pm_cwp pt_m32 := List.mem_of_getElem? (i := 561) (by rfl)
set_option maxRecDepth 100000 in
theorem pt_w33 : pm_cwp pt_m33 := List.mem_of_getElem? (i := 110) (by rfl)
set_option maxRecDepth 100000 in
theorem pt_w34 : pm_cwp pt_m34 := List.mem_of_getElem? (i := 264) (by rfl)
set_option maxRecDepth 100000 in
theorem pt_w35 : pm_cwp pt_m35 := List.mem_of_getElem? (i := 285) (by rfl)
set_option maxRecDepth 100000 in
theorem pt_w36 : pm_cwp pt_m36 := List.mem_of_getElem? (i := 342) (by rfl)
set_option maxRecDepth 100000 in
theorem pt_w37 : pm_cwp pt_m37 := List.mem_of_getElem? (i := 281) (by rfl)
set_option maxRecDepth 100000 in
theorem pt_w38 : pm_cwp pt_m38 := List.mem_of_getElem? (i := 273) (by rfl)
set_option maxRecDepth 100000 in
theorem pt_w39 : pm_cwp pt_m39 := List.mem_of_getElem? (i := 338) (by rfl)
set_option maxRecDepth 100000 in
theorem pt_w40 : pm_cwp pt_m40 := List.mem_of_getElem? (i := 579) (by rfl)
set_option maxRecDepth 100000 in
theorem pt_w41 : pm_cwp pt_m41 := List.mem_of_getElem? (i := 251) (by rfl)
set_option maxRecDepth 100000 in
theorem pt_w42 : pm_cwp pt_m42 := List.mem_of_getElem? (i := 371) (by rfl)
set_option maxRecDepth 100000 in
theorem pt_w43 : pm_cwp pt_m43 := List.mem_of_getElem? (i := 69) (by rfl)
set_option maxRecDepth 100000 in
theorem pt_w44 : pm_cwp pt_m44 := List.mem_of_getElem? (i := 347) (by rfl)
set_option maxRecDepth 100000 in
theorem pt_w45 : pm_cwp pt_m45 := List.mem_of_getElem? (i := 356) (by rfl)
set_option maxRecDepth 100000 in
theorem pt_w46 : pm_cwp pt_m46 := List.mem_of_getElem? (i := 359) (by rfl)
set_option maxRecDepth 100000 in
theorem pt_w47 : pm_cwp pt_m47 := List.mem_of_getElem? (i := 363) (by rfl)
set_option maxRecDepth 100000 in
theorem pt_w48 : pm_cwp pt_m48 := List.mem_of_getElem? (i := 367) (by rfl)
set_option maxRecDepth 100000 in
theorem pt_w49 : pm_cwp pt_m49 := List.mem_of_getElem? (i := 86) (by rfl)
set_option maxRecDepth 100000 in
theorem pt_w50 : pm_cwp pt_m50 := List.mem_of_getElem? (i := 317) (by rfl)
set_option maxRecDepth 100000 in
theorem pt_w51 : pm_cwp pt_m51 := List.mem_of_getElem? (i := 392) (by rfl)
set_option maxRecDepth 100000 in
theorem pt_w52 : pm_cwp pt_m52 := List.mem_of_getElem? (i := 413) (by rfl)
set_option maxRecDepth 100000 in
theorem pt_w53 : pm_cwp pt_m53 := List.mem_of_getElem? (i := 409) (by rfl)
set_option maxRecDepth 100000 in
theorem pt_w54 : pm_cwp pt_m54 := List.mem_of_getElem? (i := 417) (by rfl)
set_option maxRecDepth 100000 in
theorem pt_w55 : pm_cwp pt_m55 := List.mem_of_getElem? (i := 388) (by rfl)
set_option maxRecDepth 100000 in
theorem pt_w56 : pm_cwp pt_m56 := List.mem_of_getElem? (i := 376) (by rfl)
set_option maxRecDepth 100000 in
theorem pt_w57 : pm_cwp pt_m57 := List.mem_of_getElem? (i := 351) (by rfl)
set_option maxRecDepth 100000 in
theorem pt_w58 : pm_cwp pt_m58 := List.mem_of_getElem? (i := 400) (by rfl)
set_option maxRecDepth 100000 in
theorem pt_w59 : pm_cwp pt_m59 := List.mem_of_getElem? (i := 532) (by rfl)
set_option maxRecDepth 100000 in
theorem pt_w60 : pm_cwp pt_m60 := List.mem_of_getElem? (i := 458) (by rfl)
set_option maxRecDepth 100000 in
theorem pt_w61 : pm_cwp pt_m61 := List.mem_of_getElem? (i := 468) (by rfl)
set_option maxRecDepth 100000 in
theorem pt_w62 : pm_cwp pt_m62 := List.mem_of_getElem? (i := 471) (by rfl)
set_option maxRecDepth 100000 in
theorem pt_w63 : pm_cwp pt_m63 := List.mem_of_getElem? (i := 103) (by rfl)
set_option maxRecDepth 100000 in
theorem pt_w64 : pm_cwp pt_m64 := List.mem_of_getElem? (i := 380) (by rfl)
set_option maxRecDepth 100000 in
theorem pt_w65 : pm_cwp pt_m65 := List.mem_of_getElem? (i := 445) (by rfl)
set_option maxRecDepth 100000 in
theorem pt_w66 : pm_cwp pt_m66 := List.mem_of_getElem? (i := 396) (by rfl)
set_option maxRecDepth 100000 in
theorem pt_w67 : pm_cwp pt_m67 := List.mem_of_getElem? (i := 487) (by rfl)
set_option maxRecDepth 100000 in
theorem pt_w68 : pm_cwp pt_m68 := List.mem_of_getElem? (i := 542) (by rfl)
set_option maxRecDepth 100000 in
theorem pt_w69 : pm_cwp pt_m69 := List.mem_of_getElem? (i := 422) (by rfl)
set_option maxRecDepth 100000 in
theorem pt_w70 : pm_cwp pt_m70 := List.mem_of_getElem? (i := 427) (by rfl)
set_option maxRecDepth 100000 in
theorem pt_w71 : pm_cwp pt_m71 := List.mem_of_getElem? (i := 431) (by rfl)
set_option maxRecDepth 100000 in
theorem pt_w72 : pm_cwp pt_m72 := List.mem_of_getElem? (i := 666) (by rfl)
set_option maxRecDepth 100000 in
theorem pt_w73 : pm_cwp pt_m73 := List.mem_of_getElem? (i := 134) (by rfl)
set_option maxRecDepth 100000 in
theorem pt_w74 : pm_cwp pt_m74 := List.mem_of_getElem? (i := 501) (by rfl)
set_option maxRecDepth 100000 in
theorem pt_w75 : pm_cwp pt_m75 := List.mem_of_getElem? (i := 505) (by rfl)
set_option maxRecDepth 100000 in
theorem pt_w76 : pm_cwp pt_m76 := List.mem_of_getElem? (i := 553) (by rfl)
set_option maxRecDepth 100000 in
theorem pt_w77 : pm_cwp pt_m77 := List.mem_of_getElem? (i := 153) (by rfl)
set_option maxRecDepth 100000 in
theorem pt_w78 : pm_cwp pt_m78 := List.mem_of_getElem? (i := 210) (by rfl)
set_option maxRecDepth 100000 in
theorem pt_w79 : pm_cwp pt_m79 := List.mem_of_getElem? (i := 213) (by rfl)
set_option maxRecDepth 100000 in
theorem pt_w80 : pm_cwp pt_m80 := List.mem_of_getElem? (i := 207) (by rfl)
set_option maxRecDepth 100000 in
theorem pt_w81 : pm_cwp pt_m81 := List.mem_of_getElem? (i := 235) (by rfl)
set_option maxRecDepth 100000 in
theorem pt_w82 : pm_cwp pt_m82 := List.mem_of_getElem? (i := 216) (by rfl)
set_option maxRecDepth 100000 in
theorem pt_w83 : pm_cwp pt_m83 := List.mem_of_getElem? (i := 610) (by rfl)
set_option maxRecDepth 100000 in
theorem pt_w84 : pm_cwp pt_m84 := List.mem_of_getElem? (i := 223) (by rfl)
set_option maxRecDepth 100000 in
theorem pt_w85 : pm_cwp pt_m85 := List.mem_of_getElem? (i := 239) (by rfl)
set_option maxRecDepth 100000 in
theorem pt_w86 : pm_cwp pt_m86 := List.mem_of_getElem? (i := 259) (by rfl)
set_option maxRecDepth 100000 in
theorem pt_w87 : pm_cwp pt_m87 := List.mem_of_getElem? (i := 644) (by rfl)
set_option maxRecDepth 100000 in
theorem pt_w88 : pm_cwp pt_m88 := List.mem_of_getElem? (i := 301) (by rfl)
set_option maxRecDepth 100000 in
theorem pt_w89 : pm_cwp pt_m89 := List.mem_of_getElem? (i := 228) (by rfl)
set_option maxRecDepth 100000 in
theorem pt_w90 : pm_cwp pt_m90 := List.mem_of_getElem? (i := 330) (by rfl)
set_option maxRecDepth 100000 in
theorem pt_w91 : pm_cwp pt_m91 := List.mem_of_getElem? (i := 639) (by rfl)
set_option maxRecDepth 100000 in
theorem pt_w92 : pm_cwp pt_m92 := List.mem_of_getElem? (i := 627) (by rfl)
set_option maxRecDepth 100000 in
theorem pt_w93 : pm_cwp pt_m93 := List.mem_of_getElem? (i := 247) (by rfl)
set_option maxRecDepth 100000 in
theorem pt_w94 : pm_cwp pt_m94 := List.mem_of_getElem? (i := 293) (by rfl)
set_option maxRecDepth 100000 in
theorem pt_w95 : pm_cwp pt_m95 := List.mem_of_getElem? (i := 623) (by rfl)
set_option maxRecDepth 100000 in
theorem pt_w96 : pm_cwp pt_m96 := List.mem_of_getElem? (i := 268) (by rfl)
set_option maxRecDepth 100000 in
theorem pt_w97 : pm_cwp pt_m97 := List.mem_of_getElem? (i := 321) (by rfl)
set_option maxRecDepth 100000 in
theorem pt_w98 : pm_cwp pt_m98 := List.mem_of_getElem? (i := 334) (by rfl)
set_option maxRecDepth 100000 in
theorem pt_w99 : pm_cwp pt_m99 := List.mem_of_getElem? (i := 325) (by rfl)
set_option maxRecDepth 100000 in
theorem pt_w100 : pm_cwp pt_m100 := List.mem_of_getElem? (i := 232) (by rfl)
set_option maxRecDepth 100000 in
theorem pt_w101 : pm_cwp pt_m101 := List.mem_of_getElem? (i := 297) (by rfl)
set_option maxRecDepth 100000 in
theorem pt_w102 : pm_cwp pt_m102 := List.mem_of_getElem? (i := 242) (by rfl)
set_option maxRecDepth 100000 in
theorem pt_w103 : pm_cwp pt_m103 := List.mem_of_getElem? (i := 588) (by rfl)
set_option maxRecDepth 100000 in
theorem pt_w104 : pm_cwp pt_m104 := List.mem_of_getElem? (i := 606) (by rfl)
set_option maxRecDepth 100000 in
theorem pt_w105 : pm_cwp pt_m105 := List.mem_of_getElem? (i := 615) (by rfl)
set_option maxRecDepth 100000 in
theorem pt_w106 : pm_cwp pt_m106 := List.mem_of_getElem? (i := 619) (by rfl)
set_option maxRecDepth 100000 in
theorem pt_w107 : pm_cwp pt_m107 := List.mem_of_getElem? (i := 648) (by rfl)
set_option maxRecDepth 100000 in
theorem pt_w108 : pm_cwp pt_m108 := List.mem_of_getElem? (i := 632) (by rfl)
set_option maxRecDepth 100000 in
theorem pt_w109 : pm_cwp pt_m109 := List.mem_of_getElem? (i := 674) (by rfl)
set_option maxRecDepth 100000 in
theorem pt_w110 : pm_cwp pt_m110 := List.mem_of_getElem? (i := 762) (by rfl)
set_option maxRecDepth 100000 in
theorem pt_w111 : pm_cwp pt_m111 := List.mem_of_getElem? (i := 759) (by rfl)
set_option maxRecDepth 100000 in
theorem pt_w112 : pm_cwp pt_m112 := List.mem_of_getElem? (i := 769) (by rfl)
set_option maxRecDepth 100000 in
theorem pt_w113 : pm_cwp pt_m113 := List.mem_of_getElem? (i := 804) (by rfl)
set_option maxRecDepth 100000 in
theorem pt_w114 : pm_cwp pt_m114 := List.mem_of_getElem? (i := 766) (by rfl)
set_option maxRecDepth 100000 in
theorem pt_w115 : pm_cwp pt_m115 := List.mem_of_getElem? (i := 948) (by rfl)
set_option maxRecDepth 100000 in
theorem pt_w116 : pm_cwp pt_m116 := List.mem_of_getElem? (i := 781) (by rfl)
set_option maxRecDepth 100000 in
theorem pt_w117 : pm_cwp pt_m117 := List.mem_of_getElem? (i := 777) (by rfl)
set_option maxRecDepth 100000 in
theorem pt_w118 : pm_cwp pt_m118 := List.mem_of_getElem? (i := 756) (by rfl)
set_option maxRecDepth 100000 in
theorem pt_w119 : pm_cwp pt_m119 := List.mem_of_getElem? (i := 773) (by rfl)
set_option maxRecDepth 100000 in
theorem pt_w120 : pm_cwp pt_m120 := List.mem_of_getElem? (i := 785) (by rfl)
set_option maxRecDepth 100000 in
theorem pt_w121 : pm_cwp pt_m121 := List.mem_of_getElem? (i := 789) (by rfl)
set_option maxRecDepth 100000 in
theorem pt_w122 : pm_cwp pt_m122 := List.mem_of_getElem? (i := 801) (by rfl)
set_option maxRecDepth 100000 in
theorem pt_w123 : pm_cwp pt_m123 := List.mem_of_getElem? (i := 808) (by rfl)
set_option maxRecDepth 100000 in
theorem pt_w124 : pm_cwp pt_m124 := List.mem_of_getElem? (i := 797) (by rfl)
set_option maxRecDepth 100000 in
theorem pt_w125 : pm_cwp pt_m125 := List.mem_of_getElem? (i := 812) (by rfl)
set_option maxRecDepth 100000 in
theorem pt_w126 : pm_cwp pt_m126 := List.mem_of_getElem? (i := 824) (by rfl)
set_option maxRecDepth 100000 in
theorem pt_w127 : pm_cwp pt_m127 := List.mem_of_getElem? (i := 828) (by rfl)
set_option maxRecDepth 100000 in
theorem pt_w128 : pm_cwp pt_m128 := List.mem_of_getElem? (i := 820) (by rfl)
set_option maxRecDepth 100000 in
theorem pt_w129 : pm_cwp pt_m129 := List.mem_of_getElem? (i := 832) (by rfl)
set_option maxRecDepth 100000 in
theorem pt_w130 : pm_cwp pt_m130 := List.mem_of_getElem? (i := 816) (by rfl)
set_option maxRecDepth 100000 in
theorem pt_w131 : pm_cwp pt_m131 := List.mem_of_getElem? (i := 837) (by rfl)
set_option maxRecDepth 100000 in
theorem pt_w132 : pm_cwp pt_m132 := List.mem_of_getElem? (i := 904) (by rfl)
set_option maxRecDepth 100000 in
theorem pt_w133 : pm_cwp pt_m133 := List.mem_of_getElem? (i := 841) (by rfl)
set_option maxRecDepth 100000 in
theorem pt_w134 : pm_cwp pt_m134 := List.mem_of_getElem? (i := 861) (by rfl)
set_option maxRecDepth 100000 in
theorem pt_w135 : pm_cwp pt_m135 := List.mem_of_getElem? (i := 908) (by rfl)
set_option maxRecDepth 100000 in
theorem pt_w136 : pm_cwp pt_m136 := List.mem_of_getElem? (i := 849) (by rfl)
set_option maxRecDepth 100000 in
theorem pt_w137 : pm_cwp pt_m137 := List.mem_of_getElem? (i := 793) (by rfl)
set_option maxRecDepth 100000 in
theorem pt_w138 : pm_cwp pt_m138 := List.mem_of_getElem? (i := 845) (by rfl)
set_option maxRecDepth 100000 in
theorem pt_w139 : pm_cwp pt_m139 := List.mem_of_getElem? (i := 857) (by rfl)
set_option maxRecDepth 100000 in
theorem pt_w140 : pm_cwp pt_m140 := List.mem_of_getElem? (i := 853) (by rfl)
set_option maxRecDepth 100000 in
theorem pt_w141 : pm_cwp pt_m141 := List.mem_of_getElem? (i := 865) (by rfl)
set_option maxRecDepth 100000 in
theorem pt_w142 : pm_cwp pt_m142 := List.mem_of_getElem? (i := 873) (by rfl)
set_option maxRecDepth 100000 in
theorem pt_w143 : pm_cwp pt_m143 := List.mem_of_getElem? (i := 869) (by rfl)
set_option maxRecDepth 100000 in
theorem pt_w144 : pm_cwp pt_m144 := List.mem_of_getElem? (i := 880) (by rfl)
set_option maxRecDepth 100000 in
theorem pt_w145 : pm_cwp pt_m145 := List.mem_of_getElem? (i := 884) (by rfl)
set_option maxRecDepth 100000 in
theorem pt_w146 : pm_cwp pt_m146 := List.mem_of_getElem? (i := 888) (by rfl)
set_option maxRecDepth 100000 in
theorem pt_w147 : pm_cwp pt_m147 := List.mem_of_getElem? (i := 892) (by rfl)
set_option maxRecDepth 100000 in
theorem pt_w148 : pm_cwp pt_m148 := List.mem_of_getElem? (i := 900) (by rfl)
set_option maxRecDepth 100000 in
theorem pt_w149 : pm_cwp pt_m149 := List.mem_of_getElem? (i := 896) (by rfl)
set_option maxRecDepth 100000 in
theorem pt_w150 : pm_cwp pt_m150 := List.mem_of_getElem? (i := 912) (by rfl)
set_option maxRecDepth 100000 in
theorem pt_w151 : pm_cwp pt_m151 := List.mem_of_getElem? (i := 928) (by rfl)
set_option maxRecDepth 100000 in
theorem pt_w152 : pm_cwp pt_m152 := List.mem_of_getElem? (i := 916) (by rfl)
set_option maxRecDepth 100000 in
theorem pt_w153 : pm_cwp pt_m153 := List.mem_of_getElem? (i := 920) (by rfl)
set_option maxRecDepth 100000 in
theorem pt_w154 : pm_cwp pt_m154 := List.mem_of_getElem? (i := 936) (by rfl)
set_option maxRecDepth 100000 in
theorem pt_w155 : pm_cwp pt_m155 := List.mem_of_getElem? (i := 932) (by rfl)
set_option maxRecDepth 100000 in
theorem pt_w156 : pm_cwp pt_m156 := List.mem_of_getElem? (i := 924) (by rfl)
set_option maxRecDepth 100000 in
theorem pt_w157 : pm_cwp pt_m157 := List.mem_of_getElem? (i := 940) (by rfl)
set_option maxRecDepth 100000 in
theorem pt_w158 : pm_cwp pt_m158 := List.mem_of_getElem? (i := 944) (by rfl)
set_option maxRecDepth 100000 in
theorem pt_w159 : pm_cwp pt_m159 := List.mem_of_getElem? (i := 669) (by rfl)
theorem pm_cw_nil : ∀ x ∈ ([] : List pm_MT), pm_cwp x := by
  intro x hx
  cases hx
theorem pt_wall : ∀ r ∈ pm_Mo, pm_cwp r := pm_cw_all pt_w0 (pm_cw_all pt_w1 (pm_cw_all pt_w2 (pm_cw_all pt_w3 (pm_cw_all pt_w4 (pm_cw_all pt_w5 (pm_cw_all pt_w6 (pm_cw_all pt_w7 (pm_cw_all pt_w8 (pm_cw_all pt_w9 (pm_cw_all pt_w10 (pm_cw_all pt_w11 (pm_cw_all pt_w12 (pm_cw_all pt_w13 (pm_cw_all pt_w14 (pm_cw_all pt_w15 (pm_cw_all pt_w16 (pm_cw_all pt_w17 (pm_cw_all pt_w18 (pm_cw_all pt_w19 (pm_cw_all pt_w20 (pm_cw_all pt_w21 (pm_cw_all pt_w22 (pm_cw_all pt_w23 (pm_cw_all pt_w24 (pm_cw_all pt_w25 (pm_cw_all pt_w26 (pm_cw_all pt_w27 (pm_cw_all pt_w28 (pm_cw_all pt_w29 (pm_cw_all pt_w30 (pm_cw_all pt_w31 (pm_cw_all pt_w32 (pm_cw_all pt_w33 (pm_cw_all pt_w34 (pm_cw_all pt_w35 (pm_cw_all pt_w36 (pm_cw_all pt_w37 (pm_cw_all pt_w38 (pm_cw_all pt_w39 (pm_cw_all pt_w40 (pm_cw_all pt_w41 (pm_cw_all pt_w42 (pm_cw_all pt_w43 (pm_cw_all pt_w44 (pm_cw_all pt_w45 (pm_cw_all pt_w46 (pm_cw_all pt_w47 (pm_cw_all pt_w48 (pm_cw_all pt_w49 (pm_cw_all pt_w50 (pm_cw_all pt_w51 (pm_cw_all pt_w52 (pm_cw_all pt_w53 (pm_cw_all pt_w54 (pm_cw_all pt_w55 (pm_cw_all pt_w56 (pm_cw_all pt_w57 (pm_cw_all pt_w58 (pm_cw_all pt_w59 (pm_cw_all pt_w60 (pm_cw_all pt_w61 (pm_cw_all pt_w62 (pm_cw_all pt_w63 (pm_cw_all pt_w64 (pm_cw_all pt_w65 (pm_cw_all pt_w66 (pm_cw_all pt_w67 (pm_cw_all pt_w68 (pm_cw_all pt_w69 (pm_cw_all pt_w70 (pm_cw_all pt_w71 (pm_cw_all pt_w72 (pm_cw_all pt_w73 (pm_cw_all pt_w74 (pm_cw_all pt_w75 (pm_cw_all pt_w76 (pm_cw_all pt_w77 (pm_cw_all pt_w78 (pm_cw_all pt_w79 (pm_cw_all pt_w80 (pm_cw_all pt_w81 (pm_cw_all pt_w82 (pm_cw_all pt_w83 (pm_cw_all pt_w84 (pm_cw_all pt_w85 (pm_cw_all pt_w86 (pm_cw_all pt_w87 (pm_cw_all pt_w88 (pm_cw_all pt_w89 (pm_cw_all pt_w90 (pm_cw_all pt_w91 (pm_cw_all pt_w92 (pm_cw_all pt_w93 (pm_cw_all pt_w94 (pm_cw_all pt_w95 (pm_cw_all pt_w96 (pm_cw_all pt_w97 (pm_cw_all pt_w98 (pm_cw_all pt_w99 (pm_cw_all pt_w100 (pm_cw_all pt_w101 (pm_cw_all pt_w102 (pm_cw_all pt_w103 (pm_cw_all pt_w104 (pm_cw_all pt_w105 (pm_cw_all pt_w106 (pm_cw_all pt_w107 (pm_cw_all pt_w108 (pm_cw_all pt_w109 (pm_cw_all pt_w110 (pm_cw_all pt_w111 (pm_cw_all pt_w112 (pm_cw_all pt_w113 (pm_cw_all pt_w114 (pm_cw_all pt_w115 (pm_cw_all pt_w116 (pm_cw_all pt_w117 (pm_cw_all pt_w118 (pm_cw_all pt_w119 (pm_cw_all pt_w120 (pm_cw_all pt_w121 (pm_cw_all pt_w122 (pm_cw_all pt_w123 (pm_cw_all pt_w124 (pm_cw_all pt_w125 (pm_cw_all pt_w126 (pm_cw_all pt_w127 (pm_cw_all pt_w128 (pm_cw_all pt_w129 (pm_cw_all pt_w130 (pm_cw_all pt_w131 (pm_cw_all pt_w132 (pm_cw_all pt_w133 (pm_cw_all pt_w134 (pm_cw_all pt_w135 (pm_cw_all pt_w136 (pm_cw_all pt_w137 (pm_cw_all pt_w138 (pm_cw_all pt_w139 (pm_cw_all pt_w140 (pm_cw_all pt_w141 (pm_cw_all pt_w142 (pm_cw_all pt_w143 (pm_cw_all pt_w144 (pm_cw_all pt_w145 (pm_cw_all pt_w146 (pm_cw_all pt_w147 (pm_cw_all pt_w148 (pm_cw_all pt_w149 (pm_cw_all pt_w150 (pm_cw_all pt_w151 (pm_cw_all pt_w152 (pm_cw_all pt_w153 (pm_cw_all pt_w154 (pm_cw_all pt_w155 (pm_cw_all pt_w156 (pm_cw_all pt_w157 (pm_cw_all pt_w158 (pm_cw_all pt_w159 (pm_cw_nil))))))))))))))))))))))))))))))))))))))))))))))))))))))))))))))))))))))))))))))))))))))))))))))))))))))))))))))))))))))))))))))))))))))))))))))))))))))))))))))))
