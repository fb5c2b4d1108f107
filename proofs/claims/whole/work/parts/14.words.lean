set_option maxRecDepth 100000 in
theorem mm_w0 : Jvm.Cond.code (mm_yn 0) (mm_yb 0) (mm_ml 0) (mm_yr 0) ∈ mm_gT := mm_inG (i := 341) rfl rfl
set_option maxRecDepth 100000 in
theorem mm_w1 : Jvm.Cond.code (mm_yn 1) (mm_yb 1) (mm_ml 1) (mm_yr 1) ∈ mm_gT := mm_inG (i := 921) rfl rfl
set_option maxRecDepth 100000 in
theorem mm_w2 : Jvm.Cond.code (mm_yn 2) (mm_yb 2) (mm_ml 2) (mm_yr 2) ∈ mm_gT := mm_inG (i := 953) rfl rfl
set_option maxRecDepth 100000 in
theorem mm_w3 : Jvm.Cond.code (mm_yn 3) (mm_yb 3) (mm_ml 3) (mm_yr 3) ∈ mm_gT := mm_inG (i := 138) rfl rfl
set_option maxRecDepth 100000 in
theorem mm_w4 : Jvm.Cond.code (mm_yn 4) (mm_yb 4) (mm_ml 4) (mm_yr 4) ∈ mm_gT := mm_inG (i := 611) rfl rfl
set_option maxRecDepth 100000 in
theorem mm_w5 : Jvm.Cond.code (mm_yn 5) (mm_yb 5) (mm_ml 5) (mm_yr 5) ∈ mm_gT := mm_inG (i := 607) rfl rfl
set_option maxRecDepth 100000 in
theorem mm_w6 : Jvm.Cond.code (mm_yn 6) (mm_yb 6) (mm_ml 6) (mm_yr 6) ∈ mm_gT := mm_inG (i := 1121) rfl rfl
set_option maxRecDepth 100000 in
theorem mm_w7 : Jvm.Cond.code (mm_yn 7) (mm_yb 7) (mm_ml 7) (mm_yr 7) ∈ mm_gT := mm_inG (i := 681) rfl rfl
set_option maxRecDepth 100000 in
theorem mm_w8 : Jvm.Cond.code (mm_yn 8) (mm_yb 8) (mm_ml 8) (mm_yr 8) ∈ mm_gT := mm_inG (i := 1307) rfl rfl
set_option maxRecDepth 100000 in
theorem mm_w9 : Jvm.Cond.code (mm_yn 9) (mm_yb 9) (mm_ml 9) (mm_yr 9) ∈ mm_gT := mm_inG (i := 382) rfl rfl
set_option maxRecDepth 100000 in
theorem mm_w10 : Jvm.Cond.code (mm_yn 10) (mm_yb 10) (mm_ml 10) (mm_yr 10) ∈ mm_gT := mm_inG (i := 960) rfl rfl
set_option maxRecDepth 100000 in
theorem mm_w11 : Jvm.Cond.code (mm_yn 11) (mm_yb 11) (mm_ml 11) (mm_yr 11) ∈ mm_gT := mm_inG (i := 964) rfl rfl
set_option maxRecDepth 100000 in
theorem mm_w12 : Jvm.Cond.code (mm_yn 12) (mm_yb 12) (mm_ml 12) (mm_yr 12) ∈ mm_gT := mm_inG (i := 989) rfl rfl
set_option maxRecDepth 100000 in
theorem mm_w13 : Jvm.Cond.code (mm_yn 13) (mm_yb 13) (mm_ml 13) (mm_yr 13) ∈ mm_gT := mm_inG (i := 995) rfl rfl
set_option maxRecDepth 100000 in
theorem mm_w14 : Jvm.Cond.code (mm_yn 14) (mm_yb 14) (mm_ml 14) (mm_yr 14) ∈ mm_gT := mm_inG (i := 1017) rfl rfl
set_option maxRecDepth 100000 in
theorem mm_w15 : Jvm.Cond.code (mm_yn 15) (mm_yb 15) (mm_ml 15) (mm_yr 15) ∈ mm_gT := mm_inG (i := 1103) rfl rfl
set_option maxRecDepth 100000 in
theorem mm_w16 : Jvm.Cond.code (mm_yn 16) (mm_yb 16) (mm_ml 16) (mm_yr 16) ∈ mm_gT := mm_inG (i := 523) rfl rfl
set_option maxRecDepth 100000 in
theorem mm_w17 : Jvm.Cond.code (mm_yn 17) (mm_yb 17) (mm_ml 17) (mm_yr 17) ∈ mm_gT := mm_inG (i := 1180) rfl rfl
set_option maxRecDepth 100000 in
theorem mm_w18 : Jvm.Cond.code (mm_yn 18) (mm_yb 18) (mm_ml 18) (mm_yr 18) ∈ mm_gT := mm_inG (i := 1176) rfl rfl
set_option maxRecDepth 100000 in
theorem mm_w19 : Jvm.Cond.code (mm_yn 19) (mm_yb 19) (mm_ml 19) (mm_yr 19) ∈ mm_gT := mm_inG (i := 1190) rfl rfl
set_option maxRecDepth 100000 in
theorem mm_w20 : Jvm.Cond.code (mm_yn 20) (mm_yb 20) (mm_ml 20) (mm_yr 20) ∈ mm_gT := mm_inG (i := 1195) rfl rfl
set_option maxRecDepth 100000 in
theorem mm_w21 : Jvm.Cond.code (mm_yn 21) (mm_yb 21) (mm_ml 21) (mm_yr 21) ∈ mm_gT := mm_inG (i := 1200) rfl rfl
set_option maxRecDepth 100000 in
theorem mm_w22 : Jvm.Cond.code (mm_yn 22) (mm_yb 22) (mm_ml 22) (mm_yr 22) ∈ mm_gT := mm_inG (i := 1204) rfl rfl
set_option maxRecDepth 100000 in
theorem mm_w23 : Jvm.Cond.code (mm_yn 23) (mm_yb 23) (mm_ml 23) (mm_yr 23) ∈ mm_gT := mm_inG (i := 1208) rfl rfl
set_option maxRecDepth 100000 in
theorem mm_w24 : Jvm.Cond.code (mm_yn 24) (mm_yb 24) (mm_ml 24) (mm_yr 24) ∈ mm_gT := mm_inG (i := 1255) rfl rfl
set_option maxRecDepth 100000 in
theorem mm_w25 : Jvm.Cond.code (mm_yn 25) (mm_yb 25) (mm_ml 25) (mm_yr 25) ∈ mm_gT := mm_inG (i := 1021) rfl rfl
set_option maxRecDepth 100000 in
theorem mm_w26 : Jvm.Cond.code (mm_yn 26) (mm_yb 26) (mm_ml 26) (mm_yr 26) ∈ mm_gT := mm_inG (i := 1265) rfl rfl
set_option maxRecDepth 100000 in
theorem mm_w27 : Jvm.Cond.code (mm_yn 27) (mm_yb 27) (mm_ml 27) (mm_yr 27) ∈ mm_gT := mm_inG (i := 1273) rfl rfl
set_option maxRecDepth 100000 in
theorem mm_w28 : Jvm.Cond.code (mm_yn 28) (mm_yb 28) (mm_ml 28) (mm_yr 28) ∈ mm_gT := mm_inG (i := 1341) rfl rfl
set_option maxRecDepth 100000 in
theorem mm_w29 : Jvm.Cond.code (mm_yn 29) (mm_yb 29) (mm_ml 29) (mm_yr 29) ∈ mm_gT := mm_inG (i := 1347) rfl rfl
set_option maxRecDepth 100000 in
theorem mm_w30 : Jvm.Cond.code (mm_yn 30) (mm_yb 30) (mm_ml 30) (mm_yr 30) ∈ mm_gT := mm_inG (i := 385) rfl rfl
set_option maxRecDepth 100000 in
theorem mm_w31 : Jvm.Cond.code (mm_yn 31) (mm_yb 31) (mm_ml 31) (mm_yr 31) ∈ mm_gT := mm_inG (i := 1004) rfl rfl
set_option maxRecDepth 100000 in
theorem mm_w32 : Jvm.Cond.code (mm_yn 32) (mm_yb 32) (mm_ml 32) (mm_yr 32) ∈ mm_gT := mm_inG (i := 1010) rfl rfl
set_option maxRecDepth 100000 in
theorem mm_w33 : Jvm.Cond.code (mm_yn 33) (mm_yb 33) (mm_ml 33) (mm_yr 33) ∈ mm_gT := mm_inG (i := 197) rfl rfl
set_option maxRecDepth 100000 in
theorem mm_w34 : Jvm.Cond.code (mm_yn 34) (mm_yb 34) (mm_ml 34) (mm_yr 34) ∈ mm_gT := mm_inG (i := 640) rfl rfl
set_option maxRecDepth 100000 in
theorem mm_w35 : Jvm.Cond.code (mm_yn 35) (mm_yb 35) (mm_ml 35) (mm_yr 35) ∈ mm_gT := mm_inG (i := 733) rfl rfl
set_option maxRecDepth 100000 in
theorem mm_w36 : Jvm.Cond.code (mm_yn 36) (mm_yb 36) (mm_ml 36) (mm_yr 36) ∈ mm_gT := mm_inG (i := 726) rfl rfl
set_option maxRecDepth 100000 in
theorem mm_w37 : Jvm.Cond.code (mm_yn 37) (mm_yb 37) (mm_ml 37) (mm_yr 37) ∈ mm_gT := mm_inG (i := 722) rfl rfl
set_option maxRecDepth 100000 in
theorem mm_w38 : Jvm.Cond.code (mm_yn 38) (mm_yb 38) (mm_ml 38) (mm_yr 38) ∈ mm_gT := mm_inG (i := 247) rfl rfl
set_option maxRecDepth 100000 in
theorem mm_w39 : Jvm.Cond.code (mm_yn 39) (mm_yb 39) (mm_ml 39) (mm_yr 39) ∈ mm_gT := mm_inG (i := 656) rfl rfl
set_option maxRecDepth 100000 in
theorem mm_w40 : Jvm.Cond.code (mm_yn 40) (mm_yb 40) (mm_ml 40) (mm_yr 40) ∈ mm_gT := mm_inG (i := 793) rfl rfl
set_option maxRecDepth 100000 in
theorem mm_w41 : Jvm.Cond.code (mm_yn 41) (mm_yb 41) (mm_ml 41) (mm_yr 41) ∈ mm_gT := mm_inG (i := 797) rfl rfl
set_option maxRecDepth 100000 in
theorem mm_w42 : Jvm.Cond.code (mm_yn 42) (mm_yb 42) (mm_ml 42) (mm_yr 42) ∈ mm_gT := mm_inG (i := 801) rfl rfl
set_option maxRecDepth 100000 in
theorem mm_w43 : Jvm.Cond.code (mm_yn 43) (mm_yb 43) (mm_ml 43) (mm_yr 43) ∈ mm_gT := mm_inG (i := 806) rfl rfl
set_option maxRecDepth 100000 in
theorem mm_w44 : Jvm.Cond.code (mm_yn 44) (mm_yb 44) (mm_ml 44) (mm_yr 44) ∈ mm_gT := mm_inG (i := 810) rfl rfl
set_option maxRecDepth 100000 in
theorem mm_w45 : Jvm.Cond.code (mm_yn 45) (mm_yb 45) (mm_ml 45) (mm_yr 45) ∈ mm_gT := mm_inG (i := 817) rfl rfl
set_option maxRecDepth 100000 in
theorem mm_w46 : Jvm.Cond.code (mm_yn 46) (mm_yb 46) (mm_ml 46) (mm_yr 46) ∈ mm_gT := mm_inG (i := 829) rfl rfl
set_option maxRecDepth 100000 in
theorem mm_w47 : Jvm.Cond.code (mm_yn 47) (mm_yb 47) (mm_ml 47) (mm_yr 47) ∈ mm_gT := mm_inG (i := 825) rfl rfl
set_option maxRecDepth 100000 in
theorem mm_w48 : Jvm.Cond.code (mm_yn 48) (mm_yb 48) (mm_ml 48) (mm_yr 48) ∈ mm_gT := mm_inG (i := 822) rfl rfl
set_option maxRecDepth 100000 in
theorem mm_w49 : Jvm.Cond.code (mm_yn 49) (mm_yb 49) (mm_ml 49) (mm_yr 49) ∈ mm_gT := mm_inG (i := 833) rfl rfl
set_option maxRecDepth 100000 in
theorem mm_w50 : Jvm.Cond.code (mm_yn 50) (mm_yb 50) (mm_ml 50) (mm_yr 50) ∈ mm_gT := mm_inG (i := 974) rfl rfl
set_option maxRecDepth 100000 in
theorem mm_w51 : Jvm.Cond.code (mm_yn 51) (mm_yb 51) (mm_ml 51) (mm_yr 51) ∈ mm_gT := mm_inG (i := 970) rfl rfl
set_option maxRecDepth 100000 in
theorem mm_w52 : Jvm.Cond.code (mm_yn 52) (mm_yb 52) (mm_ml 52) (mm_yr 52) ∈ mm_gT := mm_inG (i := 978) rfl rfl
set_option maxRecDepth 100000 in
theorem mm_w53 : Jvm.Cond.code (mm_yn 53) (mm_yb 53) (mm_ml 53) (mm_yr 53) ∈ mm_gT := mm_inG (i := 985) rfl rfl
set_option maxRecDepth 100000 in
theorem mm_w54 : Jvm.Cond.code (mm_yn 54) (mm_yb 54) (mm_ml 54) (mm_yr 54) ∈ mm_gT := mm_inG (i := 222) rfl rfl
set_option maxRecDepth 100000 in
theorem mm_w55 : Jvm.Cond.code (mm_yn 55) (mm_yb 55) (mm_ml 55) (mm_yr 55) ∈ mm_gT := mm_inG (i := 647) rfl rfl
set_option maxRecDepth 100000 in
theorem mm_w56 : Jvm.Cond.code (mm_yn 56) (mm_yb 56) (mm_ml 56) (mm_yr 56) ∈ mm_gT := mm_inG (i := 783) rfl rfl
set_option maxRecDepth 100000 in
theorem mm_w57 : Jvm.Cond.code (mm_yn 57) (mm_yb 57) (mm_ml 57) (mm_yr 57) ∈ mm_gT := mm_inG (i := 925) rfl rfl
set_option maxRecDepth 100000 in
theorem mm_w58 : Jvm.Cond.code (mm_yn 58) (mm_yb 58) (mm_ml 58) (mm_yr 58) ∈ mm_gT := mm_inG (i := 776) rfl rfl
set_option maxRecDepth 100000 in
theorem mm_w59 : Jvm.Cond.code (mm_yn 59) (mm_yb 59) (mm_ml 59) (mm_yr 59) ∈ mm_gT := mm_inG (i := 913) rfl rfl
set_option maxRecDepth 100000 in
theorem mm_w60 : Jvm.Cond.code (mm_yn 60) (mm_yb 60) (mm_ml 60) (mm_yr 60) ∈ mm_gT := mm_inG (i := 877) rfl rfl
set_option maxRecDepth 100000 in
theorem mm_w61 : Jvm.Cond.code (mm_yn 61) (mm_yb 61) (mm_ml 61) (mm_yr 61) ∈ mm_gT := mm_inG (i := 157) rfl rfl
set_option maxRecDepth 100000 in
theorem mm_w62 : Jvm.Cond.code (mm_yn 62) (mm_yb 62) (mm_ml 62) (mm_yr 62) ∈ mm_gT := mm_inG (i := 669) rfl rfl
set_option maxRecDepth 100000 in
theorem mm_w63 : Jvm.Cond.code (mm_yn 63) (mm_yb 63) (mm_ml 63) (mm_yr 63) ∈ mm_gT := mm_inG (i := 710) rfl rfl
set_option maxRecDepth 100000 in
theorem mm_w64 : Jvm.Cond.code (mm_yn 64) (mm_yb 64) (mm_ml 64) (mm_yr 64) ∈ mm_gT := mm_inG (i := 677) rfl rfl
set_option maxRecDepth 100000 in
theorem mm_w65 : Jvm.Cond.code (mm_yn 65) (mm_yb 65) (mm_ml 65) (mm_yr 65) ∈ mm_gT := mm_inG (i := 673) rfl rfl
set_option maxRecDepth 100000 in
theorem mm_w66 : Jvm.Cond.code (mm_yn 66) (mm_yb 66) (mm_ml 66) (mm_yr 66) ∈ mm_gT := mm_inG (i := 718) rfl rfl
set_option maxRecDepth 100000 in
theorem mm_w67 : Jvm.Cond.code (mm_yn 67) (mm_yb 67) (mm_ml 67) (mm_yr 67) ∈ mm_gT := mm_inG (i := 714) rfl rfl
set_option maxRecDepth 100000 in
theorem mm_w68 : Jvm.Cond.code (mm_yn 68) (mm_yb 68) (mm_ml 68) (mm_yr 68) ∈ mm_gT := mm_inG (i := 695) rfl rfl
set_option maxRecDepth 100000 in
theorem mm_w69 : Jvm.Cond.code (mm_yn 69) (mm_yb 69) (mm_ml 69) (mm_yr 69) ∈ mm_gT := mm_inG (i := 706) rfl rfl
set_option maxRecDepth 100000 in
theorem mm_w70 : Jvm.Cond.code (mm_yn 70) (mm_yb 70) (mm_ml 70) (mm_yr 70) ∈ mm_gT := mm_inG (i := 665) rfl rfl
set_option maxRecDepth 100000 in
theorem mm_w71 : Jvm.Cond.code (mm_yn 71) (mm_yb 71) (mm_ml 71) (mm_yr 71) ∈ mm_gT := mm_inG (i := 691) rfl rfl
set_option maxRecDepth 100000 in
theorem mm_w72 : Jvm.Cond.code (mm_yn 72) (mm_yb 72) (mm_ml 72) (mm_yr 72) ∈ mm_gT := mm_inG (i := 740) rfl rfl
set_option maxRecDepth 100000 in
theorem mm_w73 : Jvm.Cond.code (mm_yn 73) (mm_yb 73) (mm_ml 73) (mm_yr 73) ∈ mm_gT := mm_inG (i := 744) rfl rfl
set_option maxRecDepth 100000 in
theorem mm_w74 : Jvm.Cond.code (mm_yn 74) (mm_yb 74) (mm_ml 74) (mm_yr 74) ∈ mm_gT := mm_inG (i := 749) rfl rfl
set_option maxRecDepth 100000 in
theorem mm_w75 : Jvm.Cond.code (mm_yn 75) (mm_yb 75) (mm_ml 75) (mm_yr 75) ∈ mm_gT := mm_inG (i := 753) rfl rfl
set_option maxRecDepth 100000 in
theorem mm_w76 : Jvm.Cond.code (mm_yn 76) (mm_yb 76) (mm_ml 76) (mm_yr 76) ∈ mm_gT := mm_inG (i := 757) rfl rfl
set_option maxRecDepth 100000 in
theorem mm_w77 : Jvm.Cond.code (mm_yn 77) (mm_yb 77) (mm_ml 77) (mm_yr 77) ∈ mm_gT := mm_inG (i := 772) rfl rfl
set_option maxRecDepth 100000 in
theorem mm_w78 : Jvm.Cond.code (mm_yn 78) (mm_yb 78) (mm_ml 78) (mm_yr 78) ∈ mm_gT := mm_inG (i := 789) rfl rfl
set_option maxRecDepth 100000 in
theorem mm_w79 : Jvm.Cond.code (mm_yn 79) (mm_yb 79) (mm_ml 79) (mm_yr 79) ∈ mm_gT := mm_inG (i := 440) rfl rfl
set_option maxRecDepth 100000 in
theorem mm_w80 : Jvm.Cond.code (mm_yn 80) (mm_yb 80) (mm_ml 80) (mm_yr 80) ∈ mm_gT := mm_inG (i := 1028) rfl rfl
set_option maxRecDepth 100000 in
theorem mm_w81 : Jvm.Cond.code (mm_yn 81) (mm_yb 81) (mm_ml 81) (mm_yr 81) ∈ mm_gT := mm_inG (i := 1032) rfl rfl
set_option maxRecDepth 100000 in
theorem mm_w82 : Jvm.Cond.code (mm_yn 82) (mm_yb 82) (mm_ml 82) (mm_yr 82) ∈ mm_gT := mm_inG (i := 1038) rfl rfl
set_option maxRecDepth 100000 in
theorem mm_w83 : Jvm.Cond.code (mm_yn 83) (mm_yb 83) (mm_ml 83) (mm_yr 83) ∈ mm_gT := mm_inG (i := 1044) rfl rfl
set_option maxRecDepth 100000 in
theorem mm_w84 : Jvm.Cond.code (mm_yn 84) (mm_yb 84) (mm_ml 84) (mm_yr 84) ∈ mm_gT := mm_inG (i := 1053) rfl rfl
set_option maxRecDepth 100000 in
theorem mm_w85 : Jvm.Cond.code (mm_yn 85) (mm_yb 85) (mm_ml 85) (mm_yr 85) ∈ mm_gT := mm_inG (i := 1077) rfl rfl
set_option maxRecDepth 100000 in
theorem mm_w86 : Jvm.Cond.code (mm_yn 86) (mm_yb 86) (mm_ml 86) (mm_yr 86) ∈ mm_gT := mm_inG (i := 1083) rfl rfl
set_option maxRecDepth 100000 in
theorem mm_w87 : Jvm.Cond.code (mm_yn 87) (mm_yb 87) (mm_ml 87) (mm_yr 87) ∈ mm_gT := mm_inG (i := 1098) rfl rfl
set_option maxRecDepth 100000 in
theorem mm_w88 : Jvm.Cond.code (mm_yn 88) (mm_yb 88) (mm_ml 88) (mm_yr 88) ∈ mm_gT := mm_inG (i := 1094) rfl rfl
set_option maxRecDepth 100000 in
theorem mm_w89 : Jvm.Cond.code (mm_yn 89) (mm_yb 89) (mm_ml 89) (mm_yr 89) ∈ mm_gT := mm_inG (i := 1090) rfl rfl
set_option maxRecDepth 100000 in
theorem mm_w90 : Jvm.Cond.code (mm_yn 90) (mm_yb 90) (mm_ml 90) (mm_yr 90) ∈ mm_gT := mm_inG (i := 1057) rfl rfl
set_option maxRecDepth 100000 in
theorem mm_w91 : Jvm.Cond.code (mm_yn 91) (mm_yb 91) (mm_ml 91) (mm_yr 91) ∈ mm_gT := mm_inG (i := 1072) rfl rfl
set_option maxRecDepth 100000 in
theorem mm_w92 : Jvm.Cond.code (mm_yn 92) (mm_yb 92) (mm_ml 92) (mm_yr 92) ∈ mm_gT := mm_inG (i := 1107) rfl rfl
set_option maxRecDepth 100000 in
theorem mm_w93 : Jvm.Cond.code (mm_yn 93) (mm_yb 93) (mm_ml 93) (mm_yr 93) ∈ mm_gT := mm_inG (i := 1164) rfl rfl
set_option maxRecDepth 100000 in
theorem mm_w94 : Jvm.Cond.code (mm_yn 94) (mm_yb 94) (mm_ml 94) (mm_yr 94) ∈ mm_gT := mm_inG (i := 1282) rfl rfl
set_option maxRecDepth 100000 in
theorem mm_w95 : Jvm.Cond.code (mm_yn 95) (mm_yb 95) (mm_ml 95) (mm_yr 95) ∈ mm_gT := mm_inG (i := 1295) rfl rfl
set_option maxRecDepth 100000 in
theorem mm_w96 : Jvm.Cond.code (mm_yn 96) (mm_yb 96) (mm_ml 96) (mm_yr 96) ∈ mm_gT := mm_inG (i := 1299) rfl rfl
set_option maxRecDepth 100000 in
theorem mm_w97 : Jvm.Cond.code (mm_yn 97) (mm_yb 97) (mm_ml 97) (mm_yr 97) ∈ mm_gT := mm_inG (i := 1314) rfl rfl
set_option maxRecDepth 100000 in
theorem mm_w98 : Jvm.Cond.code (mm_yn 98) (mm_yb 98) (mm_ml 98) (mm_yr 98) ∈ mm_gT := mm_inG (i := 1327) rfl rfl
set_option maxRecDepth 100000 in
theorem mm_w99 : Jvm.Cond.code (mm_yn 99) (mm_yb 99) (mm_ml 99) (mm_yr 99) ∈ mm_gT := mm_inG (i := 1323) rfl rfl
set_option maxRecDepth 100000 in
theorem mm_w100 : Jvm.Cond.code (mm_yn 100) (mm_yb 100) (mm_ml 100) (mm_yr 100) ∈ mm_gT := mm_inG (i := 1333) rfl rfl
set_option maxRecDepth 100000 in
theorem mm_w101 : Jvm.Cond.code (mm_yn 101) (mm_yb 101) (mm_ml 101) (mm_yr 101) ∈ mm_gT := mm_inG (i := 191) rfl rfl
set_option maxRecDepth 100000 in
theorem mm_w102 : Jvm.Cond.code (mm_yn 102) (mm_yb 102) (mm_ml 102) (mm_yr 102) ∈ mm_gT := mm_inG (i := 636) rfl rfl
set_option maxRecDepth 100000 in
theorem mm_w103 : Jvm.Cond.code (mm_yn 103) (mm_yb 103) (mm_ml 103) (mm_yr 103) ∈ mm_gT := mm_inG (i := 761) rfl rfl
set_option maxRecDepth 100000 in
theorem mm_w104 : Jvm.Cond.code (mm_yn 104) (mm_yb 104) (mm_ml 104) (mm_yr 104) ∈ mm_gT := mm_inG (i := 767) rfl rfl
set_option maxRecDepth 100000 in
theorem mm_w105 : Jvm.Cond.code (mm_yn 105) (mm_yb 105) (mm_ml 105) (mm_yr 105) ∈ mm_gT := mm_inG (i := 929) rfl rfl
set_option maxRecDepth 100000 in
theorem mm_w106 : Jvm.Cond.code (mm_yn 106) (mm_yb 106) (mm_ml 106) (mm_yr 106) ∈ mm_gT := mm_inG (i := 939) rfl rfl
set_option maxRecDepth 100000 in
theorem mm_w107 : Jvm.Cond.code (mm_yn 107) (mm_yb 107) (mm_ml 107) (mm_yr 107) ∈ mm_gT := mm_inG (i := 856) rfl rfl
set_option maxRecDepth 100000 in
theorem mm_w108 : Jvm.Cond.code (mm_yn 108) (mm_yb 108) (mm_ml 108) (mm_yr 108) ∈ mm_gT := mm_inG (i := 864) rfl rfl
set_option maxRecDepth 100000 in
theorem mm_w109 : Jvm.Cond.code (mm_yn 109) (mm_yb 109) (mm_ml 109) (mm_yr 109) ∈ mm_gT := mm_inG (i := 873) rfl rfl
set_option maxRecDepth 100000 in
theorem mm_w110 : Jvm.Cond.code (mm_yn 110) (mm_yb 110) (mm_ml 110) (mm_yr 110) ∈ mm_gT := mm_inG (i := 868) rfl rfl
set_option maxRecDepth 100000 in
theorem mm_w111 : Jvm.Cond.code (mm_yn 111) (mm_yb 111) (mm_ml 111) (mm_yr 111) ∈ mm_gT := mm_inG (i := 909) rfl rfl
set_option maxRecDepth 100000 in
theorem mm_w112 : Jvm.Cond.code (mm_yn 112) (mm_yb 112) (mm_ml 112) (mm_yr 112) ∈ mm_gT := mm_inG (i := 1115) rfl rfl
set_option maxRecDepth 100000 in
theorem mm_w113 : Jvm.Cond.code (mm_yn 113) (mm_yb 113) (mm_ml 113) (mm_yr 113) ∈ mm_gT := mm_inG (i := 1049) rfl rfl
set_option maxRecDepth 100000 in
theorem mm_w114 : Jvm.Cond.code (mm_yn 114) (mm_yb 114) (mm_ml 114) (mm_yr 114) ∈ mm_gT := mm_inG (i := 130) rfl rfl
set_option maxRecDepth 100000 in
theorem mm_w115 : Jvm.Cond.code (mm_yn 115) (mm_yb 115) (mm_ml 115) (mm_yr 115) ∈ mm_gT := mm_inG (i := 603) rfl rfl
set_option maxRecDepth 100000 in
theorem mm_w116 : Jvm.Cond.code (mm_yn 116) (mm_yb 116) (mm_ml 116) (mm_yr 116) ∈ mm_gT := mm_inG (i := 616) rfl rfl
set_option maxRecDepth 100000 in
theorem mm_w117 : Jvm.Cond.code (mm_yn 117) (mm_yb 117) (mm_ml 117) (mm_yr 117) ∈ mm_gT := mm_inG (i := 620) rfl rfl
set_option maxRecDepth 100000 in
theorem mm_w118 : Jvm.Cond.code (mm_yn 118) (mm_yb 118) (mm_ml 118) (mm_yr 118) ∈ mm_gT := mm_inG (i := 852) rfl rfl
set_option maxRecDepth 100000 in
theorem mm_w119 : Jvm.Cond.code (mm_yn 119) (mm_yb 119) (mm_ml 119) (mm_yr 119) ∈ mm_gT := mm_inG (i := 860) rfl rfl
set_option maxRecDepth 100000 in
theorem mm_w120 : Jvm.Cond.code (mm_yn 120) (mm_yb 120) (mm_ml 120) (mm_yr 120) ∈ mm_gT := mm_inG (i := 882) rfl rfl
set_option maxRecDepth 100000 in
theorem mm_w121 : Jvm.Cond.code (mm_yn 121) (mm_yb 121) (mm_ml 121) (mm_yr 121) ∈ mm_gT := mm_inG (i := 886) rfl rfl
set_option maxRecDepth 100000 in
theorem mm_w122 : Jvm.Cond.code (mm_yn 122) (mm_yb 122) (mm_ml 122) (mm_yr 122) ∈ mm_gT := mm_inG (i := 890) rfl rfl
set_option maxRecDepth 100000 in
theorem mm_w123 : Jvm.Cond.code (mm_yn 123) (mm_yb 123) (mm_ml 123) (mm_yr 123) ∈ mm_gT := mm_inG (i := 896) rfl rfl
set_option maxRecDepth 100000 in
theorem mm_w124 : Jvm.Cond.code (mm_yn 124) (mm_yb 124) (mm_ml 124) (mm_yr 124) ∈ mm_gT := mm_inG (i := 900) rfl rfl
set_option maxRecDepth 100000 in
theorem mm_w125 : Jvm.Cond.code (mm_yn 125) (mm_yb 125) (mm_ml 125) (mm_yr 125) ∈ mm_gT := mm_inG (i := 904) rfl rfl
set_option maxRecDepth 100000 in
theorem mm_w126 : Jvm.Cond.code (mm_yn 126) (mm_yb 126) (mm_ml 126) (mm_yr 126) ∈ mm_gT := mm_inG (i := 1111) rfl rfl
set_option maxRecDepth 100000 in
theorem mm_w127 : Jvm.Cond.code (mm_yn 127) (mm_yb 127) (mm_ml 127) (mm_yr 127) ∈ mm_gT := mm_inG (i := 1127) rfl rfl
set_option maxRecDepth 100000 in
theorem mm_w128 : Jvm.Cond.code (mm_yn 128) (mm_yb 128) (mm_ml 128) (mm_yr 128) ∈ mm_gT := mm_inG (i := 1132) rfl rfl
set_option maxRecDepth 100000 in
theorem mm_w129 : Jvm.Cond.code (mm_yn 129) (mm_yb 129) (mm_ml 129) (mm_yr 129) ∈ mm_gT := mm_inG (i := 1137) rfl rfl
set_option maxRecDepth 100000 in
theorem mm_w130 : Jvm.Cond.code (mm_yn 130) (mm_yb 130) (mm_ml 130) (mm_yr 130) ∈ mm_gT := mm_inG (i := 1143) rfl rfl
set_option maxRecDepth 100000 in
theorem mm_w131 : Jvm.Cond.code (mm_yn 131) (mm_yb 131) (mm_ml 131) (mm_yr 131) ∈ mm_gT := mm_inG (i := 1147) rfl rfl
set_option maxRecDepth 100000 in
theorem mm_w132 : Jvm.Cond.code (mm_yn 132) (mm_yb 132) (mm_ml 132) (mm_yr 132) ∈ mm_gT := mm_inG (i := 1160) rfl rfl
set_option maxRecDepth 100000 in
theorem mm_w133 : Jvm.Cond.code (mm_yn 133) (mm_yb 133) (mm_ml 133) (mm_yr 133) ∈ mm_gT := mm_inG (i := 1168) rfl rfl
set_option maxRecDepth 100000 in
theorem mm_w134 : Jvm.Cond.code (mm_yn 134) (mm_yb 134) (mm_ml 134) (mm_yr 134) ∈ mm_gT := mm_inG (i := 1221) rfl rfl
set_option maxRecDepth 100000 in
theorem mm_w135 : Jvm.Cond.code (mm_yn 135) (mm_yb 135) (mm_ml 135) (mm_yr 135) ∈ mm_gT := mm_inG (i := 1238) rfl rfl
set_option maxRecDepth 100000 in
theorem mm_w136 : Jvm.Cond.code (mm_yn 136) (mm_yb 136) (mm_ml 136) (mm_yr 136) ∈ mm_gT := mm_inG (i := 1251) rfl rfl
set_option maxRecDepth 100000 in
theorem mm_w137 : Jvm.Cond.code (mm_yn 137) (mm_yb 137) (mm_ml 137) (mm_yr 137) ∈ mm_gT := mm_inG (i := 1269) rfl rfl
set_option maxRecDepth 100000 in
theorem mm_w138 : Jvm.Cond.code (mm_yn 138) (mm_yb 138) (mm_ml 138) (mm_yr 138) ∈ mm_gT := mm_inG (i := 1278) rfl rfl
set_option maxRecDepth 100000 in
theorem mm_w139 : Jvm.Cond.code (mm_yn 139) (mm_yb 139) (mm_ml 139) (mm_yr 139) ∈ mm_gT := mm_inG (i := 1291) rfl rfl
set_option maxRecDepth 100000 in
theorem mm_w140 : Jvm.Cond.code (mm_yn 140) (mm_yb 140) (mm_ml 140) (mm_yr 140) ∈ mm_gT := mm_inG (i := 1303) rfl rfl
set_option maxRecDepth 100000 in
theorem mm_w141 : Jvm.Cond.code (mm_yn 141) (mm_yb 141) (mm_ml 141) (mm_yr 141) ∈ mm_gT := mm_inG (i := 1319) rfl rfl
set_option maxRecDepth 100000 in
theorem mm_w142 : Jvm.Cond.code (mm_yn 142) (mm_yb 142) (mm_ml 142) (mm_yr 142) ∈ mm_gT := mm_inG (i := 1337) rfl rfl
set_option maxRecDepth 100000 in
theorem mm_w143 : Jvm.Cond.code (mm_yn 143) (mm_yb 143) (mm_ml 143) (mm_yr 143) ∈ mm_gT := mm_inG (i := 1351) rfl rfl
set_option maxRecDepth 100000 in
theorem mm_w144 : Jvm.Cond.code (mm_yn 144) (mm_yb 144) (mm_ml 144) (mm_yr 144) ∈ mm_gT := mm_inG (i := 632) rfl rfl
set_option maxRecDepth 100000 in
theorem mm_w145 : Jvm.Cond.code (mm_yn 145) (mm_yb 145) (mm_ml 145) (mm_yr 145) ∈ mm_gT := mm_inG (i := 628) rfl rfl
set_option maxRecDepth 100000 in
theorem mm_w146 : Jvm.Cond.code (mm_yn 146) (mm_yb 146) (mm_ml 146) (mm_yr 146) ∈ mm_gT := mm_inG (i := 841) rfl rfl
set_option maxRecDepth 100000 in
theorem mm_w147 : Jvm.Cond.code (mm_yn 147) (mm_yb 147) (mm_ml 147) (mm_yr 147) ∈ mm_gT := mm_inG (i := 624) rfl rfl
set_option maxRecDepth 100000 in
theorem mm_w148 : Jvm.Cond.code (mm_yn 148) (mm_yb 148) (mm_ml 148) (mm_yr 148) ∈ mm_gT := mm_inG (i := 661) rfl rfl
set_option maxRecDepth 100000 in
theorem mm_w149 : Jvm.Cond.code (mm_yn 149) (mm_yb 149) (mm_ml 149) (mm_yr 149) ∈ mm_gT := mm_inG (i := 837) rfl rfl
set_option maxRecDepth 100000 in
theorem mm_w150 : Jvm.Cond.code (mm_yn 150) (mm_yb 150) (mm_ml 150) (mm_yr 150) ∈ mm_gT := mm_inG (i := 848) rfl rfl
set_option maxRecDepth 100000 in
theorem mm_w151 : Jvm.Cond.code (mm_yn 151) (mm_yb 151) (mm_ml 151) (mm_yr 151) ∈ mm_gT := mm_inG (i := 917) rfl rfl
set_option maxRecDepth 100000 in
theorem mm_w152 : Jvm.Cond.code (mm_yn 152) (mm_yb 152) (mm_ml 152) (mm_yr 152) ∈ mm_gT := mm_inG (i := 1172) rfl rfl
set_option maxRecDepth 100000 in
theorem mm_w153 : Jvm.Cond.code (mm_yn 153) (mm_yb 153) (mm_ml 153) (mm_yr 153) ∈ mm_gT := mm_inG (i := 1151) rfl rfl
set_option maxRecDepth 100000 in
theorem mm_w154 : Jvm.Cond.code (mm_yn 154) (mm_yb 154) (mm_ml 154) (mm_yr 154) ∈ mm_gT := mm_inG (i := 142) rfl rfl
set_option maxRecDepth 100000 in
theorem mm_w155 : Jvm.Cond.code (mm_yn 155) (mm_yb 155) (mm_ml 155) (mm_yr 155) ∈ mm_gT := mm_inG (i := 201) rfl rfl
set_option maxRecDepth 100000 in
theorem mm_w156 : Jvm.Cond.code (mm_yn 156) (mm_yb 156) (mm_ml 156) (mm_yr 156) ∈ mm_gT := mm_inG (i := 779) rfl rfl
set_option maxRecDepth 100000 in
theorem mm_w157 : Jvm.Cond.code (mm_yn 157) (mm_yb 157) (mm_ml 157) (mm_yr 157) ∈ mm_gT := mm_inG (i := 729) rfl rfl
set_option maxRecDepth 100000 in
theorem mm_w158 : Jvm.Cond.code (mm_yn 158) (mm_yb 158) (mm_ml 158) (mm_yr 158) ∈ mm_gT := mm_inG (i := 252) rfl rfl
set_option maxRecDepth 100000 in
theorem mm_w159 : Jvm.Cond.code (mm_yn 159) (mm_yb 159) (mm_ml 159) (mm_yr 159) ∈ mm_gT := mm_inG (i := 736) rfl rfl
set_option maxRecDepth 100000 in
theorem mm_w160 : Jvm.Cond.code (mm_yn 160) (mm_yb 160) (mm_ml 160) (mm_yr 160) ∈ mm_gT := mm_inG (i := 1086) rfl rfl
set_option maxRecDepth 100000 in
theorem mm_w161 : Jvm.Cond.code (mm_yn 161) (mm_yb 161) (mm_ml 161) (mm_yr 161) ∈ mm_gT := mm_inG (i := 651) rfl rfl
set_option maxRecDepth 100000 in
theorem mm_w162 : Jvm.Cond.code (mm_yn 162) (mm_yb 162) (mm_ml 162) (mm_yr 162) ∈ mm_gT := mm_inG (i := 643) rfl rfl
set_option maxRecDepth 100000 in
theorem mm_w163 : Jvm.Cond.code (mm_yn 163) (mm_yb 163) (mm_ml 163) (mm_yr 163) ∈ mm_gT := mm_inG (i := 946) rfl rfl
set_option maxRecDepth 100000 in
theorem mm_w164 : Jvm.Cond.code (mm_yn 164) (mm_yb 164) (mm_ml 164) (mm_yr 164) ∈ mm_gT := mm_inG (i := 943) rfl rfl
set_option maxRecDepth 100000 in
theorem mm_w165 : Jvm.Cond.code (mm_yn 165) (mm_yb 165) (mm_ml 165) (mm_yr 165) ∈ mm_gT := mm_inG (i := 956) rfl rfl
set_option maxRecDepth 100000 in
theorem mm_w166 : Jvm.Cond.code (mm_yn 166) (mm_yb 166) (mm_ml 166) (mm_yr 166) ∈ mm_gT := mm_inG (i := 687) rfl rfl
set_option maxRecDepth 100000 in
theorem mm_w167 : Jvm.Cond.code (mm_yn 167) (mm_yb 167) (mm_ml 167) (mm_yr 167) ∈ mm_gT := mm_inG (i := 701) rfl rfl
set_option maxRecDepth 100000 in
theorem mm_w168 : Jvm.Cond.code (mm_yn 168) (mm_yb 168) (mm_ml 168) (mm_yr 168) ∈ mm_gT := mm_inG (i := 698) rfl rfl
set_option maxRecDepth 100000 in
theorem mm_w169 : Jvm.Cond.code (mm_yn 169) (mm_yb 169) (mm_ml 169) (mm_yr 169) ∈ mm_gT := mm_inG (i := 684) rfl rfl
set_option maxRecDepth 100000 in
theorem mm_w170 : Jvm.Cond.code (mm_yn 170) (mm_yb 170) (mm_ml 170) (mm_yr 170) ∈ mm_gT := mm_inG (i := 933) rfl rfl
set_option maxRecDepth 100000 in
theorem mm_w171 : Jvm.Cond.code (mm_yn 171) (mm_yb 171) (mm_ml 171) (mm_yr 171) ∈ mm_gT := mm_inG (i := 981) rfl rfl
set_option maxRecDepth 100000 in
theorem mm_w172 : Jvm.Cond.code (mm_yn 172) (mm_yb 172) (mm_ml 172) (mm_yr 172) ∈ mm_gT := mm_inG (i := 1063) rfl rfl
set_option maxRecDepth 100000 in
theorem mm_w173 : Jvm.Cond.code (mm_yn 173) (mm_yb 173) (mm_ml 173) (mm_yr 173) ∈ mm_gT := mm_inG (i := 1060) rfl rfl
set_option maxRecDepth 100000 in
theorem mm_w174 : Jvm.Cond.code (mm_yn 174) (mm_yb 174) (mm_ml 174) (mm_yr 174) ∈ mm_gT := mm_inG (i := 1067) rfl rfl
set_option maxRecDepth 100000 in
theorem mm_w175 : Jvm.Cond.code (mm_yn 175) (mm_yb 175) (mm_ml 175) (mm_yr 175) ∈ mm_gT := mm_inG (i := 1285) rfl rfl
set_option maxRecDepth 100000 in
theorem mm_w176 : Jvm.Cond.code (mm_yn 176) (mm_yb 176) (mm_ml 176) (mm_yr 176) ∈ mm_gT := mm_inG (i := 1227) rfl rfl
set_option maxRecDepth 100000 in
theorem mm_w177 : Jvm.Cond.code (mm_yn 177) (mm_yb 177) (mm_ml 177) (mm_yr 177) ∈ mm_gT := mm_inG (i := 1231) rfl rfl
set_option maxRecDepth 100000 in
theorem mm_w178 : Jvm.Cond.code (mm_yn 178) (mm_yb 178) (mm_ml 178) (mm_yr 178) ∈ mm_gT := mm_inG (i := 1224) rfl rfl
set_option maxRecDepth 100000 in
theorem mm_w179 : Jvm.Cond.code (mm_yn 179) (mm_yb 179) (mm_ml 179) (mm_yr 179) ∈ mm_gT := mm_inG (i := 1242) rfl rfl
set_option maxRecDepth 100000 in
theorem mm_w180 : Jvm.Cond.code (mm_yn 180) (mm_yb 180) (mm_ml 180) (mm_yr 180) ∈ mm_gT := mm_inG (i := 1183) rfl rfl
set_option maxRecDepth 100000 in
theorem mm_w181 : Jvm.Cond.code (mm_yn 181) (mm_yb 181) (mm_ml 181) (mm_yr 181) ∈ mm_gT := mm_inG (i := 1674) rfl rfl
set_option maxRecDepth 100000 in
theorem mm_w182 : Jvm.Cond.code (mm_yn 182) (mm_yb 182) (mm_ml 182) (mm_yr 182) ∈ mm_gT := mm_inG (i := 1457) rfl rfl
set_option maxRecDepth 100000 in
theorem mm_w183 : Jvm.Cond.code (mm_yn 183) (mm_yb 183) (mm_ml 183) (mm_yr 183) ∈ mm_gT := mm_inG (i := 1450) rfl rfl
set_option maxRecDepth 100000 in
theorem mm_w184 : Jvm.Cond.code (mm_yn 184) (mm_yb 184) (mm_ml 184) (mm_yr 184) ∈ mm_gT := mm_inG (i := 1356) rfl rfl
set_option maxRecDepth 100000 in
theorem mm_w185 : Jvm.Cond.code (mm_yn 185) (mm_yb 185) (mm_ml 185) (mm_yr 185) ∈ mm_gT := mm_inG (i := 1744) rfl rfl
set_option maxRecDepth 100000 in
theorem mm_w186 : Jvm.Cond.code (mm_yn 186) (mm_yb 186) (mm_ml 186) (mm_yr 186) ∈ mm_gT := mm_inG (i := 1659) rfl rfl
set_option maxRecDepth 100000 in
theorem mm_w187 : Jvm.Cond.code (mm_yn 187) (mm_yb 187) (mm_ml 187) (mm_yr 187) ∈ mm_gT := mm_inG (i := 1708) rfl rfl
set_option maxRecDepth 100000 in
theorem mm_w188 : Jvm.Cond.code (mm_yn 188) (mm_yb 188) (mm_ml 188) (mm_yr 188) ∈ mm_gT := mm_inG (i := 1712) rfl rfl
set_option maxRecDepth 100000 in
theorem mm_w189 : Jvm.Cond.code (mm_yn 189) (mm_yb 189) (mm_ml 189) (mm_yr 189) ∈ mm_gT := mm_inG (i := 1804) rfl rfl
set_option maxRecDepth 100000 in
theorem mm_w190 : Jvm.Cond.code (mm_yn 190) (mm_yb 190) (mm_ml 190) (mm_yr 190) ∈ mm_gT := mm_inG (i := 1801) rfl rfl
set_option maxRecDepth 100000 in
theorem mm_w191 : Jvm.Cond.code (mm_yn 191) (mm_yb 191) (mm_ml 191) (mm_yr 191) ∈ mm_gT := mm_inG (i := 1717) rfl rfl
set_option maxRecDepth 100000 in
theorem mm_w192 : Jvm.Cond.code (mm_yn 192) (mm_yb 192) (mm_ml 192) (mm_yr 192) ∈ mm_gT := mm_inG (i := 1732) rfl rfl
set_option maxRecDepth 100000 in
theorem mm_w193 : Jvm.Cond.code (mm_yn 193) (mm_yb 193) (mm_ml 193) (mm_yr 193) ∈ mm_gT := mm_inG (i := 1798) rfl rfl
set_option maxRecDepth 100000 in
theorem mm_w194 : Jvm.Cond.code (mm_yn 194) (mm_yb 194) (mm_ml 194) (mm_yr 194) ∈ mm_gT := mm_inG (i := 1808) rfl rfl
set_option maxRecDepth 100000 in
theorem mm_w195 : Jvm.Cond.code (mm_yn 195) (mm_yb 195) (mm_ml 195) (mm_yr 195) ∈ mm_gT := mm_inG (i := 1427) rfl rfl
set_option maxRecDepth 100000 in
theorem mm_w196 : Jvm.Cond.code (mm_yn 196) (mm_yb 196) (mm_ml 196) (mm_yr 196) ∈ mm_gT := mm_inG (i := 1974) rfl rfl
set_option maxRecDepth 100000 in
theorem mm_w197 : Jvm.Cond.code (mm_yn 197) (mm_yb 197) (mm_ml 197) (mm_yr 197) ∈ mm_gT := mm_inG (i := 1667) rfl rfl
set_option maxRecDepth 100000 in
theorem mm_w198 : Jvm.Cond.code (mm_yn 198) (mm_yb 198) (mm_ml 198) (mm_yr 198) ∈ mm_gT := mm_inG (i := 1663) rfl rfl
set_option maxRecDepth 100000 in
theorem mm_w199 : Jvm.Cond.code (mm_yn 199) (mm_yb 199) (mm_ml 199) (mm_yr 199) ∈ mm_gT := mm_inG (i := 1671) rfl rfl
set_option maxRecDepth 100000 in
theorem mm_w200 : Jvm.Cond.code (mm_yn 200) (mm_yb 200) (mm_ml 200) (mm_yr 200) ∈ mm_gT := mm_inG (i := 1404) rfl rfl
set_option maxRecDepth 100000 in
theorem mm_w201 : Jvm.Cond.code (mm_yn 201) (mm_yb 201) (mm_ml 201) (mm_yr 201) ∈ mm_gT := mm_inG (i := 1424) rfl rfl
set_option maxRecDepth 100000 in
theorem mm_w202 : Jvm.Cond.code (mm_yn 202) (mm_yb 202) (mm_ml 202) (mm_yr 202) ∈ mm_gT := mm_inG (i := 1439) rfl rfl
set_option maxRecDepth 100000 in
theorem mm_w203 : Jvm.Cond.code (mm_yn 203) (mm_yb 203) (mm_ml 203) (mm_yr 203) ∈ mm_gT := mm_inG (i := 1703) rfl rfl
set_option maxRecDepth 100000 in
theorem mm_w204 : Jvm.Cond.code (mm_yn 204) (mm_yb 204) (mm_ml 204) (mm_yr 204) ∈ mm_gT := mm_inG (i := 1699) rfl rfl
set_option maxRecDepth 100000 in
theorem mm_w205 : Jvm.Cond.code (mm_yn 205) (mm_yb 205) (mm_ml 205) (mm_yr 205) ∈ mm_gT := mm_inG (i := 1443) rfl rfl
set_option maxRecDepth 100000 in
theorem mm_w206 : Jvm.Cond.code (mm_yn 206) (mm_yb 206) (mm_ml 206) (mm_yr 206) ∈ mm_gT := mm_inG (i := 1695) rfl rfl
set_option maxRecDepth 100000 in
theorem mm_w207 : Jvm.Cond.code (mm_yn 207) (mm_yb 207) (mm_ml 207) (mm_yr 207) ∈ mm_gT := mm_inG (i := 1722) rfl rfl
set_option maxRecDepth 100000 in
theorem mm_w208 : Jvm.Cond.code (mm_yn 208) (mm_yb 208) (mm_ml 208) (mm_yr 208) ∈ mm_gT := mm_inG (i := 1727) rfl rfl
set_option maxRecDepth 100000 in
theorem mm_w209 : Jvm.Cond.code (mm_yn 209) (mm_yb 209) (mm_ml 209) (mm_yr 209) ∈ mm_gT := mm_inG (i := 1736) rfl rfl
set_option maxRecDepth 100000 in
theorem mm_w210 : Jvm.Cond.code (mm_yn 210) (mm_yb 210) (mm_ml 210) (mm_yr 210) ∈ mm_gT := mm_inG (i := 1435) rfl rfl
set_option maxRecDepth 100000 in
theorem mm_w211 : Jvm.Cond.code (mm_yn 211) (mm_yb 211) (mm_ml 211) (mm_yr 211) ∈ mm_gT := mm_inG (i := 1420) rfl rfl
set_option maxRecDepth 100000 in
theorem mm_w212 : Jvm.Cond.code (mm_yn 212) (mm_yb 212) (mm_ml 212) (mm_yr 212) ∈ mm_gT := mm_inG (i := 1447) rfl rfl
set_option maxRecDepth 100000 in
theorem mm_w213 : Jvm.Cond.code (mm_yn 213) (mm_yb 213) (mm_ml 213) (mm_yr 213) ∈ mm_gT := mm_inG (i := 1431) rfl rfl
set_option maxRecDepth 100000 in
theorem mm_w214 : Jvm.Cond.code (mm_yn 214) (mm_yb 214) (mm_ml 214) (mm_yr 214) ∈ mm_gT := mm_inG (i := 1416) rfl rfl
set_option maxRecDepth 100000 in
theorem mm_w215 : Jvm.Cond.code (mm_yn 215) (mm_yb 215) (mm_ml 215) (mm_yr 215) ∈ mm_gT := mm_inG (i := 1412) rfl rfl
set_option maxRecDepth 100000 in
theorem mm_w216 : Jvm.Cond.code (mm_yn 216) (mm_yb 216) (mm_ml 216) (mm_yr 216) ∈ mm_gT := mm_inG (i := 1408) rfl rfl
set_option maxRecDepth 100000 in
theorem mm_w217 : Jvm.Cond.code (mm_yn 217) (mm_yb 217) (mm_ml 217) (mm_yr 217) ∈ mm_gT := mm_inG (i := 1454) rfl rfl
set_option maxRecDepth 100000 in
theorem mm_w218 : Jvm.Cond.code (mm_yn 218) (mm_yb 218) (mm_ml 218) (mm_yr 218) ∈ mm_gT := mm_inG (i := 1691) rfl rfl
set_option maxRecDepth 100000 in
theorem mm_w219 : Jvm.Cond.code (mm_yn 219) (mm_yb 219) (mm_ml 219) (mm_yr 219) ∈ mm_gT := mm_inG (i := 1687) rfl rfl
set_option maxRecDepth 100000 in
theorem mm_w220 : Jvm.Cond.code (mm_yn 220) (mm_yb 220) (mm_ml 220) (mm_yr 220) ∈ mm_gT := mm_inG (i := 1740) rfl rfl
set_option maxRecDepth 100000 in
theorem mm_w221 : Jvm.Cond.code (mm_yn 221) (mm_yb 221) (mm_ml 221) (mm_yr 221) ∈ mm_gT := mm_inG (i := 1683) rfl rfl
set_option maxRecDepth 100000 in
theorem mm_w222 : Jvm.Cond.code (mm_yn 222) (mm_yb 222) (mm_ml 222) (mm_yr 222) ∈ mm_gT := mm_inG (i := 1678) rfl rfl
set_option maxRecDepth 100000 in
theorem mm_w223 : Jvm.Cond.code (mm_yn 223) (mm_yb 223) (mm_ml 223) (mm_yr 223) ∈ mm_gT := mm_inG (i := 1752) rfl rfl
set_option maxRecDepth 100000 in
theorem mm_w224 : Jvm.Cond.code (mm_yn 224) (mm_yb 224) (mm_ml 224) (mm_yr 224) ∈ mm_gT := mm_inG (i := 1748) rfl rfl
set_option maxRecDepth 100000 in
theorem mm_w225 : Jvm.Cond.code (mm_yn 225) (mm_yb 225) (mm_ml 225) (mm_yr 225) ∈ mm_gT := mm_inG (i := 1760) rfl rfl
set_option maxRecDepth 100000 in
theorem mm_w226 : Jvm.Cond.code (mm_yn 226) (mm_yb 226) (mm_ml 226) (mm_yr 226) ∈ mm_gT := mm_inG (i := 1756) rfl rfl
set_option maxRecDepth 100000 in
theorem mm_w227 : Jvm.Cond.code (mm_yn 227) (mm_yb 227) (mm_ml 227) (mm_yr 227) ∈ mm_gT := mm_inG (i := 1764) rfl rfl
set_option maxRecDepth 100000 in
theorem mm_w228 : Jvm.Cond.code (mm_yn 228) (mm_yb 228) (mm_ml 228) (mm_yr 228) ∈ mm_gT := mm_inG (i := 1768) rfl rfl
set_option maxRecDepth 100000 in
theorem mm_w229 : Jvm.Cond.code (mm_yn 229) (mm_yb 229) (mm_ml 229) (mm_yr 229) ∈ mm_gT := mm_inG (i := 1772) rfl rfl
set_option maxRecDepth 100000 in
theorem mm_w230 : Jvm.Cond.code (mm_yn 230) (mm_yb 230) (mm_ml 230) (mm_yr 230) ∈ mm_gT := mm_inG (i := 1777) rfl rfl
set_option maxRecDepth 100000 in
theorem mm_w231 : Jvm.Cond.code (mm_yn 231) (mm_yb 231) (mm_ml 231) (mm_yr 231) ∈ mm_gT := mm_inG (i := 1816) rfl rfl
set_option maxRecDepth 100000 in
theorem mm_w232 : Jvm.Cond.code (mm_yn 232) (mm_yb 232) (mm_ml 232) (mm_yr 232) ∈ mm_gT := mm_inG (i := 1820) rfl rfl
set_option maxRecDepth 100000 in
theorem mm_w233 : Jvm.Cond.code (mm_yn 233) (mm_yb 233) (mm_ml 233) (mm_yr 233) ∈ mm_gT := mm_inG (i := 1833) rfl rfl
set_option maxRecDepth 100000 in
theorem mm_w234 : Jvm.Cond.code (mm_yn 234) (mm_yb 234) (mm_ml 234) (mm_yr 234) ∈ mm_gT := mm_inG (i := 1829) rfl rfl
set_option maxRecDepth 100000 in
theorem mm_w235 : Jvm.Cond.code (mm_yn 235) (mm_yb 235) (mm_ml 235) (mm_yr 235) ∈ mm_gT := mm_inG (i := 1825) rfl rfl
set_option maxRecDepth 100000 in
theorem mm_w236 : Jvm.Cond.code (mm_yn 236) (mm_yb 236) (mm_ml 236) (mm_yr 236) ∈ mm_gT := mm_inG (i := 1837) rfl rfl
set_option maxRecDepth 100000 in
theorem mm_w237 : Jvm.Cond.code (mm_yn 237) (mm_yb 237) (mm_ml 237) (mm_yr 237) ∈ mm_gT := mm_inG (i := 1794) rfl rfl
set_option maxRecDepth 100000 in
theorem mm_w238 : Jvm.Cond.code (mm_yn 238) (mm_yb 238) (mm_ml 238) (mm_yr 238) ∈ mm_gT := mm_inG (i := 1812) rfl rfl
set_option maxRecDepth 100000 in
theorem mm_w239 : Jvm.Cond.code (mm_yn 239) (mm_yb 239) (mm_ml 239) (mm_yr 239) ∈ mm_gT := mm_inG (i := 1790) rfl rfl
set_option maxRecDepth 100000 in
theorem mm_w240 : Jvm.Cond.code (mm_yn 240) (mm_yb 240) (mm_ml 240) (mm_yr 240) ∈ mm_gT := mm_inG (i := 1846) rfl rfl
set_option maxRecDepth 100000 in
theorem mm_w241 : Jvm.Cond.code (mm_yn 241) (mm_yb 241) (mm_ml 241) (mm_yr 241) ∈ mm_gT := mm_inG (i := 1850) rfl rfl
set_option maxRecDepth 100000 in
theorem mm_w242 : Jvm.Cond.code (mm_yn 242) (mm_yb 242) (mm_ml 242) (mm_yr 242) ∈ mm_gT := mm_inG (i := 1842) rfl rfl
set_option maxRecDepth 100000 in
theorem mm_w243 : Jvm.Cond.code (mm_yn 243) (mm_yb 243) (mm_ml 243) (mm_yr 243) ∈ mm_gT := mm_inG (i := 1858) rfl rfl
set_option maxRecDepth 100000 in
theorem mm_w244 : Jvm.Cond.code (mm_yn 244) (mm_yb 244) (mm_ml 244) (mm_yr 244) ∈ mm_gT := mm_inG (i := 1854) rfl rfl
set_option maxRecDepth 100000 in
theorem mm_w245 : Jvm.Cond.code (mm_yn 245) (mm_yb 245) (mm_ml 245) (mm_yr 245) ∈ mm_gT := mm_inG (i := 1875) rfl rfl
set_option maxRecDepth 100000 in
theorem mm_w246 : Jvm.Cond.code (mm_yn 246) (mm_yb 246) (mm_ml 246) (mm_yr 246) ∈ mm_gT := mm_inG (i := 1872) rfl rfl
set_option maxRecDepth 100000 in
theorem mm_w247 : Jvm.Cond.code (mm_yn 247) (mm_yb 247) (mm_ml 247) (mm_yr 247) ∈ mm_gT := mm_inG (i := 1879) rfl rfl
set_option maxRecDepth 100000 in
theorem mm_w248 : Jvm.Cond.code (mm_yn 248) (mm_yb 248) (mm_ml 248) (mm_yr 248) ∈ mm_gT := mm_inG (i := 1883) rfl rfl
set_option maxRecDepth 100000 in
theorem mm_w249 : Jvm.Cond.code (mm_yn 249) (mm_yb 249) (mm_ml 249) (mm_yr 249) ∈ mm_gT := mm_inG (i := 1887) rfl rfl
set_option maxRecDepth 100000 in
theorem mm_w250 : Jvm.Cond.code (mm_yn 250) (mm_yb 250) (mm_ml 250) (mm_yr 250) ∈ mm_gT := mm_inG (i := 1868) rfl rfl
set_option maxRecDepth 100000 in
theorem mm_w251 : Jvm.Cond.code (mm_yn 251) (mm_yb 251) (mm_ml 251) (mm_yr 251) ∈ mm_gT := mm_inG (i := 1890) rfl rfl
set_option maxRecDepth 100000 in
theorem mm_w252 : Jvm.Cond.code (mm_yn 252) (mm_yb 252) (mm_ml 252) (mm_yr 252) ∈ mm_gT := mm_inG (i := 1940) rfl rfl
set_option maxRecDepth 100000 in
theorem mm_w253 : Jvm.Cond.code (mm_yn 253) (mm_yb 253) (mm_ml 253) (mm_yr 253) ∈ mm_gT := mm_inG (i := 1937) rfl rfl
set_option maxRecDepth 100000 in
theorem mm_w254 : Jvm.Cond.code (mm_yn 254) (mm_yb 254) (mm_ml 254) (mm_yr 254) ∈ mm_gT := mm_inG (i := 1928) rfl rfl
set_option maxRecDepth 100000 in
theorem mm_w255 : Jvm.Cond.code (mm_yn 255) (mm_yb 255) (mm_ml 255) (mm_yr 255) ∈ mm_gT := mm_inG (i := 1933) rfl rfl
set_option maxRecDepth 100000 in
theorem mm_w256 : Jvm.Cond.code (mm_yn 256) (mm_yb 256) (mm_ml 256) (mm_yr 256) ∈ mm_gT := mm_inG (i := 1786) rfl rfl
set_option maxRecDepth 100000 in
theorem mm_w257 : Jvm.Cond.code (mm_yn 257) (mm_yb 257) (mm_ml 257) (mm_yr 257) ∈ mm_gT := mm_inG (i := 1862) rfl rfl
set_option maxRecDepth 100000 in
theorem mm_w258 : Jvm.Cond.code (mm_yn 258) (mm_yb 258) (mm_ml 258) (mm_yr 258) ∈ mm_gT := mm_inG (i := 1782) rfl rfl
set_option maxRecDepth 100000 in
theorem mm_w259 : Jvm.Cond.code (mm_yn 259) (mm_yb 259) (mm_ml 259) (mm_yr 259) ∈ mm_gT := mm_inG (i := 1894) rfl rfl
set_option maxRecDepth 100000 in
theorem mm_w260 : Jvm.Cond.code (mm_yn 260) (mm_yb 260) (mm_ml 260) (mm_yr 260) ∈ mm_gT := mm_inG (i := 1908) rfl rfl
set_option maxRecDepth 100000 in
theorem mm_w261 : Jvm.Cond.code (mm_yn 261) (mm_yb 261) (mm_ml 261) (mm_yr 261) ∈ mm_gT := mm_inG (i := 1924) rfl rfl
set_option maxRecDepth 100000 in
theorem mm_w262 : Jvm.Cond.code (mm_yn 262) (mm_yb 262) (mm_ml 262) (mm_yr 262) ∈ mm_gT := mm_inG (i := 1947) rfl rfl
set_option maxRecDepth 100000 in
theorem mm_w263 : Jvm.Cond.code (mm_yn 263) (mm_yb 263) (mm_ml 263) (mm_yr 263) ∈ mm_gT := mm_inG (i := 1967) rfl rfl
set_option maxRecDepth 100000 in
theorem mm_w264 : Jvm.Cond.code (mm_yn 264) (mm_yb 264) (mm_ml 264) (mm_yr 264) ∈ mm_gT := mm_inG (i := 1963) rfl rfl
set_option maxRecDepth 100000 in
theorem mm_w265 : Jvm.Cond.code (mm_yn 265) (mm_yb 265) (mm_ml 265) (mm_yr 265) ∈ mm_gT := mm_inG (i := 1951) rfl rfl
set_option maxRecDepth 100000 in
theorem mm_w266 : Jvm.Cond.code (mm_yn 266) (mm_yb 266) (mm_ml 266) (mm_yr 266) ∈ mm_gT := mm_inG (i := 1959) rfl rfl
set_option maxRecDepth 100000 in
theorem mm_w267 : Jvm.Cond.code (mm_yn 267) (mm_yb 267) (mm_ml 267) (mm_yr 267) ∈ mm_gT := mm_inG (i := 1955) rfl rfl
set_option maxRecDepth 100000 in
theorem mm_w268 : Jvm.Cond.code (mm_yn 268) (mm_yb 268) (mm_ml 268) (mm_yr 268) ∈ mm_gT := mm_inG (i := 1971) rfl rfl
set_option maxRecDepth 100000 in
theorem mm_w269 : Jvm.Cond.code (mm_yn 269) (mm_yb 269) (mm_ml 269) (mm_yr 269) ∈ mm_gT := mm_inG (i := 1978) rfl rfl
set_option maxRecDepth 100000 in
theorem mm_w270 : Jvm.Cond.code (mm_yn 270) (mm_yb 270) (mm_ml 270) (mm_yr 270) ∈ mm_gT := mm_inG (i := 1982) rfl rfl
set_option maxRecDepth 100000 in
theorem mm_w271 : Jvm.Cond.code (mm_yn 271) (mm_yb 271) (mm_ml 271) (mm_yr 271) ∈ mm_gT := mm_inG (i := 1994) rfl rfl
set_option maxRecDepth 100000 in
theorem mm_w272 : Jvm.Cond.code (mm_yn 272) (mm_yb 272) (mm_ml 272) (mm_yr 272) ∈ mm_gT := mm_inG (i := 1998) rfl rfl
set_option maxRecDepth 100000 in
theorem mm_w273 : Jvm.Cond.code (mm_yn 273) (mm_yb 273) (mm_ml 273) (mm_yr 273) ∈ mm_gT := mm_inG (i := 1990) rfl rfl
set_option maxRecDepth 100000 in
theorem mm_w274 : Jvm.Cond.code (mm_yn 274) (mm_yb 274) (mm_ml 274) (mm_yr 274) ∈ mm_gT := mm_inG (i := 1986) rfl rfl
set_option maxRecDepth 100000 in
theorem mm_w275 : Jvm.Cond.code (mm_yn 275) (mm_yb 275) (mm_ml 275) (mm_yr 275) ∈ mm_gT := mm_inG (i := 2002) rfl rfl
set_option maxRecDepth 100000 in
theorem mm_w276 : Jvm.Cond.code (mm_yn 276) (mm_yb 276) (mm_ml 276) (mm_yr 276) ∈ mm_gT := mm_inG (i := 2010) rfl rfl
set_option maxRecDepth 100000 in
theorem mm_w277 : Jvm.Cond.code (mm_yn 277) (mm_yb 277) (mm_ml 277) (mm_yr 277) ∈ mm_gT := mm_inG (i := 2006) rfl rfl
set_option maxRecDepth 100000 in
theorem mm_w278 : Jvm.Cond.code (mm_yn 278) (mm_yb 278) (mm_ml 278) (mm_yr 278) ∈ mm_gT := mm_inG (i := 2014) rfl rfl
set_option maxRecDepth 100000 in
theorem mm_w279 : Jvm.Cond.code (mm_yn 279) (mm_yb 279) (mm_ml 279) (mm_yr 279) ∈ mm_gT := mm_inG (i := 2018) rfl rfl
set_option maxRecDepth 100000 in
theorem mm_w280 : Jvm.Cond.code (mm_yn 280) (mm_yb 280) (mm_ml 280) (mm_yr 280) ∈ mm_gT := mm_inG (i := 2022) rfl rfl
set_option maxRecDepth 100000 in
theorem mm_w281 : Jvm.Cond.code (mm_yn 281) (mm_yb 281) (mm_ml 281) (mm_yr 281) ∈ mm_gT := mm_inG (i := 2027) rfl rfl
set_option maxRecDepth 100000 in
theorem mm_w282 : Jvm.Cond.code (mm_yn 282) (mm_yb 282) (mm_ml 282) (mm_yr 282) ∈ mm_gT := mm_inG (i := 2031) rfl rfl
set_option maxRecDepth 100000 in
theorem mm_w283 : Jvm.Cond.code (mm_yn 283) (mm_yb 283) (mm_ml 283) (mm_yr 283) ∈ mm_gT := mm_inG (i := 2035) rfl rfl
set_option maxRecDepth 100000 in
theorem mm_w284 : Jvm.Cond.code (mm_yn 284) (mm_yb 284) (mm_ml 284) (mm_yr 284) ∈ mm_gT := mm_inG (i := 1916) rfl rfl
set_option maxRecDepth 100000 in
theorem mm_w285 : Jvm.Cond.code (mm_yn 285) (mm_yb 285) (mm_ml 285) (mm_yr 285) ∈ mm_gT := mm_inG (i := 1913) rfl rfl
set_option maxRecDepth 100000 in
theorem mm_w286 : Jvm.Cond.code (mm_yn 286) (mm_yb 286) (mm_ml 286) (mm_yr 286) ∈ mm_gT := mm_inG (i := 1900) rfl rfl
set_option maxRecDepth 100000 in
theorem mm_w287 : Jvm.Cond.code (mm_yn 287) (mm_yb 287) (mm_ml 287) (mm_yr 287) ∈ mm_gT := mm_inG (i := 1897) rfl rfl
set_option maxRecDepth 100000 in
theorem mm_w288 : Jvm.Cond.code (mm_yn 288) (mm_yb 288) (mm_ml 288) (mm_yr 288) ∈ mm_gT := mm_inG (i := 1213) rfl rfl
set_option maxRecDepth 100000 in
theorem mm_w289 : Jvm.Cond.code (mm_yn 289) (mm_yb 289) (mm_ml 289) (mm_yr 289) ∈ mm_gT := mm_inG (i := 1943) rfl rfl
set_option maxRecDepth 100000 in
theorem mm_w290 : Jvm.Cond.code (mm_yn 290) (mm_yb 290) (mm_ml 290) (mm_yr 290) ∈ mm_gT := mm_inG (i := 1186) rfl rfl
set_option maxRecDepth 100000 in
theorem mm_w291 : Jvm.Cond.code (mm_yn 291) (mm_yb 291) (mm_ml 291) (mm_yr 291) ∈ mm_gT := mm_inG (i := 998) rfl rfl
set_option maxRecDepth 100000 in
theorem mm_w292 : Jvm.Cond.code (mm_yn 292) (mm_yb 292) (mm_ml 292) (mm_yr 292) ∈ mm_gT := mm_inG (i := 844) rfl rfl
