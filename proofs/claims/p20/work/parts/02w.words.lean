set_option maxRecDepth 1000000 in
theorem pg_w0 : pg_tb 35 = some (.code (pg_mn 0) (pg_by 0) (pg_ml 0) (pg_rt 0)) := by rfl
set_option maxRecDepth 1000000 in
theorem pg_w1 : pg_tb 799 = some (.code (pg_mn 1) (pg_by 1) (pg_ml 1) (pg_rt 1)) := by rfl
set_option maxRecDepth 1000000 in
theorem pg_w2 : pg_tb 803 = some (.code (pg_mn 2) (pg_by 2) (pg_ml 2) (pg_rt 2)) := by rfl
set_option maxRecDepth 1000000 in
theorem pg_w3 : pg_tb 1388 = some (.code (pg_mn 3) (pg_by 3) (pg_ml 3) (pg_rt 3)) := by rfl
set_option maxRecDepth 1000000 in
theorem pg_w4 : pg_tb 1518 = some (.code (pg_mn 4) (pg_by 4) (pg_ml 4) (pg_rt 4)) := by rfl
set_option maxRecDepth 1000000 in
theorem pg_w5 : pg_tb 1571 = some (.code (pg_mn 5) (pg_by 5) (pg_ml 5) (pg_rt 5)) := by rfl
set_option maxRecDepth 1000000 in
theorem pg_w6 : pg_tb 1672 = some (.code (pg_mn 6) (pg_by 6) (pg_ml 6) (pg_rt 6)) := by rfl
set_option maxRecDepth 1000000 in
theorem pg_w7 : pg_tb 1676 = some (.code (pg_mn 7) (pg_by 7) (pg_ml 7) (pg_rt 7)) := by rfl
set_option maxRecDepth 1000000 in
theorem pg_w8 : pg_tb 1680 = some (.code (pg_mn 8) (pg_by 8) (pg_ml 8) (pg_rt 8)) := by rfl
set_option maxRecDepth 1000000 in
theorem pg_w9 : pg_tb 1721 = some (.code (pg_mn 9) (pg_by 9) (pg_ml 9) (pg_rt 9)) := by rfl
set_option maxRecDepth 1000000 in
theorem pg_w10 : pg_tb 1728 = some (.code (pg_mn 10) (pg_by 10) (pg_ml 10) (pg_rt 10)) := by rfl
set_option maxRecDepth 1000000 in
theorem pg_w11 : pg_tb 1762 = some (.code (pg_mn 11) (pg_by 11) (pg_ml 11) (pg_rt 11)) := by rfl
set_option maxRecDepth 1000000 in
theorem pg_w12 : pg_tb 1802 = some (.code (pg_mn 12) (pg_by 12) (pg_ml 12) (pg_rt 12)) := by rfl
set_option maxRecDepth 1000000 in
theorem pg_w13 : pg_tb 1811 = some (.code (pg_mn 13) (pg_by 13) (pg_ml 13) (pg_rt 13)) := by rfl
set_option maxRecDepth 1000000 in
theorem pg_w14 : pg_tb 1825 = some (.code (pg_mn 14) (pg_by 14) (pg_ml 14) (pg_rt 14)) := by rfl
set_option maxRecDepth 1000000 in
theorem pg_w15 : pg_tb 1852 = some (.code (pg_mn 15) (pg_by 15) (pg_ml 15) (pg_rt 15)) := by rfl
set_option maxRecDepth 1000000 in
theorem pg_w16 : pg_tb 1857 = some (.code (pg_mn 16) (pg_by 16) (pg_ml 16) (pg_rt 16)) := by rfl
set_option maxRecDepth 1000000 in
theorem pg_w17 : pg_tb 1863 = some (.code (pg_mn 17) (pg_by 17) (pg_ml 17) (pg_rt 17)) := by rfl
set_option maxRecDepth 1000000 in
theorem pg_w18 : pg_tb 1867 = some (.code (pg_mn 18) (pg_by 18) (pg_ml 18) (pg_rt 18)) := by rfl
set_option maxRecDepth 1000000 in
theorem pg_w19 : pg_tb 1912 = some (.code (pg_mn 19) (pg_by 19) (pg_ml 19) (pg_rt 19)) := by rfl
set_option maxRecDepth 1000000 in
theorem pg_w20 : pg_tb 1968 = some (.code (pg_mn 20) (pg_by 20) (pg_ml 20) (pg_rt 20)) := by rfl
set_option maxRecDepth 1000000 in
theorem pg_w21 : pg_tb 1975 = some (.code (pg_mn 21) (pg_by 21) (pg_ml 21) (pg_rt 21)) := by rfl
set_option maxRecDepth 1000000 in
theorem pg_w22 : pg_tb 1983 = some (.code (pg_mn 22) (pg_by 22) (pg_ml 22) (pg_rt 22)) := by rfl
set_option maxRecDepth 1000000 in
theorem pg_w23 : pg_tb 1987 = some (.code (pg_mn 23) (pg_by 23) (pg_ml 23) (pg_rt 23)) := by rfl
set_option maxRecDepth 1000000 in
theorem pg_w24 : pg_tb 2000 = some (.code (pg_mn 24) (pg_by 24) (pg_ml 24) (pg_rt 24)) := by rfl
set_option maxRecDepth 1000000 in
theorem pg_w25 : pg_tb 2008 = some (.code (pg_mn 25) (pg_by 25) (pg_ml 25) (pg_rt 25)) := by rfl
set_option maxRecDepth 1000000 in
theorem pg_w26 : pg_tb 2035 = some (.code (pg_mn 26) (pg_by 26) (pg_ml 26) (pg_rt 26)) := by rfl
set_option maxRecDepth 1000000 in
theorem pg_w27 : pg_tb 2039 = some (.code (pg_mn 27) (pg_by 27) (pg_ml 27) (pg_rt 27)) := by rfl
set_option maxRecDepth 1000000 in
theorem pg_w28 : pg_tb 2043 = some (.code (pg_mn 28) (pg_by 28) (pg_ml 28) (pg_rt 28)) := by rfl
set_option maxRecDepth 1000000 in
theorem pg_w29 : pg_tb 2083 = some (.code (pg_mn 29) (pg_by 29) (pg_ml 29) (pg_rt 29)) := by rfl
set_option maxRecDepth 1000000 in
theorem pg_w30 : pg_tb 2093 = some (.code (pg_mn 30) (pg_by 30) (pg_ml 30) (pg_rt 30)) := by rfl
set_option maxRecDepth 1000000 in
theorem pg_w31 : pg_tb 2106 = some (.code (pg_mn 31) (pg_by 31) (pg_ml 31) (pg_rt 31)) := by rfl
set_option maxRecDepth 1000000 in
theorem pg_w32 : pg_tb 2113 = some (.code (pg_mn 32) (pg_by 32) (pg_ml 32) (pg_rt 32)) := by rfl
set_option maxRecDepth 1000000 in
theorem pg_w33 : pg_tb 2121 = some (.code (pg_mn 33) (pg_by 33) (pg_ml 33) (pg_rt 33)) := by rfl
set_option maxRecDepth 1000000 in
theorem pg_w34 : pg_tb 2129 = some (.code (pg_mn 34) (pg_by 34) (pg_ml 34) (pg_rt 34)) := by rfl
set_option maxRecDepth 1000000 in
theorem pg_w35 : pg_tb 2138 = some (.code (pg_mn 35) (pg_by 35) (pg_ml 35) (pg_rt 35)) := by rfl
set_option maxRecDepth 1000000 in
theorem pg_w36 : pg_tb 2146 = some (.code (pg_mn 36) (pg_by 36) (pg_ml 36) (pg_rt 36)) := by rfl
set_option maxRecDepth 1000000 in
theorem pg_w37 : pg_tb 2154 = some (.code (pg_mn 37) (pg_by 37) (pg_ml 37) (pg_rt 37)) := by rfl
set_option maxRecDepth 1000000 in
theorem pg_w38 : pg_tb 2159 = some (.code (pg_mn 38) (pg_by 38) (pg_ml 38) (pg_rt 38)) := by rfl
set_option maxRecDepth 1000000 in
theorem pg_w39 : pg_tb 629 = some (.code (pg_mn 39) (pg_by 39) (pg_ml 39) (pg_rt 39)) := by rfl
set_option maxRecDepth 1000000 in
theorem pg_w40 : pg_tb 1431 = some (.code (pg_mn 40) (pg_by 40) (pg_ml 40) (pg_rt 40)) := by rfl
set_option maxRecDepth 1000000 in
theorem pg_w41 : pg_tb 1435 = some (.code (pg_mn 41) (pg_by 41) (pg_ml 41) (pg_rt 41)) := by rfl
set_option maxRecDepth 1000000 in
theorem pg_w42 : pg_tb 1474 = some (.code (pg_mn 42) (pg_by 42) (pg_ml 42) (pg_rt 42)) := by rfl
set_option maxRecDepth 1000000 in
theorem pg_w43 : pg_tb 1479 = some (.code (pg_mn 43) (pg_by 43) (pg_ml 43) (pg_rt 43)) := by rfl
set_option maxRecDepth 1000000 in
theorem pg_w44 : pg_tb 1506 = some (.code (pg_mn 44) (pg_by 44) (pg_ml 44) (pg_rt 44)) := by rfl
set_option maxRecDepth 1000000 in
theorem pg_w45 : pg_tb 1514 = some (.code (pg_mn 45) (pg_by 45) (pg_ml 45) (pg_rt 45)) := by rfl
set_option maxRecDepth 1000000 in
theorem pg_w46 : pg_tb 1532 = some (.code (pg_mn 46) (pg_by 46) (pg_ml 46) (pg_rt 46)) := by rfl
set_option maxRecDepth 1000000 in
theorem pg_w47 : pg_tb 1543 = some (.code (pg_mn 47) (pg_by 47) (pg_ml 47) (pg_rt 47)) := by rfl
set_option maxRecDepth 1000000 in
theorem pg_w48 : pg_tb 1549 = some (.code (pg_mn 48) (pg_by 48) (pg_ml 48) (pg_rt 48)) := by rfl
set_option maxRecDepth 1000000 in
theorem pg_w49 : pg_tb 542 = some (.code (pg_mn 49) (pg_by 49) (pg_ml 49) (pg_rt 49)) := by rfl
set_option maxRecDepth 1000000 in
theorem pg_w50 : pg_tb 1011 = some (.code (pg_mn 50) (pg_by 50) (pg_ml 50) (pg_rt 50)) := by rfl
set_option maxRecDepth 1000000 in
theorem pg_w51 : pg_tb 1015 = some (.code (pg_mn 51) (pg_by 51) (pg_ml 51) (pg_rt 51)) := by rfl
set_option maxRecDepth 1000000 in
theorem pg_w52 : pg_tb 1039 = some (.code (pg_mn 52) (pg_by 52) (pg_ml 52) (pg_rt 52)) := by rfl
set_option maxRecDepth 1000000 in
theorem pg_w53 : pg_tb 1338 = some (.code (pg_mn 53) (pg_by 53) (pg_ml 53) (pg_rt 53)) := by rfl
set_option maxRecDepth 1000000 in
theorem pg_w54 : pg_tb 1349 = some (.code (pg_mn 54) (pg_by 54) (pg_ml 54) (pg_rt 54)) := by rfl
set_option maxRecDepth 1000000 in
theorem pg_w55 : pg_tb 1354 = some (.code (pg_mn 55) (pg_by 55) (pg_ml 55) (pg_rt 55)) := by rfl
set_option maxRecDepth 1000000 in
theorem pg_w56 : pg_tb 1358 = some (.code (pg_mn 56) (pg_by 56) (pg_ml 56) (pg_rt 56)) := by rfl
set_option maxRecDepth 1000000 in
theorem pg_w57 : pg_tb 1365 = some (.code (pg_mn 57) (pg_by 57) (pg_ml 57) (pg_rt 57)) := by rfl
set_option maxRecDepth 1000000 in
theorem pg_w58 : pg_tb 1369 = some (.code (pg_mn 58) (pg_by 58) (pg_ml 58) (pg_rt 58)) := by rfl
set_option maxRecDepth 1000000 in
theorem pg_w59 : pg_tb 1375 = some (.code (pg_mn 59) (pg_by 59) (pg_ml 59) (pg_rt 59)) := by rfl
set_option maxRecDepth 1000000 in
theorem pg_w60 : pg_tb 1379 = some (.code (pg_mn 60) (pg_by 60) (pg_ml 60) (pg_rt 60)) := by rfl
set_option maxRecDepth 1000000 in
theorem pg_w61 : pg_tb 1383 = some (.code (pg_mn 61) (pg_by 61) (pg_ml 61) (pg_rt 61)) := by rfl
set_option maxRecDepth 1000000 in
theorem pg_w62 : pg_tb 1394 = some (.code (pg_mn 62) (pg_by 62) (pg_ml 62) (pg_rt 62)) := by rfl
set_option maxRecDepth 1000000 in
theorem pg_w63 : pg_tb 1398 = some (.code (pg_mn 63) (pg_by 63) (pg_ml 63) (pg_rt 63)) := by rfl
set_option maxRecDepth 1000000 in
theorem pg_w64 : pg_tb 1402 = some (.code (pg_mn 64) (pg_by 64) (pg_ml 64) (pg_rt 64)) := by rfl
set_option maxRecDepth 1000000 in
theorem pg_w65 : pg_tb 1406 = some (.code (pg_mn 65) (pg_by 65) (pg_ml 65) (pg_rt 65)) := by rfl
set_option maxRecDepth 1000000 in
theorem pg_w66 : pg_tb 1418 = some (.code (pg_mn 66) (pg_by 66) (pg_ml 66) (pg_rt 66)) := by rfl
set_option maxRecDepth 1000000 in
theorem pg_w67 : pg_tb 1422 = some (.code (pg_mn 67) (pg_by 67) (pg_ml 67) (pg_rt 67)) := by rfl
set_option maxRecDepth 1000000 in
theorem pg_w68 : pg_tb 1426 = some (.code (pg_mn 68) (pg_by 68) (pg_ml 68) (pg_rt 68)) := by rfl
set_option maxRecDepth 1000000 in
theorem pg_w69 : pg_tb 1489 = some (.code (pg_mn 69) (pg_by 69) (pg_ml 69) (pg_rt 69)) := by rfl
set_option maxRecDepth 1000000 in
theorem pg_w70 : pg_tb 1493 = some (.code (pg_mn 70) (pg_by 70) (pg_ml 70) (pg_rt 70)) := by rfl
set_option maxRecDepth 1000000 in
theorem pg_w71 : pg_tb 277 = some (.code (pg_mn 71) (pg_by 71) (pg_ml 71) (pg_rt 71)) := by rfl
set_option maxRecDepth 1000000 in
theorem pg_w72 : pg_tb 807 = some (.code (pg_mn 72) (pg_by 72) (pg_ml 72) (pg_rt 72)) := by rfl
set_option maxRecDepth 1000000 in
theorem pg_w73 : pg_tb 811 = some (.code (pg_mn 73) (pg_by 73) (pg_ml 73) (pg_rt 73)) := by rfl
set_option maxRecDepth 1000000 in
theorem pg_w74 : pg_tb 831 = some (.code (pg_mn 74) (pg_by 74) (pg_ml 74) (pg_rt 74)) := by rfl
set_option maxRecDepth 1000000 in
theorem pg_w75 : pg_tb 835 = some (.code (pg_mn 75) (pg_by 75) (pg_ml 75) (pg_rt 75)) := by rfl
set_option maxRecDepth 1000000 in
theorem pg_w76 : pg_tb 839 = some (.code (pg_mn 76) (pg_by 76) (pg_ml 76) (pg_rt 76)) := by rfl
set_option maxRecDepth 1000000 in
theorem pg_w77 : pg_tb 843 = some (.code (pg_mn 77) (pg_by 77) (pg_ml 77) (pg_rt 77)) := by rfl
set_option maxRecDepth 1000000 in
theorem pg_w78 : pg_tb 874 = some (.code (pg_mn 78) (pg_by 78) (pg_ml 78) (pg_rt 78)) := by rfl
set_option maxRecDepth 1000000 in
theorem pg_w79 : pg_tb 894 = some (.code (pg_mn 79) (pg_by 79) (pg_ml 79) (pg_rt 79)) := by rfl
set_option maxRecDepth 1000000 in
theorem pg_w80 : pg_tb 908 = some (.code (pg_mn 80) (pg_by 80) (pg_ml 80) (pg_rt 80)) := by rfl
set_option maxRecDepth 1000000 in
theorem pg_w81 : pg_tb 912 = some (.code (pg_mn 81) (pg_by 81) (pg_ml 81) (pg_rt 81)) := by rfl
set_option maxRecDepth 1000000 in
theorem pg_w82 : pg_tb 916 = some (.code (pg_mn 82) (pg_by 82) (pg_ml 82) (pg_rt 82)) := by rfl
set_option maxRecDepth 1000000 in
theorem pg_w83 : pg_tb 924 = some (.code (pg_mn 83) (pg_by 83) (pg_ml 83) (pg_rt 83)) := by rfl
set_option maxRecDepth 1000000 in
theorem pg_w84 : pg_tb 930 = some (.code (pg_mn 84) (pg_by 84) (pg_ml 84) (pg_rt 84)) := by rfl
set_option maxRecDepth 1000000 in
theorem pg_w85 : pg_tb 934 = some (.code (pg_mn 85) (pg_by 85) (pg_ml 85) (pg_rt 85)) := by rfl
set_option maxRecDepth 1000000 in
theorem pg_w86 : pg_tb 944 = some (.code (pg_mn 86) (pg_by 86) (pg_ml 86) (pg_rt 86)) := by rfl
set_option maxRecDepth 1000000 in
theorem pg_w87 : pg_tb 953 = some (.code (pg_mn 87) (pg_by 87) (pg_ml 87) (pg_rt 87)) := by rfl
set_option maxRecDepth 1000000 in
theorem pg_w88 : pg_tb 960 = some (.code (pg_mn 88) (pg_by 88) (pg_ml 88) (pg_rt 88)) := by rfl
set_option maxRecDepth 1000000 in
theorem pg_w89 : pg_tb 964 = some (.code (pg_mn 89) (pg_by 89) (pg_ml 89) (pg_rt 89)) := by rfl
set_option maxRecDepth 1000000 in
theorem pg_w90 : pg_tb 968 = some (.code (pg_mn 90) (pg_by 90) (pg_ml 90) (pg_rt 90)) := by rfl
set_option maxRecDepth 1000000 in
theorem pg_w91 : pg_tb 972 = some (.code (pg_mn 91) (pg_by 91) (pg_ml 91) (pg_rt 91)) := by rfl
set_option maxRecDepth 1000000 in
theorem pg_w92 : pg_tb 976 = some (.code (pg_mn 92) (pg_by 92) (pg_ml 92) (pg_rt 92)) := by rfl
set_option maxRecDepth 1000000 in
theorem pg_w93 : pg_tb 980 = some (.code (pg_mn 93) (pg_by 93) (pg_ml 93) (pg_rt 93)) := by rfl
set_option maxRecDepth 1000000 in
theorem pg_w94 : pg_tb 984 = some (.code (pg_mn 94) (pg_by 94) (pg_ml 94) (pg_rt 94)) := by rfl
set_option maxRecDepth 1000000 in
theorem pg_w95 : pg_tb 1002 = some (.code (pg_mn 95) (pg_by 95) (pg_ml 95) (pg_rt 95)) := by rfl
set_option maxRecDepth 1000000 in
theorem pg_w96 : pg_tb 1006 = some (.code (pg_mn 96) (pg_by 96) (pg_ml 96) (pg_rt 96)) := by rfl
set_option maxRecDepth 1000000 in
theorem pg_w97 : pg_tb 1332 = some (.code (pg_mn 97) (pg_by 97) (pg_ml 97) (pg_rt 97)) := by rfl
set_option maxRecDepth 1000000 in
theorem pg_w98 : pg_tb 1343 = some (.code (pg_mn 98) (pg_by 98) (pg_ml 98) (pg_rt 98)) := by rfl
set_option maxRecDepth 1000000 in
theorem pg_w99 : pg_tb 2163 = some (.code (pg_mn 99) (pg_by 99) (pg_ml 99) (pg_rt 99)) := by rfl
set_option maxRecDepth 1000000 in
theorem pg_w100 : pg_tb 692 = some (.code (pg_mn 100) (pg_by 100) (pg_ml 100) (pg_rt 100)) := by rfl
set_option maxRecDepth 1000000 in
theorem pg_w101 : pg_tb 1725 = some (.code (pg_mn 101) (pg_by 101) (pg_ml 101) (pg_rt 101)) := by rfl
set_option maxRecDepth 1000000 in
theorem pg_w102 : pg_tb 1733 = some (.code (pg_mn 102) (pg_by 102) (pg_ml 102) (pg_rt 102)) := by rfl
set_option maxRecDepth 1000000 in
theorem pg_w103 : pg_tb 1737 = some (.code (pg_mn 103) (pg_by 103) (pg_ml 103) (pg_rt 103)) := by rfl
set_option maxRecDepth 1000000 in
theorem pg_w104 : pg_tb 1746 = some (.code (pg_mn 104) (pg_by 104) (pg_ml 104) (pg_rt 104)) := by rfl
set_option maxRecDepth 1000000 in
theorem pg_w105 : pg_tb 1756 = some (.code (pg_mn 105) (pg_by 105) (pg_ml 105) (pg_rt 105)) := by rfl
set_option maxRecDepth 1000000 in
theorem pg_w106 : pg_tb 1766 = some (.code (pg_mn 106) (pg_by 106) (pg_ml 106) (pg_rt 106)) := by rfl
set_option maxRecDepth 1000000 in
theorem pg_w107 : pg_tb 1782 = some (.code (pg_mn 107) (pg_by 107) (pg_ml 107) (pg_rt 107)) := by rfl
set_option maxRecDepth 1000000 in
theorem pg_w108 : pg_tb 1788 = some (.code (pg_mn 108) (pg_by 108) (pg_ml 108) (pg_rt 108)) := by rfl
set_option maxRecDepth 1000000 in
theorem pg_w109 : pg_tb 1794 = some (.code (pg_mn 109) (pg_by 109) (pg_ml 109) (pg_rt 109)) := by rfl
set_option maxRecDepth 1000000 in
theorem pg_w110 : pg_tb 1806 = some (.code (pg_mn 110) (pg_by 110) (pg_ml 110) (pg_rt 110)) := by rfl
set_option maxRecDepth 1000000 in
theorem pg_w111 : pg_tb 1815 = some (.code (pg_mn 111) (pg_by 111) (pg_ml 111) (pg_rt 111)) := by rfl
set_option maxRecDepth 1000000 in
theorem pg_w112 : pg_tb 164 = some (.code (pg_mn 112) (pg_by 112) (pg_ml 112) (pg_rt 112)) := by rfl
set_option maxRecDepth 1000000 in
theorem pg_w113 : pg_tb 369 = some (.code (pg_mn 113) (pg_by 113) (pg_ml 113) (pg_rt 113)) := by rfl
set_option maxRecDepth 1000000 in
theorem pg_w114 : pg_tb 373 = some (.code (pg_mn 114) (pg_by 114) (pg_ml 114) (pg_rt 114)) := by rfl
set_option maxRecDepth 1000000 in
theorem pg_w115 : pg_tb 425 = some (.code (pg_mn 115) (pg_by 115) (pg_ml 115) (pg_rt 115)) := by rfl
set_option maxRecDepth 1000000 in
theorem pg_w116 : pg_tb 827 = some (.code (pg_mn 116) (pg_by 116) (pg_ml 116) (pg_rt 116)) := by rfl
set_option maxRecDepth 1000000 in
theorem pg_w117 : pg_tb 886 = some (.code (pg_mn 117) (pg_by 117) (pg_ml 117) (pg_rt 117)) := by rfl
set_option maxRecDepth 1000000 in
theorem pg_w118 : pg_tb 948 = some (.code (pg_mn 118) (pg_by 118) (pg_ml 118) (pg_rt 118)) := by rfl
set_option maxRecDepth 1000000 in
theorem pg_w119 : pg_tb 1566 = some (.code (pg_mn 119) (pg_by 119) (pg_ml 119) (pg_rt 119)) := by rfl
set_option maxRecDepth 1000000 in
theorem pg_w120 : pg_tb 1657 = some (.code (pg_mn 120) (pg_by 120) (pg_ml 120) (pg_rt 120)) := by rfl
set_option maxRecDepth 1000000 in
theorem pg_w121 : pg_tb 156 = some (.code (pg_mn 121) (pg_by 121) (pg_ml 121) (pg_rt 121)) := by rfl
set_option maxRecDepth 1000000 in
theorem pg_w122 : pg_tb 815 = some (.code (pg_mn 122) (pg_by 122) (pg_ml 122) (pg_rt 122)) := by rfl
set_option maxRecDepth 1000000 in
theorem pg_w123 : pg_tb 819 = some (.code (pg_mn 123) (pg_by 123) (pg_ml 123) (pg_rt 123)) := by rfl
set_option maxRecDepth 1000000 in
theorem pg_w124 : pg_tb 823 = some (.code (pg_mn 124) (pg_by 124) (pg_ml 124) (pg_rt 124)) := by rfl
set_option maxRecDepth 1000000 in
theorem pg_w125 : pg_tb 75 = some (.code (pg_mn 125) (pg_by 125) (pg_ml 125) (pg_rt 125)) := by rfl
set_option maxRecDepth 1000000 in
theorem pg_w126 : pg_tb 847 = some (.code (pg_mn 126) (pg_by 126) (pg_ml 126) (pg_rt 126)) := by rfl
set_option maxRecDepth 1000000 in
theorem pg_w127 : pg_tb 851 = some (.code (pg_mn 127) (pg_by 127) (pg_ml 127) (pg_rt 127)) := by rfl
set_option maxRecDepth 1000000 in
theorem pg_w128 : pg_tb 855 = some (.code (pg_mn 128) (pg_by 128) (pg_ml 128) (pg_rt 128)) := by rfl
set_option maxRecDepth 1000000 in
theorem pg_w129 : pg_tb 859 = some (.code (pg_mn 129) (pg_by 129) (pg_ml 129) (pg_rt 129)) := by rfl
set_option maxRecDepth 1000000 in
theorem pg_w130 : pg_tb 866 = some (.code (pg_mn 130) (pg_by 130) (pg_ml 130) (pg_rt 130)) := by rfl
set_option maxRecDepth 1000000 in
theorem pg_w131 : pg_tb 870 = some (.code (pg_mn 131) (pg_by 131) (pg_ml 131) (pg_rt 131)) := by rfl
set_option maxRecDepth 1000000 in
theorem pg_w132 : pg_tb 878 = some (.code (pg_mn 132) (pg_by 132) (pg_ml 132) (pg_rt 132)) := by rfl
set_option maxRecDepth 1000000 in
theorem pg_w133 : pg_tb 882 = some (.code (pg_mn 133) (pg_by 133) (pg_ml 133) (pg_rt 133)) := by rfl
set_option maxRecDepth 1000000 in
theorem pg_w134 : pg_tb 898 = some (.code (pg_mn 134) (pg_by 134) (pg_ml 134) (pg_rt 134)) := by rfl
set_option maxRecDepth 1000000 in
theorem pg_w135 : pg_tb 904 = some (.code (pg_mn 135) (pg_by 135) (pg_ml 135) (pg_rt 135)) := by rfl
set_option maxRecDepth 1000000 in
theorem pg_w136 : pg_tb 920 = some (.code (pg_mn 136) (pg_by 136) (pg_ml 136) (pg_rt 136)) := by rfl
set_option maxRecDepth 1000000 in
theorem pg_w137 : pg_tb 938 = some (.code (pg_mn 137) (pg_by 137) (pg_ml 137) (pg_rt 137)) := by rfl
set_option maxRecDepth 1000000 in
theorem pg_w138 : pg_tb 988 = some (.code (pg_mn 138) (pg_by 138) (pg_ml 138) (pg_rt 138)) := by rfl
set_option maxRecDepth 1000000 in
theorem pg_w139 : pg_tb 996 = some (.code (pg_mn 139) (pg_by 139) (pg_ml 139) (pg_rt 139)) := by rfl
set_option maxRecDepth 1000000 in
theorem pg_w140 : pg_tb 1498 = some (.code (pg_mn 140) (pg_by 140) (pg_ml 140) (pg_rt 140)) := by rfl
set_option maxRecDepth 1000000 in
theorem pg_w141 : pg_tb 1554 = some (.code (pg_mn 141) (pg_by 141) (pg_ml 141) (pg_rt 141)) := by rfl
set_option maxRecDepth 1000000 in
theorem pg_w142 : pg_tb 1606 = some (.code (pg_mn 142) (pg_by 142) (pg_ml 142) (pg_rt 142)) := by rfl
set_option maxRecDepth 1000000 in
theorem pg_w143 : pg_tb 1876 = some (.code (pg_mn 143) (pg_by 143) (pg_ml 143) (pg_rt 143)) := by rfl
set_option maxRecDepth 1000000 in
theorem pg_w144 : pg_tb 1880 = some (.code (pg_mn 144) (pg_by 144) (pg_ml 144) (pg_rt 144)) := by rfl
set_option maxRecDepth 1000000 in
theorem pg_w145 : pg_tb 1884 = some (.code (pg_mn 145) (pg_by 145) (pg_ml 145) (pg_rt 145)) := by rfl
set_option maxRecDepth 1000000 in
theorem pg_w146 : pg_tb 1891 = some (.code (pg_mn 146) (pg_by 146) (pg_ml 146) (pg_rt 146)) := by rfl
set_option maxRecDepth 1000000 in
theorem pg_w147 : pg_tb 1895 = some (.code (pg_mn 147) (pg_by 147) (pg_ml 147) (pg_rt 147)) := by rfl
set_option maxRecDepth 1000000 in
theorem pg_w148 : pg_tb 1900 = some (.code (pg_mn 148) (pg_by 148) (pg_ml 148) (pg_rt 148)) := by rfl
set_option maxRecDepth 1000000 in
theorem pg_w149 : pg_tb 1906 = some (.code (pg_mn 149) (pg_by 149) (pg_ml 149) (pg_rt 149)) := by rfl
set_option maxRecDepth 1000000 in
theorem pg_w150 : pg_tb 1918 = some (.code (pg_mn 150) (pg_by 150) (pg_ml 150) (pg_rt 150)) := by rfl
set_option maxRecDepth 1000000 in
theorem pg_w151 : pg_tb 1922 = some (.code (pg_mn 151) (pg_by 151) (pg_ml 151) (pg_rt 151)) := by rfl
set_option maxRecDepth 1000000 in
theorem pg_w152 : pg_tb 1928 = some (.code (pg_mn 152) (pg_by 152) (pg_ml 152) (pg_rt 152)) := by rfl
set_option maxRecDepth 1000000 in
theorem pg_w153 : pg_tb 1934 = some (.code (pg_mn 153) (pg_by 153) (pg_ml 153) (pg_rt 153)) := by rfl
set_option maxRecDepth 1000000 in
theorem pg_w154 : pg_tb 1940 = some (.code (pg_mn 154) (pg_by 154) (pg_ml 154) (pg_rt 154)) := by rfl
set_option maxRecDepth 1000000 in
theorem pg_w155 : pg_tb 1949 = some (.code (pg_mn 155) (pg_by 155) (pg_ml 155) (pg_rt 155)) := by rfl
set_option maxRecDepth 1000000 in
theorem pg_w156 : pg_tb 1954 = some (.code (pg_mn 156) (pg_by 156) (pg_ml 156) (pg_rt 156)) := by rfl
set_option maxRecDepth 1000000 in
theorem pg_w157 : pg_tb 1959 = some (.code (pg_mn 157) (pg_by 157) (pg_ml 157) (pg_rt 157)) := by rfl
set_option maxRecDepth 1000000 in
theorem pg_w158 : pg_tb 1963 = some (.code (pg_mn 158) (pg_by 158) (pg_ml 158) (pg_rt 158)) := by rfl
set_option maxRecDepth 1000000 in
theorem pg_w159 : pg_tb 286 = some (.code (pg_mn 159) (pg_by 159) (pg_ml 159) (pg_rt 159)) := by rfl
set_option maxRecDepth 1000000 in
theorem pg_w160 : pg_tb 509 = some (.code (pg_mn 160) (pg_by 160) (pg_ml 160) (pg_rt 160)) := by rfl
set_option maxRecDepth 1000000 in
theorem pg_w161 : pg_tb 1019 = some (.code (pg_mn 161) (pg_by 161) (pg_ml 161) (pg_rt 161)) := by rfl
set_option maxRecDepth 1000000 in
theorem pg_w162 : pg_tb 1026 = some (.code (pg_mn 162) (pg_by 162) (pg_ml 162) (pg_rt 162)) := by rfl
set_option maxRecDepth 1000000 in
theorem pg_w163 : pg_tb 1031 = some (.code (pg_mn 163) (pg_by 163) (pg_ml 163) (pg_rt 163)) := by rfl
set_option maxRecDepth 1000000 in
theorem pg_w164 : pg_tb 1035 = some (.code (pg_mn 164) (pg_by 164) (pg_ml 164) (pg_rt 164)) := by rfl
set_option maxRecDepth 1000000 in
theorem pg_w165 : pg_tb 1413 = some (.code (pg_mn 165) (pg_by 165) (pg_ml 165) (pg_rt 165)) := by rfl
set_option maxRecDepth 1000000 in
theorem pg_w166 : pg_tb 43 = some (.code (pg_mn 166) (pg_by 166) (pg_ml 166) (pg_rt 166)) := by rfl
set_option maxRecDepth 1000000 in
theorem pg_w167 : pg_tb 890 = some (.code (pg_mn 167) (pg_by 167) (pg_ml 167) (pg_rt 167)) := by rfl
set_option maxRecDepth 1000000 in
theorem pg_w168 : pg_tb 1440 = some (.code (pg_mn 168) (pg_by 168) (pg_ml 168) (pg_rt 168)) := by rfl
set_option maxRecDepth 1000000 in
theorem pg_w169 : pg_tb 1446 = some (.code (pg_mn 169) (pg_by 169) (pg_ml 169) (pg_rt 169)) := by rfl
set_option maxRecDepth 1000000 in
theorem pg_w170 : pg_tb 1450 = some (.code (pg_mn 170) (pg_by 170) (pg_ml 170) (pg_rt 170)) := by rfl
set_option maxRecDepth 1000000 in
theorem pg_w171 : pg_tb 1455 = some (.code (pg_mn 171) (pg_by 171) (pg_ml 171) (pg_rt 171)) := by rfl
set_option maxRecDepth 1000000 in
theorem pg_w172 : pg_tb 1484 = some (.code (pg_mn 172) (pg_by 172) (pg_ml 172) (pg_rt 172)) := by rfl
set_option maxRecDepth 1000000 in
theorem pg_w173 : pg_tb 1502 = some (.code (pg_mn 173) (pg_by 173) (pg_ml 173) (pg_rt 173)) := by rfl
set_option maxRecDepth 1000000 in
theorem pg_w174 : pg_tb 1562 = some (.code (pg_mn 174) (pg_by 174) (pg_ml 174) (pg_rt 174)) := by rfl
set_option maxRecDepth 1000000 in
theorem pg_w175 : pg_tb 1705 = some (.code (pg_mn 175) (pg_by 175) (pg_ml 175) (pg_rt 175)) := by rfl
set_option maxRecDepth 1000000 in
theorem pg_w176 : pg_tb 1711 = some (.code (pg_mn 176) (pg_by 176) (pg_ml 176) (pg_rt 176)) := by rfl
set_option maxRecDepth 1000000 in
theorem pg_w177 : pg_tb 1741 = some (.code (pg_mn 177) (pg_by 177) (pg_ml 177) (pg_rt 177)) := by rfl
set_option maxRecDepth 1000000 in
theorem pg_w178 : pg_tb 1751 = some (.code (pg_mn 178) (pg_by 178) (pg_ml 178) (pg_rt 178)) := by rfl
set_option maxRecDepth 1000000 in
theorem pg_w179 : pg_tb 1771 = some (.code (pg_mn 179) (pg_by 179) (pg_ml 179) (pg_rt 179)) := by rfl
set_option maxRecDepth 1000000 in
theorem pg_w180 : pg_tb 1778 = some (.code (pg_mn 180) (pg_by 180) (pg_ml 180) (pg_rt 180)) := by rfl
set_option maxRecDepth 1000000 in
theorem pg_w181 : pg_tb 2068 = some (.code (pg_mn 181) (pg_by 181) (pg_ml 181) (pg_rt 181)) := by rfl
set_option maxRecDepth 1000000 in
theorem pg_w182 : pg_tb 655 = some (.code (pg_mn 182) (pg_by 182) (pg_ml 182) (pg_rt 182)) := by rfl
set_option maxRecDepth 1000000 in
theorem pg_w183 : pg_tb 1575 = some (.code (pg_mn 183) (pg_by 183) (pg_ml 183) (pg_rt 183)) := by rfl
set_option maxRecDepth 1000000 in
theorem pg_w184 : pg_tb 1579 = some (.code (pg_mn 184) (pg_by 184) (pg_ml 184) (pg_rt 184)) := by rfl
set_option maxRecDepth 1000000 in
theorem pg_w185 : pg_tb 1586 = some (.code (pg_mn 185) (pg_by 185) (pg_ml 185) (pg_rt 185)) := by rfl
set_option maxRecDepth 1000000 in
theorem pg_w186 : pg_tb 1593 = some (.code (pg_mn 186) (pg_by 186) (pg_ml 186) (pg_rt 186)) := by rfl
set_option maxRecDepth 1000000 in
theorem pg_w187 : pg_tb 1601 = some (.code (pg_mn 187) (pg_by 187) (pg_ml 187) (pg_rt 187)) := by rfl
set_option maxRecDepth 1000000 in
theorem pg_w188 : pg_tb 1609 = some (.code (pg_mn 188) (pg_by 188) (pg_ml 188) (pg_rt 188)) := by rfl
set_option maxRecDepth 1000000 in
theorem pg_w189 : pg_tb 1615 = some (.code (pg_mn 189) (pg_by 189) (pg_ml 189) (pg_rt 189)) := by rfl
set_option maxRecDepth 1000000 in
theorem pg_w190 : pg_tb 1621 = some (.code (pg_mn 190) (pg_by 190) (pg_ml 190) (pg_rt 190)) := by rfl
set_option maxRecDepth 1000000 in
theorem pg_w191 : pg_tb 1626 = some (.code (pg_mn 191) (pg_by 191) (pg_ml 191) (pg_rt 191)) := by rfl
set_option maxRecDepth 1000000 in
theorem pg_w192 : pg_tb 1634 = some (.code (pg_mn 192) (pg_by 192) (pg_ml 192) (pg_rt 192)) := by rfl
set_option maxRecDepth 1000000 in
theorem pg_w193 : pg_tb 1638 = some (.code (pg_mn 193) (pg_by 193) (pg_ml 193) (pg_rt 193)) := by rfl
set_option maxRecDepth 1000000 in
theorem pg_w194 : pg_tb 1643 = some (.code (pg_mn 194) (pg_by 194) (pg_ml 194) (pg_rt 194)) := by rfl
set_option maxRecDepth 1000000 in
theorem pg_w195 : pg_tb 1649 = some (.code (pg_mn 195) (pg_by 195) (pg_ml 195) (pg_rt 195)) := by rfl
set_option maxRecDepth 1000000 in
theorem pg_w196 : pg_tb 1653 = some (.code (pg_mn 196) (pg_by 196) (pg_ml 196) (pg_rt 196)) := by rfl
set_option maxRecDepth 1000000 in
theorem pg_w197 : pg_tb 1663 = some (.code (pg_mn 197) (pg_by 197) (pg_ml 197) (pg_rt 197)) := by rfl
set_option maxRecDepth 1000000 in
theorem pg_w198 : pg_tb 1684 = some (.code (pg_mn 198) (pg_by 198) (pg_ml 198) (pg_rt 198)) := by rfl
set_option maxRecDepth 1000000 in
theorem pg_w199 : pg_tb 1687 = some (.code (pg_mn 199) (pg_by 199) (pg_ml 199) (pg_rt 199)) := by rfl
set_option maxRecDepth 1000000 in
theorem pg_w200 : pg_tb 1697 = some (.code (pg_mn 200) (pg_by 200) (pg_ml 200) (pg_rt 200)) := by rfl
set_option maxRecDepth 1000000 in
theorem pg_w201 : pg_tb 1701 = some (.code (pg_mn 201) (pg_by 201) (pg_ml 201) (pg_rt 201)) := by rfl
set_option maxRecDepth 1000000 in
theorem pg_w202 : pg_tb 1716 = some (.code (pg_mn 202) (pg_by 202) (pg_ml 202) (pg_rt 202)) := by rfl
set_option maxRecDepth 1000000 in
theorem pg_w203 : pg_tb 2013 = some (.code (pg_mn 203) (pg_by 203) (pg_ml 203) (pg_rt 203)) := by rfl
set_option maxRecDepth 1000000 in
theorem pg_w204 : pg_tb 2018 = some (.code (pg_mn 204) (pg_by 204) (pg_ml 204) (pg_rt 204)) := by rfl
set_option maxRecDepth 1000000 in
theorem pg_w205 : pg_tb 2023 = some (.code (pg_mn 205) (pg_by 205) (pg_ml 205) (pg_rt 205)) := by rfl
set_option maxRecDepth 1000000 in
theorem pg_w206 : pg_tb 2063 = some (.code (pg_mn 206) (pg_by 206) (pg_ml 206) (pg_rt 206)) := by rfl
set_option maxRecDepth 1000000 in
theorem pg_w207 : pg_tb 2072 = some (.code (pg_mn 207) (pg_by 207) (pg_ml 207) (pg_rt 207)) := by rfl
set_option maxRecDepth 1000000 in
theorem pg_w208 : pg_tb 2097 = some (.code (pg_mn 208) (pg_by 208) (pg_ml 208) (pg_rt 208)) := by rfl
set_option maxRecDepth 1000000 in
theorem pg_w209 : pg_tb 2169 = some (.code (pg_mn 209) (pg_by 209) (pg_ml 209) (pg_rt 209)) := by rfl
set_option maxRecDepth 1000000 in
theorem pg_w210 : pg_tb 2568 = some (.code (pg_mn 210) (pg_by 210) (pg_ml 210) (pg_rt 210)) := by rfl
set_option maxRecDepth 1000000 in
theorem pg_w211 : pg_tb 2572 = some (.code (pg_mn 211) (pg_by 211) (pg_ml 211) (pg_rt 211)) := by rfl
set_option maxRecDepth 1000000 in
theorem pg_w212 : pg_tb 2576 = some (.code (pg_mn 212) (pg_by 212) (pg_ml 212) (pg_rt 212)) := by rfl
set_option maxRecDepth 1000000 in
theorem pg_w213 : pg_tb 2580 = some (.code (pg_mn 213) (pg_by 213) (pg_ml 213) (pg_rt 213)) := by rfl
set_option maxRecDepth 1000000 in
theorem pg_w214 : pg_tb 2584 = some (.code (pg_mn 214) (pg_by 214) (pg_ml 214) (pg_rt 214)) := by rfl
set_option maxRecDepth 1000000 in
theorem pg_w215 : pg_tb 2588 = some (.code (pg_mn 215) (pg_by 215) (pg_ml 215) (pg_rt 215)) := by rfl
set_option maxRecDepth 1000000 in
theorem pg_w216 : pg_tb 2593 = some (.code (pg_mn 216) (pg_by 216) (pg_ml 216) (pg_rt 216)) := by rfl
set_option maxRecDepth 1000000 in
theorem pg_w217 : pg_tb 2597 = some (.code (pg_mn 217) (pg_by 217) (pg_ml 217) (pg_rt 217)) := by rfl
set_option maxRecDepth 1000000 in
theorem pg_w218 : pg_tb 2604 = some (.code (pg_mn 218) (pg_by 218) (pg_ml 218) (pg_rt 218)) := by rfl
set_option maxRecDepth 1000000 in
theorem pg_w219 : pg_tb 2607 = some (.code (pg_mn 219) (pg_by 219) (pg_ml 219) (pg_rt 219)) := by rfl
set_option maxRecDepth 1000000 in
theorem pg_w220 : pg_tb 2611 = some (.code (pg_mn 220) (pg_by 220) (pg_ml 220) (pg_rt 220)) := by rfl
set_option maxRecDepth 1000000 in
theorem pg_w221 : pg_tb 2615 = some (.code (pg_mn 221) (pg_by 221) (pg_ml 221) (pg_rt 221)) := by rfl
set_option maxRecDepth 1000000 in
theorem pg_w222 : pg_tb 2619 = some (.code (pg_mn 222) (pg_by 222) (pg_ml 222) (pg_rt 222)) := by rfl
set_option maxRecDepth 1000000 in
theorem pg_w223 : pg_tb 2624 = some (.code (pg_mn 223) (pg_by 223) (pg_ml 223) (pg_rt 223)) := by rfl
set_option maxRecDepth 1000000 in
theorem pg_w224 : pg_tb 2628 = some (.code (pg_mn 224) (pg_by 224) (pg_ml 224) (pg_rt 224)) := by rfl
set_option maxRecDepth 1000000 in
theorem pg_w225 : pg_tb 2632 = some (.code (pg_mn 225) (pg_by 225) (pg_ml 225) (pg_rt 225)) := by rfl
set_option maxRecDepth 1000000 in
theorem pg_w226 : pg_tb 2636 = some (.code (pg_mn 226) (pg_by 226) (pg_ml 226) (pg_rt 226)) := by rfl
set_option maxRecDepth 1000000 in
theorem pg_w227 : pg_tb 2642 = some (.code (pg_mn 227) (pg_by 227) (pg_ml 227) (pg_rt 227)) := by rfl
set_option maxRecDepth 1000000 in
theorem pg_w228 : pg_tb 2645 = some (.code (pg_mn 228) (pg_by 228) (pg_ml 228) (pg_rt 228)) := by rfl
set_option maxRecDepth 1000000 in
theorem pg_w229 : pg_tb 2650 = some (.code (pg_mn 229) (pg_by 229) (pg_ml 229) (pg_rt 229)) := by rfl
set_option maxRecDepth 1000000 in
theorem pg_w230 : pg_tb 2654 = some (.code (pg_mn 230) (pg_by 230) (pg_ml 230) (pg_rt 230)) := by rfl
set_option maxRecDepth 1000000 in
theorem pg_w231 : pg_tb 2660 = some (.code (pg_mn 231) (pg_by 231) (pg_ml 231) (pg_rt 231)) := by rfl
set_option maxRecDepth 1000000 in
theorem pg_w232 : pg_tb 2665 = some (.code (pg_mn 232) (pg_by 232) (pg_ml 232) (pg_rt 232)) := by rfl
set_option maxRecDepth 1000000 in
theorem pg_w233 : pg_tb 2669 = some (.code (pg_mn 233) (pg_by 233) (pg_ml 233) (pg_rt 233)) := by rfl
set_option maxRecDepth 1000000 in
theorem pg_w234 : pg_tb 2673 = some (.code (pg_mn 234) (pg_by 234) (pg_ml 234) (pg_rt 234)) := by rfl
set_option maxRecDepth 1000000 in
theorem pg_w235 : pg_tb 2677 = some (.code (pg_mn 235) (pg_by 235) (pg_ml 235) (pg_rt 235)) := by rfl
set_option maxRecDepth 1000000 in
theorem pg_w236 : pg_tb 2681 = some (.code (pg_mn 236) (pg_by 236) (pg_ml 236) (pg_rt 236)) := by rfl
set_option maxRecDepth 1000000 in
theorem pg_w237 : pg_tb 2687 = some (.code (pg_mn 237) (pg_by 237) (pg_ml 237) (pg_rt 237)) := by rfl
set_option maxRecDepth 1000000 in
theorem pg_w238 : pg_tb 2691 = some (.code (pg_mn 238) (pg_by 238) (pg_ml 238) (pg_rt 238)) := by rfl
set_option maxRecDepth 1000000 in
theorem pg_w239 : pg_tb 2695 = some (.code (pg_mn 239) (pg_by 239) (pg_ml 239) (pg_rt 239)) := by rfl
set_option maxRecDepth 1000000 in
theorem pg_w240 : pg_tb 2699 = some (.code (pg_mn 240) (pg_by 240) (pg_ml 240) (pg_rt 240)) := by rfl
set_option maxRecDepth 1000000 in
theorem pg_w241 : pg_tb 2703 = some (.code (pg_mn 241) (pg_by 241) (pg_ml 241) (pg_rt 241)) := by rfl
set_option maxRecDepth 1000000 in
theorem pg_w242 : pg_tb 2708 = some (.code (pg_mn 242) (pg_by 242) (pg_ml 242) (pg_rt 242)) := by rfl
set_option maxRecDepth 1000000 in
theorem pg_w243 : pg_tb 2712 = some (.code (pg_mn 243) (pg_by 243) (pg_ml 243) (pg_rt 243)) := by rfl
set_option maxRecDepth 1000000 in
theorem pg_w244 : pg_tb 2716 = some (.code (pg_mn 244) (pg_by 244) (pg_ml 244) (pg_rt 244)) := by rfl
set_option maxRecDepth 1000000 in
theorem pg_w245 : pg_tb 2720 = some (.code (pg_mn 245) (pg_by 245) (pg_ml 245) (pg_rt 245)) := by rfl
set_option maxRecDepth 1000000 in
theorem pg_w246 : pg_tb 2723 = some (.code (pg_mn 246) (pg_by 246) (pg_ml 246) (pg_rt 246)) := by rfl
set_option maxRecDepth 1000000 in
theorem pg_w247 : pg_tb 2730 = some (.code (pg_mn 247) (pg_by 247) (pg_ml 247) (pg_rt 247)) := by rfl
set_option maxRecDepth 1000000 in
theorem pg_w248 : pg_tb 2738 = some (.code (pg_mn 248) (pg_by 248) (pg_ml 248) (pg_rt 248)) := by rfl
set_option maxRecDepth 1000000 in
theorem pg_w249 : pg_tb 2742 = some (.code (pg_mn 249) (pg_by 249) (pg_ml 249) (pg_rt 249)) := by rfl
set_option maxRecDepth 1000000 in
theorem pg_w250 : pg_tb 2747 = some (.code (pg_mn 250) (pg_by 250) (pg_ml 250) (pg_rt 250)) := by rfl
set_option maxRecDepth 1000000 in
theorem pg_w251 : pg_tb 2751 = some (.code (pg_mn 251) (pg_by 251) (pg_ml 251) (pg_rt 251)) := by rfl
set_option maxRecDepth 1000000 in
theorem pg_w252 : pg_tb 2755 = some (.code (pg_mn 252) (pg_by 252) (pg_ml 252) (pg_rt 252)) := by rfl
set_option maxRecDepth 1000000 in
theorem pg_w253 : pg_tb 2760 = some (.code (pg_mn 253) (pg_by 253) (pg_ml 253) (pg_rt 253)) := by rfl
set_option maxRecDepth 1000000 in
theorem pg_w254 : pg_tb 2764 = some (.code (pg_mn 254) (pg_by 254) (pg_ml 254) (pg_rt 254)) := by rfl
set_option maxRecDepth 1000000 in
theorem pg_w255 : pg_tb 2768 = some (.code (pg_mn 255) (pg_by 255) (pg_ml 255) (pg_rt 255)) := by rfl
set_option maxRecDepth 1000000 in
theorem pg_w256 : pg_tb 2772 = some (.code (pg_mn 256) (pg_by 256) (pg_ml 256) (pg_rt 256)) := by rfl
set_option maxRecDepth 1000000 in
theorem pg_w257 : pg_tb 2776 = some (.code (pg_mn 257) (pg_by 257) (pg_ml 257) (pg_rt 257)) := by rfl
set_option maxRecDepth 1000000 in
theorem pg_w258 : pg_tb 2780 = some (.code (pg_mn 258) (pg_by 258) (pg_ml 258) (pg_rt 258)) := by rfl
set_option maxRecDepth 1000000 in
theorem pg_w259 : pg_tb 2784 = some (.code (pg_mn 259) (pg_by 259) (pg_ml 259) (pg_rt 259)) := by rfl
set_option maxRecDepth 1000000 in
theorem pg_w260 : pg_tb 2788 = some (.code (pg_mn 260) (pg_by 260) (pg_ml 260) (pg_rt 260)) := by rfl
set_option maxRecDepth 1000000 in
theorem pg_w261 : pg_tb 2792 = some (.code (pg_mn 261) (pg_by 261) (pg_ml 261) (pg_rt 261)) := by rfl
set_option maxRecDepth 1000000 in
theorem pg_w262 : pg_tb 2796 = some (.code (pg_mn 262) (pg_by 262) (pg_ml 262) (pg_rt 262)) := by rfl
set_option maxRecDepth 1000000 in
theorem pg_w263 : pg_tb 2800 = some (.code (pg_mn 263) (pg_by 263) (pg_ml 263) (pg_rt 263)) := by rfl
set_option maxRecDepth 1000000 in
theorem pg_w264 : pg_tb 2804 = some (.code (pg_mn 264) (pg_by 264) (pg_ml 264) (pg_rt 264)) := by rfl
set_option maxRecDepth 1000000 in
theorem pg_w265 : pg_tb 2808 = some (.code (pg_mn 265) (pg_by 265) (pg_ml 265) (pg_rt 265)) := by rfl
set_option maxRecDepth 1000000 in
theorem pg_w266 : pg_tb 2812 = some (.code (pg_mn 266) (pg_by 266) (pg_ml 266) (pg_rt 266)) := by rfl
set_option maxRecDepth 1000000 in
theorem pg_w267 : pg_tb 2816 = some (.code (pg_mn 267) (pg_by 267) (pg_ml 267) (pg_rt 267)) := by rfl
set_option maxRecDepth 1000000 in
theorem pg_w268 : pg_tb 2820 = some (.code (pg_mn 268) (pg_by 268) (pg_ml 268) (pg_rt 268)) := by rfl
set_option maxRecDepth 1000000 in
theorem pg_w269 : pg_tb 2824 = some (.code (pg_mn 269) (pg_by 269) (pg_ml 269) (pg_rt 269)) := by rfl
set_option maxRecDepth 1000000 in
theorem pg_w270 : pg_tb 2828 = some (.code (pg_mn 270) (pg_by 270) (pg_ml 270) (pg_rt 270)) := by rfl
set_option maxRecDepth 1000000 in
theorem pg_w271 : pg_tb 2832 = some (.code (pg_mn 271) (pg_by 271) (pg_ml 271) (pg_rt 271)) := by rfl
set_option maxRecDepth 1000000 in
theorem pg_w272 : pg_tb 2836 = some (.code (pg_mn 272) (pg_by 272) (pg_ml 272) (pg_rt 272)) := by rfl
set_option maxRecDepth 1000000 in
theorem pg_w273 : pg_tb 2840 = some (.code (pg_mn 273) (pg_by 273) (pg_ml 273) (pg_rt 273)) := by rfl
set_option maxRecDepth 1000000 in
theorem pg_w274 : pg_tb 2844 = some (.code (pg_mn 274) (pg_by 274) (pg_ml 274) (pg_rt 274)) := by rfl
set_option maxRecDepth 1000000 in
theorem pg_w275 : pg_tb 2848 = some (.code (pg_mn 275) (pg_by 275) (pg_ml 275) (pg_rt 275)) := by rfl
set_option maxRecDepth 1000000 in
theorem pg_w276 : pg_tb 2852 = some (.code (pg_mn 276) (pg_by 276) (pg_ml 276) (pg_rt 276)) := by rfl
set_option maxRecDepth 1000000 in
theorem pg_w277 : pg_tb 2856 = some (.code (pg_mn 277) (pg_by 277) (pg_ml 277) (pg_rt 277)) := by rfl
set_option maxRecDepth 1000000 in
theorem pg_w278 : pg_tb 2860 = some (.code (pg_mn 278) (pg_by 278) (pg_ml 278) (pg_rt 278)) := by rfl
set_option maxRecDepth 1000000 in
theorem pg_w279 : pg_tb 2864 = some (.code (pg_mn 279) (pg_by 279) (pg_ml 279) (pg_rt 279)) := by rfl
set_option maxRecDepth 1000000 in
theorem pg_w280 : pg_tb 2868 = some (.code (pg_mn 280) (pg_by 280) (pg_ml 280) (pg_rt 280)) := by rfl
set_option maxRecDepth 1000000 in
theorem pg_w281 : pg_tb 2872 = some (.code (pg_mn 281) (pg_by 281) (pg_ml 281) (pg_rt 281)) := by rfl
set_option maxRecDepth 1000000 in
theorem pg_w282 : pg_tb 2876 = some (.code (pg_mn 282) (pg_by 282) (pg_ml 282) (pg_rt 282)) := by rfl
set_option maxRecDepth 1000000 in
theorem pg_w283 : pg_tb 2880 = some (.code (pg_mn 283) (pg_by 283) (pg_ml 283) (pg_rt 283)) := by rfl
set_option maxRecDepth 1000000 in
theorem pg_w284 : pg_tb 2884 = some (.code (pg_mn 284) (pg_by 284) (pg_ml 284) (pg_rt 284)) := by rfl
set_option maxRecDepth 1000000 in
theorem pg_w285 : pg_tb 2888 = some (.code (pg_mn 285) (pg_by 285) (pg_ml 285) (pg_rt 285)) := by rfl
set_option maxRecDepth 1000000 in
theorem pg_w286 : pg_tb 2892 = some (.code (pg_mn 286) (pg_by 286) (pg_ml 286) (pg_rt 286)) := by rfl
set_option maxRecDepth 1000000 in
theorem pg_w287 : pg_tb 2896 = some (.code (pg_mn 287) (pg_by 287) (pg_ml 287) (pg_rt 287)) := by rfl
set_option maxRecDepth 1000000 in
theorem pg_w288 : pg_tb 2900 = some (.code (pg_mn 288) (pg_by 288) (pg_ml 288) (pg_rt 288)) := by rfl
set_option maxRecDepth 1000000 in
theorem pg_w289 : pg_tb 2905 = some (.code (pg_mn 289) (pg_by 289) (pg_ml 289) (pg_rt 289)) := by rfl
set_option maxRecDepth 1000000 in
theorem pg_w290 : pg_tb 2909 = some (.code (pg_mn 290) (pg_by 290) (pg_ml 290) (pg_rt 290)) := by rfl
set_option maxRecDepth 1000000 in
theorem pg_w291 : pg_tb 2913 = some (.code (pg_mn 291) (pg_by 291) (pg_ml 291) (pg_rt 291)) := by rfl
set_option maxRecDepth 1000000 in
theorem pg_w292 : pg_tb 2917 = some (.code (pg_mn 292) (pg_by 292) (pg_ml 292) (pg_rt 292)) := by rfl
set_option maxRecDepth 1000000 in
theorem pg_w293 : pg_tb 2921 = some (.code (pg_mn 293) (pg_by 293) (pg_ml 293) (pg_rt 293)) := by rfl
set_option maxRecDepth 1000000 in
theorem pg_w294 : pg_tb 2925 = some (.code (pg_mn 294) (pg_by 294) (pg_ml 294) (pg_rt 294)) := by rfl
set_option maxRecDepth 1000000 in
theorem pg_w295 : pg_tb 2929 = some (.code (pg_mn 295) (pg_by 295) (pg_ml 295) (pg_rt 295)) := by rfl
set_option maxRecDepth 1000000 in
theorem pg_w296 : pg_tb 2933 = some (.code (pg_mn 296) (pg_by 296) (pg_ml 296) (pg_rt 296)) := by rfl
set_option maxRecDepth 1000000 in
theorem pg_w297 : pg_tb 2938 = some (.code (pg_mn 297) (pg_by 297) (pg_ml 297) (pg_rt 297)) := by rfl
set_option maxRecDepth 1000000 in
theorem pg_w298 : pg_tb 2942 = some (.code (pg_mn 298) (pg_by 298) (pg_ml 298) (pg_rt 298)) := by rfl
set_option maxRecDepth 1000000 in
theorem pg_w299 : pg_tb 2946 = some (.code (pg_mn 299) (pg_by 299) (pg_ml 299) (pg_rt 299)) := by rfl
set_option maxRecDepth 1000000 in
theorem pg_w300 : pg_tb 2950 = some (.code (pg_mn 300) (pg_by 300) (pg_ml 300) (pg_rt 300)) := by rfl
set_option maxRecDepth 1000000 in
theorem pg_w301 : pg_tb 2954 = some (.code (pg_mn 301) (pg_by 301) (pg_ml 301) (pg_rt 301)) := by rfl
set_option maxRecDepth 1000000 in
theorem pg_w302 : pg_tb 2957 = some (.code (pg_mn 302) (pg_by 302) (pg_ml 302) (pg_rt 302)) := by rfl
set_option maxRecDepth 1000000 in
theorem pg_w303 : pg_tb 2961 = some (.code (pg_mn 303) (pg_by 303) (pg_ml 303) (pg_rt 303)) := by rfl
set_option maxRecDepth 1000000 in
theorem pg_w304 : pg_tb 2965 = some (.code (pg_mn 304) (pg_by 304) (pg_ml 304) (pg_rt 304)) := by rfl
set_option maxRecDepth 1000000 in
theorem pg_w305 : pg_tb 2971 = some (.code (pg_mn 305) (pg_by 305) (pg_ml 305) (pg_rt 305)) := by rfl
set_option maxRecDepth 1000000 in
theorem pg_w306 : pg_tb 2975 = some (.code (pg_mn 306) (pg_by 306) (pg_ml 306) (pg_rt 306)) := by rfl
set_option maxRecDepth 1000000 in
theorem pg_w307 : pg_tb 2979 = some (.code (pg_mn 307) (pg_by 307) (pg_ml 307) (pg_rt 307)) := by rfl
set_option maxRecDepth 1000000 in
theorem pg_w308 : pg_tb 2983 = some (.code (pg_mn 308) (pg_by 308) (pg_ml 308) (pg_rt 308)) := by rfl
set_option maxRecDepth 1000000 in
theorem pg_w309 : pg_tb 2987 = some (.code (pg_mn 309) (pg_by 309) (pg_ml 309) (pg_rt 309)) := by rfl
set_option maxRecDepth 1000000 in
theorem pg_w310 : pg_tb 2992 = some (.code (pg_mn 310) (pg_by 310) (pg_ml 310) (pg_rt 310)) := by rfl
set_option maxRecDepth 1000000 in
theorem pg_w311 : pg_tb 2997 = some (.code (pg_mn 311) (pg_by 311) (pg_ml 311) (pg_rt 311)) := by rfl
set_option maxRecDepth 1000000 in
theorem pg_w312 : pg_tb 3001 = some (.code (pg_mn 312) (pg_by 312) (pg_ml 312) (pg_rt 312)) := by rfl
set_option maxRecDepth 1000000 in
theorem pg_w313 : pg_tb 3005 = some (.code (pg_mn 313) (pg_by 313) (pg_ml 313) (pg_rt 313)) := by rfl
set_option maxRecDepth 1000000 in
theorem pg_w314 : pg_tb 3009 = some (.code (pg_mn 314) (pg_by 314) (pg_ml 314) (pg_rt 314)) := by rfl
set_option maxRecDepth 1000000 in
theorem pg_w315 : pg_tb 3013 = some (.code (pg_mn 315) (pg_by 315) (pg_ml 315) (pg_rt 315)) := by rfl
set_option maxRecDepth 1000000 in
theorem pg_w316 : pg_tb 3017 = some (.code (pg_mn 316) (pg_by 316) (pg_ml 316) (pg_rt 316)) := by rfl
set_option maxRecDepth 1000000 in
theorem pg_w317 : pg_tb 3021 = some (.code (pg_mn 317) (pg_by 317) (pg_ml 317) (pg_rt 317)) := by rfl
set_option maxRecDepth 1000000 in
theorem pg_w318 : pg_tb 3025 = some (.code (pg_mn 318) (pg_by 318) (pg_ml 318) (pg_rt 318)) := by rfl
set_option maxRecDepth 1000000 in
theorem pg_w319 : pg_tb 3029 = some (.code (pg_mn 319) (pg_by 319) (pg_ml 319) (pg_rt 319)) := by rfl
set_option maxRecDepth 1000000 in
theorem pg_w320 : pg_tb 3033 = some (.code (pg_mn 320) (pg_by 320) (pg_ml 320) (pg_rt 320)) := by rfl
set_option maxRecDepth 1000000 in
theorem pg_w321 : pg_tb 3037 = some (.code (pg_mn 321) (pg_by 321) (pg_ml 321) (pg_rt 321)) := by rfl
set_option maxRecDepth 1000000 in
theorem pg_w322 : pg_tb 3042 = some (.code (pg_mn 322) (pg_by 322) (pg_ml 322) (pg_rt 322)) := by rfl
set_option maxRecDepth 1000000 in
theorem pg_w323 : pg_tb 3048 = some (.code (pg_mn 323) (pg_by 323) (pg_ml 323) (pg_rt 323)) := by rfl
set_option maxRecDepth 1000000 in
theorem pg_w324 : pg_tb 3055 = some (.code (pg_mn 324) (pg_by 324) (pg_ml 324) (pg_rt 324)) := by rfl
set_option maxRecDepth 1000000 in
theorem pg_w325 : pg_tb 3059 = some (.code (pg_mn 325) (pg_by 325) (pg_ml 325) (pg_rt 325)) := by rfl
set_option maxRecDepth 1000000 in
theorem pg_w326 : pg_tb 3063 = some (.code (pg_mn 326) (pg_by 326) (pg_ml 326) (pg_rt 326)) := by rfl
set_option maxRecDepth 1000000 in
theorem pg_w327 : pg_tb 3067 = some (.code (pg_mn 327) (pg_by 327) (pg_ml 327) (pg_rt 327)) := by rfl
set_option maxRecDepth 1000000 in
theorem pg_w328 : pg_tb 3072 = some (.code (pg_mn 328) (pg_by 328) (pg_ml 328) (pg_rt 328)) := by rfl
set_option maxRecDepth 1000000 in
theorem pg_w329 : pg_tb 3076 = some (.code (pg_mn 329) (pg_by 329) (pg_ml 329) (pg_rt 329)) := by rfl
set_option maxRecDepth 1000000 in
theorem pg_w330 : pg_tb 3080 = some (.code (pg_mn 330) (pg_by 330) (pg_ml 330) (pg_rt 330)) := by rfl
set_option maxRecDepth 1000000 in
theorem pg_w331 : pg_tb 3084 = some (.code (pg_mn 331) (pg_by 331) (pg_ml 331) (pg_rt 331)) := by rfl
set_option maxRecDepth 1000000 in
theorem pg_w332 : pg_tb 3089 = some (.code (pg_mn 332) (pg_by 332) (pg_ml 332) (pg_rt 332)) := by rfl
set_option maxRecDepth 1000000 in
theorem pg_w333 : pg_tb 3093 = some (.code (pg_mn 333) (pg_by 333) (pg_ml 333) (pg_rt 333)) := by rfl
set_option maxRecDepth 1000000 in
theorem pg_w334 : pg_tb 3097 = some (.code (pg_mn 334) (pg_by 334) (pg_ml 334) (pg_rt 334)) := by rfl
set_option maxRecDepth 1000000 in
theorem pg_w335 : pg_tb 3101 = some (.code (pg_mn 335) (pg_by 335) (pg_ml 335) (pg_rt 335)) := by rfl
set_option maxRecDepth 1000000 in
theorem pg_w336 : pg_tb 3105 = some (.code (pg_mn 336) (pg_by 336) (pg_ml 336) (pg_rt 336)) := by rfl
set_option maxRecDepth 1000000 in
theorem pg_w337 : pg_tb 3109 = some (.code (pg_mn 337) (pg_by 337) (pg_ml 337) (pg_rt 337)) := by rfl
set_option maxRecDepth 1000000 in
theorem pg_w338 : pg_tb 3113 = some (.code (pg_mn 338) (pg_by 338) (pg_ml 338) (pg_rt 338)) := by rfl
set_option maxRecDepth 1000000 in
theorem pg_w339 : pg_tb 3117 = some (.code (pg_mn 339) (pg_by 339) (pg_ml 339) (pg_rt 339)) := by rfl
set_option maxRecDepth 1000000 in
theorem pg_w340 : pg_tb 3121 = some (.code (pg_mn 340) (pg_by 340) (pg_ml 340) (pg_rt 340)) := by rfl
set_option maxRecDepth 1000000 in
theorem pg_w341 : pg_tb 3125 = some (.code (pg_mn 341) (pg_by 341) (pg_ml 341) (pg_rt 341)) := by rfl
set_option maxRecDepth 1000000 in
theorem pg_w342 : pg_tb 3129 = some (.code (pg_mn 342) (pg_by 342) (pg_ml 342) (pg_rt 342)) := by rfl
set_option maxRecDepth 1000000 in
theorem pg_w343 : pg_tb 3133 = some (.code (pg_mn 343) (pg_by 343) (pg_ml 343) (pg_rt 343)) := by rfl
set_option maxRecDepth 1000000 in
theorem pg_w344 : pg_tb 3137 = some (.code (pg_mn 344) (pg_by 344) (pg_ml 344) (pg_rt 344)) := by rfl
set_option maxRecDepth 1000000 in
theorem pg_w345 : pg_tb 3141 = some (.code (pg_mn 345) (pg_by 345) (pg_ml 345) (pg_rt 345)) := by rfl
set_option maxRecDepth 1000000 in
theorem pg_w346 : pg_tb 3145 = some (.code (pg_mn 346) (pg_by 346) (pg_ml 346) (pg_rt 346)) := by rfl
set_option maxRecDepth 1000000 in
theorem pg_w347 : pg_tb 3149 = some (.code (pg_mn 347) (pg_by 347) (pg_ml 347) (pg_rt 347)) := by rfl
set_option maxRecDepth 1000000 in
theorem pg_w348 : pg_tb 3153 = some (.code (pg_mn 348) (pg_by 348) (pg_ml 348) (pg_rt 348)) := by rfl
set_option maxRecDepth 1000000 in
theorem pg_w349 : pg_tb 3157 = some (.code (pg_mn 349) (pg_by 349) (pg_ml 349) (pg_rt 349)) := by rfl
set_option maxRecDepth 1000000 in
theorem pg_w350 : pg_tb 3161 = some (.code (pg_mn 350) (pg_by 350) (pg_ml 350) (pg_rt 350)) := by rfl
set_option maxRecDepth 1000000 in
theorem pg_w351 : pg_tb 3165 = some (.code (pg_mn 351) (pg_by 351) (pg_ml 351) (pg_rt 351)) := by rfl
set_option maxRecDepth 1000000 in
theorem pg_w352 : pg_tb 3169 = some (.code (pg_mn 352) (pg_by 352) (pg_ml 352) (pg_rt 352)) := by rfl
set_option maxRecDepth 1000000 in
theorem pg_w353 : pg_tb 3173 = some (.code (pg_mn 353) (pg_by 353) (pg_ml 353) (pg_rt 353)) := by rfl
set_option maxRecDepth 1000000 in
theorem pg_w354 : pg_tb 3177 = some (.code (pg_mn 354) (pg_by 354) (pg_ml 354) (pg_rt 354)) := by rfl
set_option maxRecDepth 1000000 in
theorem pg_w355 : pg_tb 3181 = some (.code (pg_mn 355) (pg_by 355) (pg_ml 355) (pg_rt 355)) := by rfl
set_option maxRecDepth 1000000 in
theorem pg_w356 : pg_tb 3185 = some (.code (pg_mn 356) (pg_by 356) (pg_ml 356) (pg_rt 356)) := by rfl
set_option maxRecDepth 1000000 in
theorem pg_w357 : pg_tb 3190 = some (.code (pg_mn 357) (pg_by 357) (pg_ml 357) (pg_rt 357)) := by rfl
set_option maxRecDepth 1000000 in
theorem pg_w358 : pg_tb 3194 = some (.code (pg_mn 358) (pg_by 358) (pg_ml 358) (pg_rt 358)) := by rfl
set_option maxRecDepth 1000000 in
theorem pg_w359 : pg_tb 3197 = some (.code (pg_mn 359) (pg_by 359) (pg_ml 359) (pg_rt 359)) := by rfl
set_option maxRecDepth 1000000 in
theorem pg_w360 : pg_tb 3201 = some (.code (pg_mn 360) (pg_by 360) (pg_ml 360) (pg_rt 360)) := by rfl
set_option maxRecDepth 1000000 in
theorem pg_w361 : pg_tb 3205 = some (.code (pg_mn 361) (pg_by 361) (pg_ml 361) (pg_rt 361)) := by rfl
set_option maxRecDepth 1000000 in
theorem pg_w362 : pg_tb 3209 = some (.code (pg_mn 362) (pg_by 362) (pg_ml 362) (pg_rt 362)) := by rfl
set_option maxRecDepth 1000000 in
theorem pg_w363 : pg_tb 3213 = some (.code (pg_mn 363) (pg_by 363) (pg_ml 363) (pg_rt 363)) := by rfl
set_option maxRecDepth 1000000 in
theorem pg_w364 : pg_tb 3217 = some (.code (pg_mn 364) (pg_by 364) (pg_ml 364) (pg_rt 364)) := by rfl
set_option maxRecDepth 1000000 in
theorem pg_w365 : pg_tb 3221 = some (.code (pg_mn 365) (pg_by 365) (pg_ml 365) (pg_rt 365)) := by rfl
set_option maxRecDepth 1000000 in
theorem pg_w366 : pg_tb 3226 = some (.code (pg_mn 366) (pg_by 366) (pg_ml 366) (pg_rt 366)) := by rfl
set_option maxRecDepth 1000000 in
theorem pg_w367 : pg_tb 3230 = some (.code (pg_mn 367) (pg_by 367) (pg_ml 367) (pg_rt 367)) := by rfl
set_option maxRecDepth 1000000 in
theorem pg_w368 : pg_tb 3234 = some (.code (pg_mn 368) (pg_by 368) (pg_ml 368) (pg_rt 368)) := by rfl
set_option maxRecDepth 1000000 in
theorem pg_w369 : pg_tb 3238 = some (.code (pg_mn 369) (pg_by 369) (pg_ml 369) (pg_rt 369)) := by rfl
set_option maxRecDepth 1000000 in
theorem pg_w370 : pg_tb 3242 = some (.code (pg_mn 370) (pg_by 370) (pg_ml 370) (pg_rt 370)) := by rfl
set_option maxRecDepth 1000000 in
theorem pg_w371 : pg_tb 3246 = some (.code (pg_mn 371) (pg_by 371) (pg_ml 371) (pg_rt 371)) := by rfl
set_option maxRecDepth 1000000 in
theorem pg_w372 : pg_tb 3250 = some (.code (pg_mn 372) (pg_by 372) (pg_ml 372) (pg_rt 372)) := by rfl
set_option maxRecDepth 1000000 in
theorem pg_w373 : pg_tb 3254 = some (.code (pg_mn 373) (pg_by 373) (pg_ml 373) (pg_rt 373)) := by rfl
set_option maxRecDepth 1000000 in
theorem pg_w374 : pg_tb 3258 = some (.code (pg_mn 374) (pg_by 374) (pg_ml 374) (pg_rt 374)) := by rfl
set_option maxRecDepth 1000000 in
theorem pg_w375 : pg_tb 3262 = some (.code (pg_mn 375) (pg_by 375) (pg_ml 375) (pg_rt 375)) := by rfl
set_option maxRecDepth 1000000 in
theorem pg_w376 : pg_tb 3266 = some (.code (pg_mn 376) (pg_by 376) (pg_ml 376) (pg_rt 376)) := by rfl
set_option maxRecDepth 1000000 in
theorem pg_w377 : pg_tb 3270 = some (.code (pg_mn 377) (pg_by 377) (pg_ml 377) (pg_rt 377)) := by rfl
set_option maxRecDepth 1000000 in
theorem pg_w378 : pg_tb 1045 = some (.code (pg_mn 378) (pg_by 378) (pg_ml 378) (pg_rt 378)) := by rfl
set_option maxRecDepth 1000000 in
theorem pg_w379 : pg_tb 1048 = some (.code (pg_mn 379) (pg_by 379) (pg_ml 379) (pg_rt 379)) := by rfl
set_option maxRecDepth 1000000 in
theorem pg_w380 : pg_tb 1361 = some (.code (pg_mn 380) (pg_by 380) (pg_ml 380) (pg_rt 380)) := by rfl
set_option maxRecDepth 1000000 in
theorem pg_w381 : pg_tb 1461 = some (.code (pg_mn 381) (pg_by 381) (pg_ml 381) (pg_rt 381)) := by rfl
