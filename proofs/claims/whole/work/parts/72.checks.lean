theorem cm0 : ckM 0 = true := by decide +kernel
theorem ck0 : (List.range (nI_ 0)).all (ckI 0) = true := by decide +kernel
theorem cm1 : ckM 1 = true := by decide +kernel
theorem ck1 : (List.range (nI_ 1)).all (ckI 1) = true := by decide +kernel
theorem cm2 : ckM 2 = true := by decide +kernel
theorem ck2 : (List.range (nI_ 2)).all (ckI 2) = true := by decide +kernel
theorem cm3 : ckM 3 = true := by decide +kernel
theorem ck3 : (List.range (nI_ 3)).all (ckI 3) = true := by decide +kernel
theorem cm4 : ckM 4 = true := by decide +kernel
theorem ck4 : (List.range (nI_ 4)).all (ckI 4) = true := by decide +kernel
theorem cm5 : ckM 5 = true := by decide +kernel
theorem ck5 : (List.range (nI_ 5)).all (ckI 5) = true := by decide +kernel
theorem cm6 : ckM 6 = true := by decide +kernel
theorem ck6 : (List.range (nI_ 6)).all (ckI 6) = true := by decide +kernel
theorem cm7 : ckM 7 = true := by decide +kernel
theorem ck7 : (List.range (nI_ 7)).all (ckI 7) = true := by decide +kernel
theorem cm8 : ckM 8 = true := by decide +kernel
theorem ck8 : (List.range (nI_ 8)).all (ckI 8) = true := by decide +kernel
theorem cm9 : ckM 9 = true := by decide +kernel
theorem ck9 : (List.range (nI_ 9)).all (ckI 9) = true := by decide +kernel
theorem cm10 : ckM 10 = true := by decide +kernel
theorem ck10 : (List.range (nI_ 10)).all (ckI 10) = true := by decide +kernel
theorem cm11 : ckM 11 = true := by decide +kernel
theorem ck11 : (List.range (nI_ 11)).all (ckI 11) = true := by decide +kernel
theorem cm12 : ckM 12 = true := by decide +kernel
theorem ck12 : (List.range (nI_ 12)).all (ckI 12) = true := by decide +kernel
theorem cm13 : ckM 13 = true := by decide +kernel
theorem ck13 : (List.range (nI_ 13)).all (ckI 13) = true := by decide +kernel
theorem cm14 : ckM 14 = true := by decide +kernel
theorem ck14 : (List.range (nI_ 14)).all (ckI 14) = true := by decide +kernel
theorem cm15 : ckM 15 = true := by decide +kernel
theorem ck15 : (List.range (nI_ 15)).all (ckI 15) = true := by decide +kernel
theorem cm16 : ckM 16 = true := by decide +kernel
theorem ck16 : (List.range (nI_ 16)).all (ckI 16) = true := by decide +kernel
theorem cm17 : ckM 17 = true := by decide +kernel
theorem ck17 : (List.range (nI_ 17)).all (ckI 17) = true := by decide +kernel
theorem cm18 : ckM 18 = true := by decide +kernel
theorem ck18 : (List.range (nI_ 18)).all (ckI 18) = true := by decide +kernel
theorem cm19 : ckM 19 = true := by decide +kernel
theorem ck19 : (List.range (nI_ 19)).all (ckI 19) = true := by decide +kernel
theorem cm20 : ckM 20 = true := by decide +kernel
theorem ck20 : (List.range (nI_ 20)).all (ckI 20) = true := by decide +kernel
theorem cm21 : ckM 21 = true := by decide +kernel
theorem ck21 : (List.range (nI_ 21)).all (ckI 21) = true := by decide +kernel
theorem cm22 : ckM 22 = true := by decide +kernel
theorem ck22 : (List.range (nI_ 22)).all (ckI 22) = true := by decide +kernel
theorem cm23 : ckM 23 = true := by decide +kernel
theorem ck23 : (List.range (nI_ 23)).all (ckI 23) = true := by decide +kernel
theorem cm24 : ckM 24 = true := by decide +kernel
theorem ck24 : (List.range (nI_ 24)).all (ckI 24) = true := by decide +kernel
theorem cm25 : ckM 25 = true := by decide +kernel
theorem ck25 : (List.range (nI_ 25)).all (ckI 25) = true := by decide +kernel
theorem cm26 : ckM 26 = true := by decide +kernel
theorem ck26 : (List.range (nI_ 26)).all (ckI 26) = true := by decide +kernel
theorem cm27 : ckM 27 = true := by decide +kernel
theorem ck27 : (List.range (nI_ 27)).all (ckI 27) = true := by decide +kernel
theorem cm28 : ckM 28 = true := by decide +kernel
theorem ck28 : (List.range (nI_ 28)).all (ckI 28) = true := by decide +kernel
theorem cm29 : ckM 29 = true := by decide +kernel
theorem ck29 : (List.range (nI_ 29)).all (ckI 29) = true := by decide +kernel
theorem cm30 : ckM 30 = true := by decide +kernel
theorem ck30 : (List.range (nI_ 30)).all (ckI 30) = true := by decide +kernel
theorem cm31 : ckM 31 = true := by decide +kernel
theorem ck31 : (List.range (nI_ 31)).all (ckI 31) = true := by decide +kernel
theorem cm32 : ckM 32 = true := by decide +kernel
theorem ck32 : (List.range (nI_ 32)).all (ckI 32) = true := by decide +kernel
theorem cm33 : ckM 33 = true := by decide +kernel
theorem ck33 : (List.range (nI_ 33)).all (ckI 33) = true := by decide +kernel
theorem cm34 : ckM 34 = true := by decide +kernel
theorem ck34 : (List.range (nI_ 34)).all (ckI 34) = true := by decide +kernel
theorem cm35 : ckM 35 = true := by decide +kernel
theorem ck35 : (List.range (nI_ 35)).all (ckI 35) = true := by decide +kernel
theorem cm36 : ckM 36 = true := by decide +kernel
theorem ck36 : (List.range (nI_ 36)).all (ckI 36) = true := by decide +kernel
theorem cm37 : ckM 37 = true := by decide +kernel
theorem ck37 : (List.range (nI_ 37)).all (ckI 37) = true := by decide +kernel
theorem cm38 : ckM 38 = true := by decide +kernel
theorem ck38 : (List.range (nI_ 38)).all (ckI 38) = true := by decide +kernel
theorem cm39 : ckM 39 = true := by decide +kernel
theorem ck39 : (List.range (nI_ 39)).all (ckI 39) = true := by decide +kernel
theorem cm40 : ckM 40 = true := by decide +kernel
theorem ck40 : (List.range (nI_ 40)).all (ckI 40) = true := by decide +kernel
theorem cm41 : ckM 41 = true := by decide +kernel
theorem ck41 : (List.range (nI_ 41)).all (ckI 41) = true := by decide +kernel
theorem cm42 : ckM 42 = true := by decide +kernel
theorem ck42 : (List.range (nI_ 42)).all (ckI 42) = true := by decide +kernel
theorem cm43 : ckM 43 = true := by decide +kernel
theorem ck43 : (List.range (nI_ 43)).all (ckI 43) = true := by decide +kernel
theorem cm44 : ckM 44 = true := by decide +kernel
theorem ck44 : (List.range (nI_ 44)).all (ckI 44) = true := by decide +kernel
theorem cm45 : ckM 45 = true := by decide +kernel
theorem ck45 : (List.range (nI_ 45)).all (ckI 45) = true := by decide +kernel
theorem cm46 : ckM 46 = true := by decide +kernel
theorem ck46 : (List.range (nI_ 46)).all (ckI 46) = true := by decide +kernel
theorem cm47 : ckM 47 = true := by decide +kernel
theorem ck47 : (List.range (nI_ 47)).all (ckI 47) = true := by decide +kernel
theorem cm48 : ckM 48 = true := by decide +kernel
theorem ck48 : (List.range (nI_ 48)).all (ckI 48) = true := by decide +kernel
theorem cm49 : ckM 49 = true := by decide +kernel
theorem ck49 : (List.range (nI_ 49)).all (ckI 49) = true := by decide +kernel
theorem cm50 : ckM 50 = true := by decide +kernel
theorem ck50 : (List.range (nI_ 50)).all (ckI 50) = true := by decide +kernel
theorem cm51 : ckM 51 = true := by decide +kernel
theorem ck51 : (List.range (nI_ 51)).all (ckI 51) = true := by decide +kernel
theorem cm52 : ckM 52 = true := by decide +kernel
theorem ck52 : (List.range (nI_ 52)).all (ckI 52) = true := by decide +kernel
theorem cm53 : ckM 53 = true := by decide +kernel
theorem ck53 : (List.range (nI_ 53)).all (ckI 53) = true := by decide +kernel
theorem cm54 : ckM 54 = true := by decide +kernel
theorem ck54 : (List.range (nI_ 54)).all (ckI 54) = true := by decide +kernel
theorem cm55 : ckM 55 = true := by decide +kernel
theorem ck55 : (List.range (nI_ 55)).all (ckI 55) = true := by decide +kernel
theorem cm56 : ckM 56 = true := by decide +kernel
theorem ck56 : (List.range (nI_ 56)).all (ckI 56) = true := by decide +kernel
theorem cm57 : ckM 57 = true := by decide +kernel
theorem ck57 : (List.range (nI_ 57)).all (ckI 57) = true := by decide +kernel
theorem cm58 : ckM 58 = true := by decide +kernel
theorem ck58 : (List.range (nI_ 58)).all (ckI 58) = true := by decide +kernel
theorem cm59 : ckM 59 = true := by decide +kernel
theorem ck59 : (List.range (nI_ 59)).all (ckI 59) = true := by decide +kernel
theorem cm60 : ckM 60 = true := by decide +kernel
theorem ck60 : (List.range (nI_ 60)).all (ckI 60) = true := by decide +kernel
theorem cm61 : ckM 61 = true := by decide +kernel
theorem ck61 : (List.range (nI_ 61)).all (ckI 61) = true := by decide +kernel
theorem cm62 : ckM 62 = true := by decide +kernel
theorem ck62 : (List.range (nI_ 62)).all (ckI 62) = true := by decide +kernel
theorem cm63 : ckM 63 = true := by decide +kernel
theorem ck63 : (List.range (nI_ 63)).all (ckI 63) = true := by decide +kernel
theorem cm64 : ckM 64 = true := by decide +kernel
theorem ck64 : (List.range (nI_ 64)).all (ckI 64) = true := by decide +kernel
theorem cm65 : ckM 65 = true := by decide +kernel
theorem ck65 : (List.range (nI_ 65)).all (ckI 65) = true := by decide +kernel
theorem cm66 : ckM 66 = true := by decide +kernel
theorem ck66 : (List.range (nI_ 66)).all (ckI 66) = true := by decide +kernel
theorem cm67 : ckM 67 = true := by decide +kernel
theorem ck67 : (List.range (nI_ 67)).all (ckI 67) = true := by decide +kernel
theorem cm68 : ckM 68 = true := by decide +kernel
theorem ck68 : (List.range (nI_ 68)).all (ckI 68) = true := by decide +kernel
theorem cm69 : ckM 69 = true := by decide +kernel
theorem ck69 : (List.range (nI_ 69)).all (ckI 69) = true := by decide +kernel
theorem cm70 : ckM 70 = true := by decide +kernel
theorem ck70 : (List.range (nI_ 70)).all (ckI 70) = true := by decide +kernel
theorem cm71 : ckM 71 = true := by decide +kernel
theorem ck71 : (List.range (nI_ 71)).all (ckI 71) = true := by decide +kernel
theorem cm72 : ckM 72 = true := by decide +kernel
theorem ck72 : (List.range (nI_ 72)).all (ckI 72) = true := by decide +kernel
theorem cm73 : ckM 73 = true := by decide +kernel
theorem ck73 : (List.range (nI_ 73)).all (ckI 73) = true := by decide +kernel
theorem cm74 : ckM 74 = true := by decide +kernel
theorem ck74 : (List.range (nI_ 74)).all (ckI 74) = true := by decide +kernel
theorem cm75 : ckM 75 = true := by decide +kernel
theorem ck75 : (List.range (nI_ 75)).all (ckI 75) = true := by decide +kernel
theorem cm76 : ckM 76 = true := by decide +kernel
theorem ck76 : (List.range (nI_ 76)).all (ckI 76) = true := by decide +kernel
theorem cm77 : ckM 77 = true := by decide +kernel
theorem ck77 : (List.range (nI_ 77)).all (ckI 77) = true := by decide +kernel
theorem cm78 : ckM 78 = true := by decide +kernel
theorem ck78 : (List.range (nI_ 78)).all (ckI 78) = true := by decide +kernel
theorem cm79 : ckM 79 = true := by decide +kernel
theorem ck79 : (List.range (nI_ 79)).all (ckI 79) = true := by decide +kernel
theorem cm80 : ckM 80 = true := by decide +kernel
theorem ck80 : (List.range (nI_ 80)).all (ckI 80) = true := by decide +kernel
theorem cm81 : ckM 81 = true := by decide +kernel
theorem ck81 : (List.range (nI_ 81)).all (ckI 81) = true := by decide +kernel
theorem cm82 : ckM 82 = true := by decide +kernel
theorem ck82 : (List.range (nI_ 82)).all (ckI 82) = true := by decide +kernel
theorem cm83 : ckM 83 = true := by decide +kernel
theorem ck83 : (List.range (nI_ 83)).all (ckI 83) = true := by decide +kernel
theorem cm84 : ckM 84 = true := by decide +kernel
theorem ck84 : (List.range (nI_ 84)).all (ckI 84) = true := by decide +kernel
theorem cm85 : ckM 85 = true := by decide +kernel
theorem ck85 : (List.range (nI_ 85)).all (ckI 85) = true := by decide +kernel
theorem cm86 : ckM 86 = true := by decide +kernel
theorem ck86 : (List.range (nI_ 86)).all (ckI 86) = true := by decide +kernel
theorem cm87 : ckM 87 = true := by decide +kernel
theorem ck87 : (List.range (nI_ 87)).all (ckI 87) = true := by decide +kernel
theorem cm88 : ckM 88 = true := by decide +kernel
theorem ck88 : (List.range (nI_ 88)).all (ckI 88) = true := by decide +kernel
theorem cm89 : ckM 89 = true := by decide +kernel
theorem ck89 : (List.range (nI_ 89)).all (ckI 89) = true := by decide +kernel
theorem cm90 : ckM 90 = true := by decide +kernel
theorem ck90 : (List.range (nI_ 90)).all (ckI 90) = true := by decide +kernel
theorem cm91 : ckM 91 = true := by decide +kernel
theorem ck91 : (List.range (nI_ 91)).all (ckI 91) = true := by decide +kernel
theorem cm92 : ckM 92 = true := by decide +kernel
theorem ck92 : (List.range (nI_ 92)).all (ckI 92) = true := by decide +kernel
theorem cm93 : ckM 93 = true := by decide +kernel
theorem ck93 : (List.range (nI_ 93)).all (ckI 93) = true := by decide +kernel
theorem cm94 : ckM 94 = true := by decide +kernel
theorem ck94 : (List.range (nI_ 94)).all (ckI 94) = true := by decide +kernel
theorem cm95 : ckM 95 = true := by decide +kernel
theorem ck95 : (List.range (nI_ 95)).all (ckI 95) = true := by decide +kernel
theorem cm96 : ckM 96 = true := by decide +kernel
theorem ck96 : (List.range (nI_ 96)).all (ckI 96) = true := by decide +kernel
theorem cm97 : ckM 97 = true := by decide +kernel
theorem ck97 : (List.range (nI_ 97)).all (ckI 97) = true := by decide +kernel
theorem cm98 : ckM 98 = true := by decide +kernel
theorem ck98 : (List.range (nI_ 98)).all (ckI 98) = true := by decide +kernel
theorem cm99 : ckM 99 = true := by decide +kernel
theorem ck99 : (List.range (nI_ 99)).all (ckI 99) = true := by decide +kernel
theorem cm100 : ckM 100 = true := by decide +kernel
theorem ck100 : (List.range (nI_ 100)).all (ckI 100) = true := by decide +kernel
theorem cm101 : ckM 101 = true := by decide +kernel
theorem ck101 : (List.range (nI_ 101)).all (ckI 101) = true := by decide +kernel
theorem cm102 : ckM 102 = true := by decide +kernel
theorem ck102 : (List.range (nI_ 102)).all (ckI 102) = true := by decide +kernel
theorem cm103 : ckM 103 = true := by decide +kernel
theorem ck103 : (List.range (nI_ 103)).all (ckI 103) = true := by decide +kernel
theorem cm104 : ckM 104 = true := by decide +kernel
theorem ck104 : (List.range (nI_ 104)).all (ckI 104) = true := by decide +kernel
theorem cm105 : ckM 105 = true := by decide +kernel
theorem ck105 : (List.range (nI_ 105)).all (ckI 105) = true := by decide +kernel
theorem cm106 : ckM 106 = true := by decide +kernel
theorem ck106 : (List.range (nI_ 106)).all (ckI 106) = true := by decide +kernel
theorem cm107 : ckM 107 = true := by decide +kernel
theorem ck107 : (List.range (nI_ 107)).all (ckI 107) = true := by decide +kernel
theorem cm108 : ckM 108 = true := by decide +kernel
theorem ck108 : (List.range (nI_ 108)).all (ckI 108) = true := by decide +kernel
theorem cm109 : ckM 109 = true := by decide +kernel
theorem ck109 : (List.range (nI_ 109)).all (ckI 109) = true := by decide +kernel
theorem cm110 : ckM 110 = true := by decide +kernel
theorem ck110 : (List.range (nI_ 110)).all (ckI 110) = true := by decide +kernel
theorem cm111 : ckM 111 = true := by decide +kernel
theorem ck111 : (List.range (nI_ 111)).all (ckI 111) = true := by decide +kernel
theorem cm112 : ckM 112 = true := by decide +kernel
theorem ck112 : (List.range (nI_ 112)).all (ckI 112) = true := by decide +kernel
theorem cm113 : ckM 113 = true := by decide +kernel
theorem ck113 : (List.range (nI_ 113)).all (ckI 113) = true := by decide +kernel
theorem cm114 : ckM 114 = true := by decide +kernel
theorem ck114 : (List.range (nI_ 114)).all (ckI 114) = true := by decide +kernel
theorem cm115 : ckM 115 = true := by decide +kernel
theorem ck115 : (List.range (nI_ 115)).all (ckI 115) = true := by decide +kernel
theorem cm116 : ckM 116 = true := by decide +kernel
theorem ck116 : (List.range (nI_ 116)).all (ckI 116) = true := by decide +kernel
theorem cm117 : ckM 117 = true := by decide +kernel
theorem ck117 : (List.range (nI_ 117)).all (ckI 117) = true := by decide +kernel
theorem cm118 : ckM 118 = true := by decide +kernel
theorem ck118 : (List.range (nI_ 118)).all (ckI 118) = true := by decide +kernel
theorem cm119 : ckM 119 = true := by decide +kernel
theorem ck119 : (List.range (nI_ 119)).all (ckI 119) = true := by decide +kernel
theorem cm120 : ckM 120 = true := by decide +kernel
theorem ck120 : (List.range (nI_ 120)).all (ckI 120) = true := by decide +kernel
theorem cm121 : ckM 121 = true := by decide +kernel
theorem ck121 : (List.range (nI_ 121)).all (ckI 121) = true := by decide +kernel
theorem cm122 : ckM 122 = true := by decide +kernel
theorem ck122 : (List.range (nI_ 122)).all (ckI 122) = true := by decide +kernel
theorem cm123 : ckM 123 = true := by decide +kernel
theorem ck123 : (List.range (nI_ 123)).all (ckI 123) = true := by decide +kernel
theorem cm124 : ckM 124 = true := by decide +kernel
theorem ck124 : (List.range (nI_ 124)).all (ckI 124) = true := by decide +kernel
theorem cm125 : ckM 125 = true := by decide +kernel
theorem ck125 : (List.range (nI_ 125)).all (ckI 125) = true := by decide +kernel
theorem cm126 : ckM 126 = true := by decide +kernel
theorem ck126 : (List.range (nI_ 126)).all (ckI 126) = true := by decide +kernel
theorem cm127 : ckM 127 = true := by decide +kernel
theorem ck127 : (List.range (nI_ 127)).all (ckI 127) = true := by decide +kernel
theorem cm128 : ckM 128 = true := by decide +kernel
theorem ck128 : (List.range (nI_ 128)).all (ckI 128) = true := by decide +kernel
theorem cm129 : ckM 129 = true := by decide +kernel
theorem ck129 : (List.range (nI_ 129)).all (ckI 129) = true := by decide +kernel
theorem cm130 : ckM 130 = true := by decide +kernel
theorem ck130 : (List.range (nI_ 130)).all (ckI 130) = true := by decide +kernel
theorem cm131 : ckM 131 = true := by decide +kernel
theorem ck131 : (List.range (nI_ 131)).all (ckI 131) = true := by decide +kernel
theorem cm132 : ckM 132 = true := by decide +kernel
theorem ck132 : (List.range (nI_ 132)).all (ckI 132) = true := by decide +kernel
theorem cm133 : ckM 133 = true := by decide +kernel
theorem ck133 : (List.range (nI_ 133)).all (ckI 133) = true := by decide +kernel
theorem cm134 : ckM 134 = true := by decide +kernel
theorem ck134 : (List.range (nI_ 134)).all (ckI 134) = true := by decide +kernel
theorem cm135 : ckM 135 = true := by decide +kernel
theorem ck135 : (List.range (nI_ 135)).all (ckI 135) = true := by decide +kernel
theorem cm136 : ckM 136 = true := by decide +kernel
theorem ck136 : (List.range (nI_ 136)).all (ckI 136) = true := by decide +kernel
theorem cm137 : ckM 137 = true := by decide +kernel
theorem ck137 : (List.range (nI_ 137)).all (ckI 137) = true := by decide +kernel
theorem cm138 : ckM 138 = true := by decide +kernel
theorem ck138 : (List.range (nI_ 138)).all (ckI 138) = true := by decide +kernel
theorem cm139 : ckM 139 = true := by decide +kernel
theorem ck139 : (List.range (nI_ 139)).all (ckI 139) = true := by decide +kernel
theorem cm140 : ckM 140 = true := by decide +kernel
theorem ck140 : (List.range (nI_ 140)).all (ckI 140) = true := by decide +kernel
theorem cm141 : ckM 141 = true := by decide +kernel
theorem ck141 : (List.range (nI_ 141)).all (ckI 141) = true := by decide +kernel
theorem cm142 : ckM 142 = true := by decide +kernel
theorem ck142 : (List.range (nI_ 142)).all (ckI 142) = true := by decide +kernel
theorem cm143 : ckM 143 = true := by decide +kernel
theorem ck143 : (List.range (nI_ 143)).all (ckI 143) = true := by decide +kernel
theorem cm144 : ckM 144 = true := by decide +kernel
theorem ck144 : (List.range (nI_ 144)).all (ckI 144) = true := by decide +kernel
theorem cm145 : ckM 145 = true := by decide +kernel
theorem ck145 : (List.range (nI_ 145)).all (ckI 145) = true := by decide +kernel
theorem cm146 : ckM 146 = true := by decide +kernel
theorem ck146 : (List.range (nI_ 146)).all (ckI 146) = true := by decide +kernel
theorem cm147 : ckM 147 = true := by decide +kernel
theorem ck147 : (List.range (nI_ 147)).all (ckI 147) = true := by decide +kernel
theorem cm148 : ckM 148 = true := by decide +kernel
theorem ck148 : (List.range (nI_ 148)).all (ckI 148) = true := by decide +kernel
theorem cm149 : ckM 149 = true := by decide +kernel
theorem ck149 : (List.range (nI_ 149)).all (ckI 149) = true := by decide +kernel
theorem cm150 : ckM 150 = true := by decide +kernel
theorem ck150 : (List.range (nI_ 150)).all (ckI 150) = true := by decide +kernel
theorem cm151 : ckM 151 = true := by decide +kernel
theorem ck151 : (List.range (nI_ 151)).all (ckI 151) = true := by decide +kernel
theorem cm152 : ckM 152 = true := by decide +kernel
theorem ck152 : (List.range (nI_ 152)).all (ckI 152) = true := by decide +kernel
theorem cm153 : ckM 153 = true := by decide +kernel
theorem ck153 : (List.range (nI_ 153)).all (ckI 153) = true := by decide +kernel
theorem cm154 : ckM 154 = true := by decide +kernel
theorem ck154 : (List.range (nI_ 154)).all (ckI 154) = true := by decide +kernel
theorem cm155 : ckM 155 = true := by decide +kernel
theorem ck155 : (List.range (nI_ 155)).all (ckI 155) = true := by decide +kernel
theorem cm156 : ckM 156 = true := by decide +kernel
theorem ck156 : (List.range (nI_ 156)).all (ckI 156) = true := by decide +kernel
theorem cm157 : ckM 157 = true := by decide +kernel
theorem ck157 : (List.range (nI_ 157)).all (ckI 157) = true := by decide +kernel
theorem cm158 : ckM 158 = true := by decide +kernel
theorem ck158 : (List.range (nI_ 158)).all (ckI 158) = true := by decide +kernel
theorem cm159 : ckM 159 = true := by decide +kernel
theorem ck159 : (List.range (nI_ 159)).all (ckI 159) = true := by decide +kernel
theorem cm160 : ckM 160 = true := by decide +kernel
theorem ck160 : (List.range (nI_ 160)).all (ckI 160) = true := by decide +kernel
theorem cm161 : ckM 161 = true := by decide +kernel
theorem ck161 : (List.range (nI_ 161)).all (ckI 161) = true := by decide +kernel
theorem cm162 : ckM 162 = true := by decide +kernel
theorem ck162 : (List.range (nI_ 162)).all (ckI 162) = true := by decide +kernel
theorem cm163 : ckM 163 = true := by decide +kernel
theorem ck163 : (List.range (nI_ 163)).all (ckI 163) = true := by decide +kernel
theorem cm164 : ckM 164 = true := by decide +kernel
theorem ck164 : (List.range (nI_ 164)).all (ckI 164) = true := by decide +kernel
theorem cm165 : ckM 165 = true := by decide +kernel
theorem ck165 : (List.range (nI_ 165)).all (ckI 165) = true := by decide +kernel
theorem cm166 : ckM 166 = true := by decide +kernel
theorem ck166 : (List.range (nI_ 166)).all (ckI 166) = true := by decide +kernel
theorem cm167 : ckM 167 = true := by decide +kernel
theorem ck167 : (List.range (nI_ 167)).all (ckI 167) = true := by decide +kernel
theorem cm168 : ckM 168 = true := by decide +kernel
theorem ck168 : (List.range (nI_ 168)).all (ckI 168) = true := by decide +kernel
theorem cm169 : ckM 169 = true := by decide +kernel
theorem ck169 : (List.range (nI_ 169)).all (ckI 169) = true := by decide +kernel
theorem cm170 : ckM 170 = true := by decide +kernel
theorem ck170 : (List.range (nI_ 170)).all (ckI 170) = true := by decide +kernel
theorem cm171 : ckM 171 = true := by decide +kernel
theorem ck171 : (List.range (nI_ 171)).all (ckI 171) = true := by decide +kernel
theorem cm172 : ckM 172 = true := by decide +kernel
theorem ck172 : (List.range (nI_ 172)).all (ckI 172) = true := by decide +kernel
theorem cm173 : ckM 173 = true := by decide +kernel
theorem ck173 : (List.range (nI_ 173)).all (ckI 173) = true := by decide +kernel
theorem cm174 : ckM 174 = true := by decide +kernel
theorem ck174 : (List.range (nI_ 174)).all (ckI 174) = true := by decide +kernel
theorem cm175 : ckM 175 = true := by decide +kernel
theorem ck175 : (List.range (nI_ 175)).all (ckI 175) = true := by decide +kernel
theorem cm176 : ckM 176 = true := by decide +kernel
theorem ck176 : (List.range (nI_ 176)).all (ckI 176) = true := by decide +kernel
theorem cm177 : ckM 177 = true := by decide +kernel
theorem ck177 : (List.range (nI_ 177)).all (ckI 177) = true := by decide +kernel
theorem cm178 : ckM 178 = true := by decide +kernel
theorem ck178 : (List.range (nI_ 178)).all (ckI 178) = true := by decide +kernel
theorem cm179 : ckM 179 = true := by decide +kernel
theorem ck179 : (List.range (nI_ 179)).all (ckI 179) = true := by decide +kernel
theorem cm180 : ckM 180 = true := by decide +kernel
theorem ck180 : (List.range (nI_ 180)).all (ckI 180) = true := by decide +kernel
theorem cm181 : ckM 181 = true := by decide +kernel
theorem ck181 : (List.range (nI_ 181)).all (ckI 181) = true := by decide +kernel
theorem cm182 : ckM 182 = true := by decide +kernel
theorem ck182 : (List.range (nI_ 182)).all (ckI 182) = true := by decide +kernel
theorem cm183 : ckM 183 = true := by decide +kernel
theorem ck183 : (List.range (nI_ 183)).all (ckI 183) = true := by decide +kernel
theorem cm184 : ckM 184 = true := by decide +kernel
theorem ck184 : (List.range (nI_ 184)).all (ckI 184) = true := by decide +kernel
theorem cm185 : ckM 185 = true := by decide +kernel
theorem ck185 : (List.range (nI_ 185)).all (ckI 185) = true := by decide +kernel
theorem cm186 : ckM 186 = true := by decide +kernel
theorem ck186 : (List.range (nI_ 186)).all (ckI 186) = true := by decide +kernel
theorem cm187 : ckM 187 = true := by decide +kernel
theorem ck187 : (List.range (nI_ 187)).all (ckI 187) = true := by decide +kernel
theorem cm188 : ckM 188 = true := by decide +kernel
theorem ck188 : (List.range (nI_ 188)).all (ckI 188) = true := by decide +kernel
theorem cm189 : ckM 189 = true := by decide +kernel
theorem ck189 : (List.range (nI_ 189)).all (ckI 189) = true := by decide +kernel
theorem cm190 : ckM 190 = true := by decide +kernel
theorem ck190 : (List.range (nI_ 190)).all (ckI 190) = true := by decide +kernel
theorem cm191 : ckM 191 = true := by decide +kernel
theorem ck191 : (List.range (nI_ 191)).all (ckI 191) = true := by decide +kernel
theorem cm192 : ckM 192 = true := by decide +kernel
theorem ck192 : (List.range (nI_ 192)).all (ckI 192) = true := by decide +kernel
theorem cm193 : ckM 193 = true := by decide +kernel
theorem ck193 : (List.range (nI_ 193)).all (ckI 193) = true := by decide +kernel
theorem cm194 : ckM 194 = true := by decide +kernel
theorem ck194 : (List.range (nI_ 194)).all (ckI 194) = true := by decide +kernel
theorem cm195 : ckM 195 = true := by decide +kernel
theorem ck195 : (List.range (nI_ 195)).all (ckI 195) = true := by decide +kernel
theorem cm196 : ckM 196 = true := by decide +kernel
theorem ck196 : (List.range (nI_ 196)).all (ckI 196) = true := by decide +kernel
theorem cm197 : ckM 197 = true := by decide +kernel
theorem ck197 : (List.range (nI_ 197)).all (ckI 197) = true := by decide +kernel
theorem cm198 : ckM 198 = true := by decide +kernel
theorem ck198 : (List.range (nI_ 198)).all (ckI 198) = true := by decide +kernel
theorem cm199 : ckM 199 = true := by decide +kernel
theorem ck199 : (List.range (nI_ 199)).all (ckI 199) = true := by decide +kernel
theorem cm200 : ckM 200 = true := by decide +kernel
theorem ck200 : (List.range (nI_ 200)).all (ckI 200) = true := by decide +kernel
theorem cm201 : ckM 201 = true := by decide +kernel
theorem ck201 : (List.range (nI_ 201)).all (ckI 201) = true := by decide +kernel
theorem cm202 : ckM 202 = true := by decide +kernel
theorem ck202 : (List.range (nI_ 202)).all (ckI 202) = true := by decide +kernel
theorem cm203 : ckM 203 = true := by decide +kernel
theorem ck203 : (List.range (nI_ 203)).all (ckI 203) = true := by decide +kernel
theorem cm204 : ckM 204 = true := by decide +kernel
theorem ck204 : (List.range (nI_ 204)).all (ckI 204) = true := by decide +kernel
theorem cm205 : ckM 205 = true := by decide +kernel
theorem ck205 : (List.range (nI_ 205)).all (ckI 205) = true := by decide +kernel
theorem cm206 : ckM 206 = true := by decide +kernel
theorem ck206 : (List.range (nI_ 206)).all (ckI 206) = true := by decide +kernel
theorem cm207 : ckM 207 = true := by decide +kernel
theorem ck207 : (List.range (nI_ 207)).all (ckI 207) = true := by decide +kernel
theorem cm208 : ckM 208 = true := by decide +kernel
theorem ck208 : (List.range (nI_ 208)).all (ckI 208) = true := by decide +kernel
theorem cm209 : ckM 209 = true := by decide +kernel
theorem ck209 : (List.range (nI_ 209)).all (ckI 209) = true := by decide +kernel
theorem cm210 : ckM 210 = true := by decide +kernel
theorem ck210 : (List.range (nI_ 210)).all (ckI 210) = true := by decide +kernel
theorem cm211 : ckM 211 = true := by decide +kernel
theorem ck211 : (List.range (nI_ 211)).all (ckI 211) = true := by decide +kernel
theorem cm212 : ckM 212 = true := by decide +kernel
theorem ck212 : (List.range (nI_ 212)).all (ckI 212) = true := by decide +kernel
theorem cm213 : ckM 213 = true := by decide +kernel
theorem ck213 : (List.range (nI_ 213)).all (ckI 213) = true := by decide +kernel
theorem cm214 : ckM 214 = true := by decide +kernel
theorem ck214 : (List.range (nI_ 214)).all (ckI 214) = true := by decide +kernel
theorem cm215 : ckM 215 = true := by decide +kernel
theorem ck215 : (List.range (nI_ 215)).all (ckI 215) = true := by decide +kernel
theorem cm216 : ckM 216 = true := by decide +kernel
theorem ck216 : (List.range (nI_ 216)).all (ckI 216) = true := by decide +kernel
theorem cm217 : ckM 217 = true := by decide +kernel
theorem ck217 : (List.range (nI_ 217)).all (ckI 217) = true := by decide +kernel
theorem cm218 : ckM 218 = true := by decide +kernel
theorem ck218 : (List.range (nI_ 218)).all (ckI 218) = true := by decide +kernel
theorem cm219 : ckM 219 = true := by decide +kernel
theorem ck219 : (List.range (nI_ 219)).all (ckI 219) = true := by decide +kernel
theorem cm220 : ckM 220 = true := by decide +kernel
theorem ck220 : (List.range (nI_ 220)).all (ckI 220) = true := by decide +kernel
theorem cm221 : ckM 221 = true := by decide +kernel
theorem ck221 : (List.range (nI_ 221)).all (ckI 221) = true := by decide +kernel
theorem cm222 : ckM 222 = true := by decide +kernel
theorem ck222 : (List.range (nI_ 222)).all (ckI 222) = true := by decide +kernel
theorem cm223 : ckM 223 = true := by decide +kernel
theorem ck223 : (List.range (nI_ 223)).all (ckI 223) = true := by decide +kernel
theorem cm224 : ckM 224 = true := by decide +kernel
theorem ck224 : (List.range (nI_ 224)).all (ckI 224) = true := by decide +kernel
theorem cm225 : ckM 225 = true := by decide +kernel
theorem ck225 : (List.range (nI_ 225)).all (ckI 225) = true := by decide +kernel
theorem cm226 : ckM 226 = true := by decide +kernel
theorem ck226 : (List.range (nI_ 226)).all (ckI 226) = true := by decide +kernel
theorem cm227 : ckM 227 = true := by decide +kernel
theorem ck227 : (List.range (nI_ 227)).all (ckI 227) = true := by decide +kernel
theorem cm228 : ckM 228 = true := by decide +kernel
theorem ck228 : (List.range (nI_ 228)).all (ckI 228) = true := by decide +kernel
theorem cm229 : ckM 229 = true := by decide +kernel
theorem ck229 : (List.range (nI_ 229)).all (ckI 229) = true := by decide +kernel
theorem cm230 : ckM 230 = true := by decide +kernel
theorem ck230 : (List.range (nI_ 230)).all (ckI 230) = true := by decide +kernel
theorem cm231 : ckM 231 = true := by decide +kernel
theorem ck231 : (List.range (nI_ 231)).all (ckI 231) = true := by decide +kernel
