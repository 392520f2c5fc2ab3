/-! Every row of these methods is as asked. -/
set_option maxRecDepth 100000 in
theorem x_o1 : x_t1.all (x_okb 1) = true := by decide +kernel
set_option maxRecDepth 100000 in
theorem x_o2 : x_t2.all (x_okb 2) = true := by decide +kernel
set_option maxRecDepth 100000 in
theorem x_o3 : x_t3.all (x_okb 3) = true := by decide +kernel
set_option maxRecDepth 100000 in
theorem x_o4 : x_t4.all (x_okb 4) = true := by decide +kernel
set_option maxRecDepth 100000 in
theorem x_o5 : x_t5.all (x_okb 5) = true := by decide +kernel
set_option maxRecDepth 100000 in
theorem x_o6 : x_t6.all (x_okb 6) = true := by decide +kernel
set_option maxRecDepth 100000 in
theorem x_o7 : x_t7.all (x_okb 7) = true := by decide +kernel
set_option maxRecDepth 100000 in
theorem x_o8 : x_t8.all (x_okb 8) = true := by decide +kernel
set_option maxRecDepth 100000 in
theorem x_o9 : x_t9.all (x_okb 9) = true := by decide +kernel
set_option maxRecDepth 100000 in
theorem x_o10 : x_t10.all (x_okb 10) = true := by decide +kernel
set_option maxRecDepth 100000 in
theorem x_o11 : x_t11.all (x_okb 11) = true := by decide +kernel
set_option maxRecDepth 100000 in
theorem x_o12 : x_t12.all (x_okb 12) = true := by decide +kernel
set_option maxRecDepth 100000 in
theorem x_o13 : x_t13.all (x_okb 13) = true := by decide +kernel
set_option maxRecDepth 100000 in
theorem x_o14 : x_t14.all (x_okb 14) = true := by decide +kernel
set_option maxRecDepth 100000 in
theorem x_o15 : x_t15.all (x_okb 15) = true := by decide +kernel
set_option maxRecDepth 100000 in
theorem x_o16 : x_t16.all (x_okb 16) = true := by decide +kernel
set_option maxRecDepth 100000 in
theorem x_o17 : x_t17.all (x_okb 17) = true := by decide +kernel
set_option maxRecDepth 100000 in
theorem x_o19 : x_t19.all (x_okb 19) = true := by decide +kernel
set_option maxRecDepth 100000 in
theorem x_o21 : x_t21.all (x_okb 21) = true := by decide +kernel
set_option maxRecDepth 100000 in
theorem x_o22 : x_t22.all (x_okb 22) = true := by decide +kernel
set_option maxRecDepth 100000 in
theorem x_o23 : x_t23.all (x_okb 23) = true := by decide +kernel
set_option maxRecDepth 100000 in
theorem x_o24 : x_t24.all (x_okb 24) = true := by decide +kernel
set_option maxRecDepth 100000 in
theorem x_o25 : x_t25.all (x_okb 25) = true := by decide +kernel
set_option maxRecDepth 100000 in
theorem x_o26 : x_t26.all (x_okb 26) = true := by decide +kernel
set_option maxRecDepth 100000 in
theorem x_o27 : x_t27.all (x_okb 27) = true := by decide +kernel
set_option maxRecDepth 100000 in
theorem x_o28 : x_t28.all (x_okb 28) = true := by decide +kernel
set_option maxRecDepth 100000 in
theorem x_o30 : x_t30.all (x_okb 30) = true := by decide +kernel
set_option maxRecDepth 100000 in
theorem x_o31 : x_t31.all (x_okb 31) = true := by decide +kernel
set_option maxRecDepth 100000 in
theorem x_o32 : x_t32.all (x_okb 32) = true := by decide +kernel
set_option maxRecDepth 100000 in
theorem x_o33 : x_t33.all (x_okb 33) = true := by decide +kernel
set_option maxRecDepth 100000 in
theorem x_o34 : x_t34.all (x_okb 34) = true := by decide +kernel
set_option maxRecDepth 100000 in
theorem x_o35 : x_t35.all (x_okb 35) = true := by decide +kernel
set_option maxRecDepth 100000 in
theorem x_o36 : x_t36.all (x_okb 36) = true := by decide +kernel
set_option maxRecDepth 100000 in
theorem x_o37 : x_t37.all (x_okb 37) = true := by decide +kernel
set_option maxRecDepth 100000 in
theorem x_o38 : x_t38.all (x_okb 38) = true := by decide +kernel
set_option maxRecDepth 100000 in
theorem x_o39 : x_t39.all (x_okb 39) = true := by decide +kernel
set_option maxRecDepth 100000 in
theorem x_o40 : x_t40.all (x_okb 40) = true := by decide +kernel
set_option maxRecDepth 100000 in
theorem x_o41 : x_t41.all (x_okb 41) = true := by decide +kernel
set_option maxRecDepth 100000 in
theorem x_o42 : x_t42.all (x_okb 42) = true := by decide +kernel
set_option maxRecDepth 100000 in
theorem x_o43 : x_t43.all (x_okb 43) = true := by decide +kernel
set_option maxRecDepth 100000 in
theorem x_o44 : x_t44.all (x_okb 44) = true := by decide +kernel
set_option maxRecDepth 100000 in
theorem x_o45 : x_t45.all (x_okb 45) = true := by decide +kernel
set_option maxRecDepth 100000 in
theorem x_o46 : x_t46.all (x_okb 46) = true := by decide +kernel
set_option maxRecDepth 100000 in
theorem x_o47 : x_t47.all (x_okb 47) = true := by decide +kernel
set_option maxRecDepth 100000 in
theorem x_o48 : x_t48.all (x_okb 48) = true := by decide +kernel
set_option maxRecDepth 100000 in
theorem x_o49 : x_t49.all (x_okb 49) = true := by decide +kernel
set_option maxRecDepth 100000 in
theorem x_o50 : x_t50.all (x_okb 50) = true := by decide +kernel
set_option maxRecDepth 100000 in
theorem x_o51 : x_t51.all (x_okb 51) = true := by decide +kernel
set_option maxRecDepth 100000 in
theorem x_o52 : x_t52.all (x_okb 52) = true := by decide +kernel
set_option maxRecDepth 100000 in
theorem x_o53 : x_t53.all (x_okb 53) = true := by decide +kernel
set_option maxRecDepth 100000 in
theorem x_o54 : x_t54.all (x_okb 54) = true := by decide +kernel
set_option maxRecDepth 100000 in
theorem x_o55 : x_t55.all (x_okb 55) = true := by decide +kernel
set_option maxRecDepth 100000 in
theorem x_o56 : x_t56.all (x_okb 56) = true := by decide +kernel
set_option maxRecDepth 100000 in
theorem x_o58 : x_t58.all (x_okb 58) = true := by decide +kernel
set_option maxRecDepth 100000 in
theorem x_o59 : x_t59.all (x_okb 59) = true := by decide +kernel
set_option maxRecDepth 100000 in
theorem x_o60 : x_t60.all (x_okb 60) = true := by decide +kernel
set_option maxRecDepth 100000 in
theorem x_o61 : x_t61.all (x_okb 61) = true := by decide +kernel
set_option maxRecDepth 100000 in
theorem x_o62 : x_t62.all (x_okb 62) = true := by decide +kernel
set_option maxRecDepth 100000 in
theorem x_o63 : x_t63.all (x_okb 63) = true := by decide +kernel
set_option maxRecDepth 100000 in
theorem x_o64 : x_t64.all (x_okb 64) = true := by decide +kernel
set_option maxRecDepth 100000 in
theorem x_o65 : x_t65.all (x_okb 65) = true := by decide +kernel
set_option maxRecDepth 100000 in
theorem x_o66 : x_t66.all (x_okb 66) = true := by decide +kernel
set_option maxRecDepth 100000 in
theorem x_o67 : x_t67.all (x_okb 67) = true := by decide +kernel
set_option maxRecDepth 100000 in
theorem x_o68 : x_t68.all (x_okb 68) = true := by decide +kernel
set_option maxRecDepth 100000 in
theorem x_o69 : x_t69.all (x_okb 69) = true := by decide +kernel
set_option maxRecDepth 100000 in
theorem x_o70 : x_t70.all (x_okb 70) = true := by decide +kernel
set_option maxRecDepth 100000 in
theorem x_o71 : x_t71.all (x_okb 71) = true := by decide +kernel
set_option maxRecDepth 100000 in
theorem x_o72 : x_t72.all (x_okb 72) = true := by decide +kernel
set_option maxRecDepth 100000 in
theorem x_o73 : x_t73.all (x_okb 73) = true := by decide +kernel
set_option maxRecDepth 100000 in
theorem x_o75 : x_t75.all (x_okb 75) = true := by decide +kernel
set_option maxRecDepth 100000 in
theorem x_o76 : x_t76.all (x_okb 76) = true := by decide +kernel
set_option maxRecDepth 100000 in
theorem x_o77 : x_t77.all (x_okb 77) = true := by decide +kernel
set_option maxRecDepth 100000 in
theorem x_o78 : x_t78.all (x_okb 78) = true := by decide +kernel
set_option maxRecDepth 100000 in
theorem x_o79 : x_t79.all (x_okb 79) = true := by decide +kernel
set_option maxRecDepth 100000 in
theorem x_o80 : x_t80.all (x_okb 80) = true := by decide +kernel
set_option maxRecDepth 100000 in
theorem x_o81 : x_t81.all (x_okb 81) = true := by decide +kernel
set_option maxRecDepth 100000 in
theorem x_o82 : x_t82.all (x_okb 82) = true := by decide +kernel
set_option maxRecDepth 100000 in
theorem x_o83 : x_t83.all (x_okb 83) = true := by decide +kernel
set_option maxRecDepth 100000 in
theorem x_o84 : x_t84.all (x_okb 84) = true := by decide +kernel
set_option maxRecDepth 100000 in
theorem x_o85 : x_t85.all (x_okb 85) = true := by decide +kernel
set_option maxRecDepth 100000 in
theorem x_o86 : x_t86.all (x_okb 86) = true := by decide +kernel
set_option maxRecDepth 100000 in
theorem x_o87 : x_t87.all (x_okb 87) = true := by decide +kernel
set_option maxRecDepth 100000 in
theorem x_o88 : x_t88.all (x_okb 88) = true := by decide +kernel
set_option maxRecDepth 100000 in
theorem x_o89 : x_t89.all (x_okb 89) = true := by decide +kernel
set_option maxRecDepth 100000 in
theorem x_o90 : x_t90.all (x_okb 90) = true := by decide +kernel
set_option maxRecDepth 100000 in
theorem x_o91 : x_t91.all (x_okb 91) = true := by decide +kernel
set_option maxRecDepth 100000 in
theorem x_o93 : x_t93.all (x_okb 93) = true := by decide +kernel
set_option maxRecDepth 100000 in
theorem x_o94 : x_t94.all (x_okb 94) = true := by decide +kernel
set_option maxRecDepth 100000 in
theorem x_o95 : x_t95.all (x_okb 95) = true := by decide +kernel
set_option maxRecDepth 100000 in
theorem x_o96 : x_t96.all (x_okb 96) = true := by decide +kernel
set_option maxRecDepth 100000 in
theorem x_o97 : x_t97.all (x_okb 97) = true := by decide +kernel
set_option maxRecDepth 100000 in
theorem x_o98 : x_t98.all (x_okb 98) = true := by decide +kernel
set_option maxRecDepth 100000 in
theorem x_o99 : x_t99.all (x_okb 99) = true := by decide +kernel
set_option maxRecDepth 100000 in
theorem x_o100 : x_t100.all (x_okb 100) = true := by decide +kernel
set_option maxRecDepth 100000 in
theorem x_o101 : x_t101.all (x_okb 101) = true := by decide +kernel
set_option maxRecDepth 100000 in
theorem x_o102 : x_t102.all (x_okb 102) = true := by decide +kernel
set_option maxRecDepth 100000 in
theorem x_o103 : x_t103.all (x_okb 103) = true := by decide +kernel
set_option maxRecDepth 100000 in
theorem x_o104 : x_t104.all (x_okb 104) = true := by decide +kernel
set_option maxRecDepth 100000 in
theorem x_o105 : x_t105.all (x_okb 105) = true := by decide +kernel
set_option maxRecDepth 100000 in
theorem x_o106 : x_t106.all (x_okb 106) = true := by decide +kernel
set_option maxRecDepth 100000 in
theorem x_o107 : x_t107.all (x_okb 107) = true := by decide +kernel
set_option maxRecDepth 100000 in
theorem x_o109 : x_t109.all (x_okb 109) = true := by decide +kernel
set_option maxRecDepth 100000 in
theorem x_o110 : x_t110.all (x_okb 110) = true := by decide +kernel
set_option maxRecDepth 100000 in
theorem x_o111 : x_t111.all (x_okb 111) = true := by decide +kernel
set_option maxRecDepth 100000 in
theorem x_o112 : x_t112.all (x_okb 112) = true := by decide +kernel
set_option maxRecDepth 100000 in
theorem x_o113 : x_t113.all (x_okb 113) = true := by decide +kernel
set_option maxRecDepth 100000 in
theorem x_o114 : x_t114.all (x_okb 114) = true := by decide +kernel
set_option maxRecDepth 100000 in
theorem x_o115 : x_t115.all (x_okb 115) = true := by decide +kernel
set_option maxRecDepth 100000 in
theorem x_o116 : x_t116.all (x_okb 116) = true := by decide +kernel
set_option maxRecDepth 100000 in
theorem x_o117 : x_t117.all (x_okb 117) = true := by decide +kernel
set_option maxRecDepth 100000 in
theorem x_o118 : x_t118.all (x_okb 118) = true := by decide +kernel
set_option maxRecDepth 100000 in
theorem x_o119 : x_t119.all (x_okb 119) = true := by decide +kernel
set_option maxRecDepth 100000 in
theorem x_o120 : x_t120.all (x_okb 120) = true := by decide +kernel
set_option maxRecDepth 100000 in
theorem x_o121 : x_t121.all (x_okb 121) = true := by decide +kernel
set_option maxRecDepth 100000 in
theorem x_o122 : x_t122.all (x_okb 122) = true := by decide +kernel
set_option maxRecDepth 100000 in
theorem x_o124 : x_t124.all (x_okb 124) = true := by decide +kernel
set_option maxRecDepth 100000 in
theorem x_o125 : x_t125.all (x_okb 125) = true := by decide +kernel
set_option maxRecDepth 100000 in
theorem x_o126 : x_t126.all (x_okb 126) = true := by decide +kernel
set_option maxRecDepth 100000 in
theorem x_o127 : x_t127.all (x_okb 127) = true := by decide +kernel
set_option maxRecDepth 100000 in
theorem x_o128 : x_t128.all (x_okb 128) = true := by decide +kernel
set_option maxRecDepth 100000 in
theorem x_o129 : x_t129.all (x_okb 129) = true := by decide +kernel
set_option maxRecDepth 100000 in
theorem x_o130 : x_t130.all (x_okb 130) = true := by decide +kernel
set_option maxRecDepth 100000 in
theorem x_o131 : x_t131.all (x_okb 131) = true := by decide +kernel
set_option maxRecDepth 100000 in
theorem x_o132 : x_t132.all (x_okb 132) = true := by decide +kernel
set_option maxRecDepth 100000 in
theorem x_o133 : x_t133.all (x_okb 133) = true := by decide +kernel
set_option maxRecDepth 100000 in
theorem x_o134 : x_t134.all (x_okb 134) = true := by decide +kernel
set_option maxRecDepth 100000 in
theorem x_o135 : x_t135.all (x_okb 135) = true := by decide +kernel
set_option maxRecDepth 100000 in
theorem x_o136 : x_t136.all (x_okb 136) = true := by decide +kernel
set_option maxRecDepth 100000 in
theorem x_o137 : x_t137.all (x_okb 137) = true := by decide +kernel
set_option maxRecDepth 100000 in
theorem x_o138 : x_t138.all (x_okb 138) = true := by decide +kernel
set_option maxRecDepth 100000 in
theorem x_o139 : x_t139.all (x_okb 139) = true := by decide +kernel
set_option maxRecDepth 100000 in
theorem x_o140 : x_t140.all (x_okb 140) = true := by decide +kernel
set_option maxRecDepth 100000 in
theorem x_o141 : x_t141.all (x_okb 141) = true := by decide +kernel
set_option maxRecDepth 100000 in
theorem x_o142 : x_t142.all (x_okb 142) = true := by decide +kernel
set_option maxRecDepth 100000 in
theorem x_o143 : x_t143.all (x_okb 143) = true := by decide +kernel
set_option maxRecDepth 100000 in
theorem x_o144 : x_t144.all (x_okb 144) = true := by decide +kernel
set_option maxRecDepth 100000 in
theorem x_o145 : x_t145.all (x_okb 145) = true := by decide +kernel
set_option maxRecDepth 100000 in
theorem x_o146 : x_t146.all (x_okb 146) = true := by decide +kernel
set_option maxRecDepth 100000 in
theorem x_o147 : x_t147.all (x_okb 147) = true := by decide +kernel
set_option maxRecDepth 100000 in
theorem x_o148 : x_t148.all (x_okb 148) = true := by decide +kernel
set_option maxRecDepth 100000 in
theorem x_o149 : x_t149.all (x_okb 149) = true := by decide +kernel
set_option maxRecDepth 100000 in
theorem x_o150 : x_t150.all (x_okb 150) = true := by decide +kernel
set_option maxRecDepth 100000 in
theorem x_o151 : x_t151.all (x_okb 151) = true := by decide +kernel
set_option maxRecDepth 100000 in
theorem x_o152 : x_t152.all (x_okb 152) = true := by decide +kernel
set_option maxRecDepth 100000 in
theorem x_o153 : x_t153.all (x_okb 153) = true := by decide +kernel
set_option maxRecDepth 100000 in
theorem x_o154 : x_t154.all (x_okb 154) = true := by decide +kernel
set_option maxRecDepth 100000 in
theorem x_o155 : x_t155.all (x_okb 155) = true := by decide +kernel
set_option maxRecDepth 100000 in
theorem x_o156 : x_t156.all (x_okb 156) = true := by decide +kernel
set_option maxRecDepth 100000 in
theorem x_o157 : x_t157.all (x_okb 157) = true := by decide +kernel
set_option maxRecDepth 100000 in
theorem x_o158 : x_t158.all (x_okb 158) = true := by decide +kernel
set_option maxRecDepth 100000 in
theorem x_o159 : x_t159.all (x_okb 159) = true := by decide +kernel
set_option maxRecDepth 100000 in
theorem x_o160 : x_t160.all (x_okb 160) = true := by decide +kernel
set_option maxRecDepth 100000 in
theorem x_o162 : x_t162.all (x_okb 162) = true := by decide +kernel
set_option maxRecDepth 100000 in
theorem x_o163 : x_t163.all (x_okb 163) = true := by decide +kernel
set_option maxRecDepth 100000 in
theorem x_o164 : x_t164.all (x_okb 164) = true := by decide +kernel
set_option maxRecDepth 100000 in
theorem x_o165 : x_t165.all (x_okb 165) = true := by decide +kernel
set_option maxRecDepth 100000 in
theorem x_o166 : x_t166.all (x_okb 166) = true := by decide +kernel
set_option maxRecDepth 100000 in
theorem x_o167 : x_t167.all (x_okb 167) = true := by decide +kernel
set_option maxRecDepth 100000 in
theorem x_o168 : x_t168.all (x_okb 168) = true := by decide +kernel
set_option maxRecDepth 100000 in
theorem x_o169 : x_t169.all (x_okb 169) = true := by decide +kernel
set_option maxRecDepth 100000 in
theorem x_o170 : x_t170.all (x_okb 170) = true := by decide +kernel
set_option maxRecDepth 100000 in
theorem x_o171 : x_t171.all (x_okb 171) = true := by decide +kernel
set_option maxRecDepth 100000 in
theorem x_o172 : x_t172.all (x_okb 172) = true := by decide +kernel
set_option maxRecDepth 100000 in
theorem x_o173 : x_t173.all (x_okb 173) = true := by decide +kernel
set_option maxRecDepth 100000 in
theorem x_o174 : x_t174.all (x_okb 174) = true := by decide +kernel
set_option maxRecDepth 100000 in
theorem x_o175 : x_t175.all (x_okb 175) = true := by decide +kernel
set_option maxRecDepth 100000 in
theorem x_o176 : x_t176.all (x_okb 176) = true := by decide +kernel
set_option maxRecDepth 100000 in
theorem x_o177 : x_t177.all (x_okb 177) = true := by decide +kernel
set_option maxRecDepth 100000 in
theorem x_o178 : x_t178.all (x_okb 178) = true := by decide +kernel
set_option maxRecDepth 100000 in
theorem x_o179 : x_t179.all (x_okb 179) = true := by decide +kernel
set_option maxRecDepth 100000 in
theorem x_o180 : x_t180.all (x_okb 180) = true := by decide +kernel
set_option maxRecDepth 100000 in
theorem x_o181 : x_t181.all (x_okb 181) = true := by decide +kernel
set_option maxRecDepth 100000 in
theorem x_o182 : x_t182.all (x_okb 182) = true := by decide +kernel
set_option maxRecDepth 100000 in
theorem x_o183 : x_t183.all (x_okb 183) = true := by decide +kernel
set_option maxRecDepth 100000 in
theorem x_o184 : x_t184.all (x_okb 184) = true := by decide +kernel
set_option maxRecDepth 100000 in
theorem x_o185 : x_t185.all (x_okb 185) = true := by decide +kernel
set_option maxRecDepth 100000 in
theorem x_o186 : x_t186.all (x_okb 186) = true := by decide +kernel
set_option maxRecDepth 100000 in
theorem x_o187 : x_t187.all (x_okb 187) = true := by decide +kernel
set_option maxRecDepth 100000 in
theorem x_o188 : x_t188.all (x_okb 188) = true := by decide +kernel
set_option maxRecDepth 100000 in
theorem x_o189 : x_t189.all (x_okb 189) = true := by decide +kernel
set_option maxRecDepth 100000 in
theorem x_o190 : x_t190.all (x_okb 190) = true := by decide +kernel
set_option maxRecDepth 100000 in
theorem x_o191 : x_t191.all (x_okb 191) = true := by decide +kernel
set_option maxRecDepth 100000 in
theorem x_o18 : x_t18.all (x_okb 18) = true := by decide +kernel
set_option maxRecDepth 100000 in
theorem x_o20 : x_t20.all (x_okb 20) = true := by decide +kernel
set_option maxRecDepth 100000 in
theorem x_o57 : x_t57.all (x_okb 57) = true := by decide +kernel
set_option maxRecDepth 100000 in
theorem x_o74 : x_t74.all (x_okb 74) = true := by decide +kernel
set_option maxRecDepth 100000 in
theorem x_o92 : x_t92.all (x_okb 92) = true := by decide +kernel
set_option maxRecDepth 100000 in
theorem x_o108 : x_t108.all (x_okb 108) = true := by decide +kernel
set_option maxRecDepth 100000 in
theorem x_o123 : x_t123.all (x_okb 123) = true := by decide +kernel
set_option maxRecDepth 100000 in
theorem x_o161 : x_t161.all (x_okb 161) = true := by decide +kernel
