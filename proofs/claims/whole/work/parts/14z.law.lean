def sld {ρ : Type} (xs : Nat → Int32) (L : Nat) (i : Int32) (K : Int32 → Option ρ) : Option ρ := if 0 ≤ i.toInt ∧ i.toInt < L then K (xs i.toNatClampNeg) else none

def f_law_k3 (L : Nat) (xs : Nat → Int32) : Int32 → Mem → (Int32 → Mem → Option Int32) → Option Int32 :=
fun (x1 : Int32) (h2 : Mem) (K3 : (Int32 → Mem → Option Int32)) =>
if ((Int32.ofNat L) - (iI 6)) < x1 then (some (iI 1))
else (sld xs L x1 fun v4 =>
join (fun (h5 : Mem) =>
nm (x1 + iI 6) fun x7 =>
K3 x7 h5) fun (K6 : Mem → Option Int32) =>
if (v4 &&& (iI 63)) = iI 0 then (sld xs L (x1 + (iI 1)) fun v8 =>
sld xs L (x1 + (iI 2)) fun v9 =>
cal2 (f_X10_hall h2 v8 v9) fun v10 h11 =>
sld xs L (x1 + (iI 1)) fun v12 =>
sld xs L (x1 + (iI 2)) fun v13 =>
cal2 (f_X11_hall h11 v12 v13) fun v14 h15 =>
if v10 = v14 then (K6 h15)
else (some (iI 0)))
else if (v4 &&& (iI 63)) = iI 1 then (sld xs L (x1 + (iI 1)) fun v16 =>
sld xs L (x1 + (iI 2)) fun v17 =>
sld xs L (x1 + (iI 3)) fun v18 =>
cal2 (f_X10_square h2 v16 v17 v18) fun v19 h20 =>
sld xs L (x1 + (iI 1)) fun v21 =>
sld xs L (x1 + (iI 2)) fun v22 =>
sld xs L (x1 + (iI 3)) fun v23 =>
cal2 (f_X11_square h20 v21 v22 v23) fun v24 h25 =>
if v19 = v24 then (K6 h25)
else (some (iI 0)))
else if (v4 &&& (iI 63)) = iI 2 then (sld xs L (x1 + (iI 1)) fun v26 =>
sld xs L (x1 + (iI 2)) fun v27 =>
cal2 (f_X10_ofSquare h2 v26 v27) fun v28 h29 =>
sld xs L (x1 + (iI 1)) fun v30 =>
sld xs L (x1 + (iI 2)) fun v31 =>
cal2 (f_X11_ofSquare h29 v30 v31) fun v32 h33 =>
if v28 = v32 then (K6 h33)
else (some (iI 0)))
else if (v4 &&& (iI 63)) = iI 3 then (sld xs L (x1 + (iI 1)) fun v34 =>
sld xs L (x1 + (iI 2)) fun v35 =>
cal2 (f_X10_as h2 v34 v35) fun v36 h37 =>
sld xs L (x1 + (iI 1)) fun v38 =>
sld xs L (x1 + (iI 2)) fun v39 =>
cal2 (f_X11_as h37 v38 v39) fun v40 h41 =>
if v36 = v40 then (K6 h41)
else (some (iI 0)))
else if (v4 &&& (iI 63)) = iI 4 then (sld xs L (x1 + (iI 1)) fun v42 =>
cal2 (f_X10_hand h2 v42) fun v43 h44 =>
sld xs L (x1 + (iI 1)) fun v45 =>
cal2 (f_X11_hand h44 v45) fun v46 h47 =>
if v43 = v46 then (K6 h47)
else (some (iI 0)))
else if (v4 &&& (iI 63)) = iI 5 then (cal (f_X10_slants h2) fun v48 =>
cal (f_X11_slants h2) fun v49 =>
if v48 = v49 then (K6 h2)
else (some (iI 0)))
else if (v4 &&& (iI 63)) = iI 6 then (sld xs L (x1 + (iI 1)) fun v50 =>
cal2 (f_X10_let h2 v50) fun v51 h52 =>
sld xs L (x1 + (iI 1)) fun v53 =>
cal2 (f_X11_let h52 v53) fun v54 h55 =>
if v51 = v54 then (K6 h55)
else (some (iI 0)))
else if (v4 &&& (iI 63)) = iI 7 then (sld xs L (x1 + (iI 1)) fun v56 =>
sld xs L (x1 + (iI 2)) fun v57 =>
cal2 (f_X10_out h2 v56 v57) fun v58 h59 =>
sld xs L (x1 + (iI 1)) fun v60 =>
sld xs L (x1 + (iI 2)) fun v61 =>
cal2 (f_X11_out h59 v60 v61) fun v62 h63 =>
if v58 = v62 then (K6 h63)
else (some (iI 0)))
else if (v4 &&& (iI 63)) = iI 8 then (sld xs L (x1 + (iI 1)) fun v64 =>
sld xs L (x1 + (iI 2)) fun v65 =>
cal2 (f_X10_way h2 v64 v65) fun v66 h67 =>
sld xs L (x1 + (iI 1)) fun v68 =>
sld xs L (x1 + (iI 2)) fun v69 =>
cal2 (f_X11_way h67 v68 v69) fun v70 h71 =>
if v66 = v70 then (K6 h71)
else (some (iI 0)))
else if (v4 &&& (iI 63)) = iI 9 then (sld xs L (x1 + (iI 1)) fun v72 =>
cal2 (f_X10_undo h2 v72) fun v73 h74 =>
sld xs L (x1 + (iI 1)) fun v75 =>
cal2 (f_X11_undo h74 v75) fun v76 h77 =>
if v73 = v76 then (K6 h77)
else (some (iI 0)))
else if (v4 &&& (iI 63)) = iI 10 then (sld xs L (x1 + (iI 1)) fun v78 =>
sld xs L (x1 + (iI 2)) fun v79 =>
sld xs L (x1 + (iI 3)) fun v80 =>
cal2 (f_X10_feed h2 ((shlL (Int32.toInt64 v78) (iI 32)) ||| ((Int32.toInt64 v79) &&& (iL 4294967295))) v80) fun v81 h82 =>
sld xs L (x1 + (iI 1)) fun v83 =>
sld xs L (x1 + (iI 2)) fun v84 =>
sld xs L (x1 + (iI 3)) fun v85 =>
cal2 (f_X11_feed h82 ((shlL (Int32.toInt64 v83) (iI 32)) ||| ((Int32.toInt64 v84) &&& (iL 4294967295))) v85) fun v86 h87 =>
if v81 = v86 then (K6 h87)
else (some (iI 0)))
else if (v4 &&& (iI 63)) = iI 11 then (sld xs L (x1 + (iI 1)) fun v88 =>
cal2 (f_X10_text h2 v88) fun v89 h90 =>
sld xs L (x1 + (iI 1)) fun v91 =>
cal2 (f_X11_text h90 v91) fun v92 h93 =>
if v89 = v92 then (K6 h93)
else (some (iI 0)))
else if (v4 &&& (iI 63)) = iI 12 then (sld xs L (x1 + (iI 1)) fun v94 =>
sld xs L (x1 + (iI 2)) fun v95 =>
sld xs L (x1 + (iI 3)) fun v96 =>
sld xs L (x1 + (iI 4)) fun v97 =>
cal2 (f_X10_law h2 v94 v95 v96 v97) fun v98 h99 =>
sld xs L (x1 + (iI 1)) fun v100 =>
sld xs L (x1 + (iI 2)) fun v101 =>
sld xs L (x1 + (iI 3)) fun v102 =>
sld xs L (x1 + (iI 4)) fun v103 =>
cal2 (f_X11_law h99 v100 v101 v102 v103) fun v104 h105 =>
if v98 = v104 then (K6 h105)
else (some (iI 0)))
else if (v4 &&& (iI 63)) = iI 13 then (sld xs L (x1 + (iI 1)) fun v106 =>
cal2 (f_X10_round h2 v106) fun v107 h108 =>
sld xs L (x1 + (iI 1)) fun v109 =>
cal2 (f_X11_round h108 v109) fun v110 h111 =>
if v107 = v110 then (K6 h111)
else (some (iI 0)))
else if (v4 &&& (iI 63)) = iI 14 then (sld xs L (x1 + (iI 1)) fun v112 =>
cal2 (f_X10_back h2 v112) fun v113 h114 =>
sld xs L (x1 + (iI 1)) fun v115 =>
cal2 (f_X11_back h114 v115) fun v116 h117 =>
if v113 = v116 then (K6 h117)
else (some (iI 0)))
else if (v4 &&& (iI 63)) = iI 15 then (sld xs L (x1 + (iI 1)) fun v118 =>
sld xs L (x1 + (iI 2)) fun v119 =>
sld xs L (x1 + (iI 3)) fun v120 =>
cal2 (f_X10_throne h2 v118 v119 v120) fun v121 h122 =>
sld xs L (x1 + (iI 1)) fun v123 =>
sld xs L (x1 + (iI 2)) fun v124 =>
sld xs L (x1 + (iI 3)) fun v125 =>
cal2 (f_X11_throne h122 v123 v124 v125) fun v126 h127 =>
if v121 = v126 then (K6 h127)
else (some (iI 0)))
else if (v4 &&& (iI 63)) = iI 16 then (cal2 (f_X10_had h2) fun v128 h129 =>
cal2 (f_X11_had h129) fun v130 h131 =>
if v128 = v130 then (K6 h131)
else (some (iI 0)))
else if (v4 &&& (iI 63)) = iI 17 then (sld xs L (x1 + (iI 1)) fun v132 =>
sld xs L (x1 + (iI 2)) fun v133 =>
sld xs L (x1 + (iI 3)) fun v134 =>
sld xs L (x1 + (iI 4)) fun v135 =>
cal2 (f_X10_odds h2 v132 v133 v134 v135) fun w136 h137 =>
sld xs L (x1 + (iI 1)) fun v138 =>
sld xs L (x1 + (iI 2)) fun v139 =>
sld xs L (x1 + (iI 3)) fun v140 =>
sld xs L (x1 + (iI 4)) fun v141 =>
cal2 (f_X11_odds h137 v138 v139 v140 v141) fun w142 h143 =>
if (lg_cmp w136 w142) = 0 then (K6 h143)
else (some (iI 0)))
else if (v4 &&& (iI 63)) = iI 18 then (sld xs L (x1 + (iI 1)) fun v144 =>
sld xs L (x1 + (iI 2)) fun v145 =>
cal2 (f_X10_fits h2 v144 v145) fun v146 h147 =>
sld xs L (x1 + (iI 1)) fun v148 =>
sld xs L (x1 + (iI 2)) fun v149 =>
cal2 (f_X11_fits h147 v148 v149) fun v150 h151 =>
if v146 = v150 then (K6 h151)
else (some (iI 0)))
else if (v4 &&& (iI 63)) = iI 19 then (sld xs L (x1 + (iI 1)) fun v152 =>
sld xs L (x1 + (iI 2)) fun v153 =>
sld xs L (x1 + (iI 3)) fun v154 =>
cal2 (f_X10_tells h2 v152 v153 v154) fun v155 h156 =>
sld xs L (x1 + (iI 1)) fun v157 =>
sld xs L (x1 + (iI 2)) fun v158 =>
sld xs L (x1 + (iI 3)) fun v159 =>
cal2 (f_X11_tells h156 v157 v158 v159) fun v160 h161 =>
if v155 = v160 then (K6 h161)
else (some (iI 0)))
else if (v4 &&& (iI 63)) = iI 20 then (sld xs L (x1 + (iI 1)) fun v162 =>
cal2 (f_X10_longest h2 v162) fun v163 h164 =>
sld xs L (x1 + (iI 1)) fun v165 =>
cal2 (f_X11_longest h164 v165) fun v166 h167 =>
if v163 = v166 then (K6 h167)
else (some (iI 0)))
else if (v4 &&& (iI 63)) = iI 21 then (sld xs L (x1 + (iI 1)) fun v168 =>
cal2 (f_X10_days h2 v168) fun v169 h170 =>
sld xs L (x1 + (iI 1)) fun v171 =>
cal2 (f_X11_days h170 v171) fun v172 h173 =>
if v169 = v172 then (K6 h173)
else (some (iI 0)))
else if (v4 &&& (iI 63)) = iI 22 then (sld xs L (x1 + (iI 1)) fun v174 =>
cal2 (f_X10_seed h2 v174) fun v175 h176 =>
sld xs L (x1 + (iI 1)) fun v177 =>
cal2 (f_X11_seed h176 v177) fun v178 h179 =>
if v175 = v178 then (K6 h179)
else (some (iI 0)))
else if (v4 &&& (iI 63)) = iI 23 then (sld xs L (x1 + (iI 1)) fun v180 =>
sld xs L (x1 + (iI 2)) fun v181 =>
sld xs L (x1 + (iI 3)) fun v182 =>
cal2 (f_X10_voice h2 v180 v181 v182) fun v183 h184 =>
sld xs L (x1 + (iI 1)) fun v185 =>
sld xs L (x1 + (iI 2)) fun v186 =>
sld xs L (x1 + (iI 3)) fun v187 =>
cal2 (f_X11_voice h184 v185 v186 v187) fun v188 h189 =>
if v183 = v188 then (K6 h189)
else (some (iI 0)))
else if (v4 &&& (iI 63)) = iI 24 then (sld xs L (x1 + (iI 1)) fun v190 =>
cal2 (f_X10_trace h2 v190) fun v191 h192 =>
sld xs L (x1 + (iI 1)) fun v193 =>
cal2 (f_X11_trace h192 v193) fun v194 h195 =>
if v191 = v194 then (K6 h195)
else (some (iI 0)))
else if (v4 &&& (iI 63)) = iI 25 then (sld xs L (x1 + (iI 1)) fun v196 =>
sld xs L (x1 + (iI 2)) fun v197 =>
sld xs L (x1 + (iI 3)) fun v198 =>
cal2 (f_X10_sheet h2 v196 v197 v198) fun v199 h200 =>
sld xs L (x1 + (iI 1)) fun v201 =>
sld xs L (x1 + (iI 2)) fun v202 =>
sld xs L (x1 + (iI 3)) fun v203 =>
cal2 (f_X11_sheet h200 v201 v202 v203) fun v204 h205 =>
if v199 = v204 then (K6 h205)
else (some (iI 0)))
else if (v4 &&& (iI 63)) = iI 26 then (sld xs L (x1 + (iI 1)) fun v206 =>
sld xs L (x1 + (iI 2)) fun v207 =>
sld xs L (x1 + (iI 3)) fun v208 =>
cal2 (f_X10_put h2 v206 v207 v208) fun v209 h210 =>
sld xs L (x1 + (iI 1)) fun v211 =>
sld xs L (x1 + (iI 2)) fun v212 =>
sld xs L (x1 + (iI 3)) fun v213 =>
cal2 (f_X11_put h210 v211 v212 v213) fun v214 h215 =>
if v209 = v214 then (K6 h215)
else (some (iI 0)))
else if (v4 &&& (iI 63)) = iI 27 then (sld xs L (x1 + (iI 1)) fun v216 =>
sld xs L (x1 + (iI 2)) fun v217 =>
sld xs L (x1 + (iI 3)) fun v218 =>
sld xs L (x1 + (iI 4)) fun v219 =>
sld xs L (x1 + (iI 5)) fun v220 =>
cal2 (f_X10_move h2 v216 v217 v218 v219 v220) fun v221 h222 =>
sld xs L (x1 + (iI 1)) fun v223 =>
sld xs L (x1 + (iI 2)) fun v224 =>
sld xs L (x1 + (iI 3)) fun v225 =>
sld xs L (x1 + (iI 4)) fun v226 =>
sld xs L (x1 + (iI 5)) fun v227 =>
cal2 (f_X11_move h222 v223 v224 v225 v226 v227) fun v228 h229 =>
if v221 = v228 then (K6 h229)
else (some (iI 0)))
else if (v4 &&& (iI 63)) = iI 28 then (sld xs L (x1 + (iI 1)) fun v230 =>
cal2 (f_X10_lets h2 v230) fun v231 h232 =>
sld xs L (x1 + (iI 1)) fun v233 =>
cal2 (f_X11_lets h232 v233) fun v234 h235 =>
if v231 = v234 then (K6 h235)
else (some (iI 0)))
else if (v4 &&& (iI 63)) = iI 29 then (sld xs L (x1 + (iI 1)) fun v236 =>
cal2 (f_X10_judge h2 v236) fun v237 h238 =>
sld xs L (x1 + (iI 1)) fun v239 =>
cal2 (f_X11_judge h238 v239) fun v240 h241 =>
if v237 = v240 then (K6 h241)
else (some (iI 0)))
else if (v4 &&& (iI 63)) = iI 30 then (cal2 (f_X10_image h2) fun v242 h243 =>
cal2 (f_X11_image h243) fun v244 h245 =>
if v242 = v244 then (K6 h245)
else (some (iI 0)))
else if (v4 &&& (iI 63)) = iI 31 then (cal2 (f_X10_restore h2) fun v246 h247 =>
cal2 (f_X11_restore h247) fun v248 h249 =>
if v246 = v248 then (K6 h249)
else (some (iI 0)))
else if (v4 &&& (iI 63)) = iI 32 then (sld xs L (x1 + (iI 1)) fun v250 =>
cal2 (f_X10_tell h2 v250) fun v251 h252 =>
sld xs L (x1 + (iI 1)) fun v253 =>
cal2 (f_X11_tell h252 v253) fun v254 h255 =>
if v251 = v254 then (K6 h255)
else (some (iI 0)))
else if (v4 &&& (iI 63)) = iI 33 then (cal2 (f_X10_check h2) fun v256 h257 =>
cal2 (f_X11_check h257) fun v258 h259 =>
if v256 = v258 then (K6 h259)
else (some (iI 0)))
else if (v4 &&& (iI 63)) = iI 34 then (sld xs L (x1 + (iI 1)) fun v260 =>
cal2 (f_X10_count h2 v260) fun v261 h262 =>
sld xs L (x1 + (iI 1)) fun v263 =>
cal2 (f_X11_count h262 v263) fun v264 h265 =>
if v261 = v264 then (K6 h265)
else (some (iI 0)))
else if (v4 &&& (iI 63)) = iI 35 then (sld xs L (x1 + (iI 1)) fun v266 =>
cal2 (f_X10_told h2 v266) fun v267 h268 =>
sld xs L (x1 + (iI 1)) fun v269 =>
cal2 (f_X11_told h268 v269) fun v270 h271 =>
if v267 = v270 then (K6 h271)
else (some (iI 0)))
else (K6 h2))

/-- the law, from its loop on, in a memory that both constructors have left -/
def f_law (xs : Nat → Int32) (L : Nat) (h : Mem) : Option Int32 :=
lo2 (f_law_k3 L xs) 1000000 (iI 0) h
