/-! walks, written by a program -/
def gL_law_L18  (a1 : Nat) (a2 : Nat) : Nat → Int32 → gH → Option (Int32 × gH)
  | 0, _, _ => none
  | n + 1, x3, s0 =>
    (gXn s0).bind fun v10 =>
    if v10 - 6 < x3 then
      some (1, s0)
    else
      (gXl s0 x3).bind fun v12 =>
      if v12 &&& 31 = 0 then
        (gXl s0 (x3 + 1)).bind fun v14 =>
        (gXl s0 (x3 + 2)).bind fun v15 =>
        (gXl s0 (x3 + 3)).bind fun v16 =>
        (gXl s0 (x3 + 4)).bind fun v17 =>
        (gXl s0 (x3 + 5)).bind fun v18 =>
        gb2 (gcv s0 a1 11 (fX11_feed a1 v14 v15 v16 v17 v18 s0)) fun r19 s20 =>
        (gXl s20 (x3 + 1)).bind fun v21 =>
        (gXl s20 (x3 + 2)).bind fun v22 =>
        (gXl s20 (x3 + 3)).bind fun v23 =>
        (gXl s20 (x3 + 4)).bind fun v24 =>
        (gXl s20 (x3 + 5)).bind fun v25 =>
        gb2 (gcv s20 a2 12 (fX12_feed a2 v21 v22 v23 v24 v25 s20)) fun r26 s27 =>
        if r19 = r26 then
          gL_law_L18 a1 a2 n (x3 + 6) s27
        else
          some (0, s27)
      else
        if v12 &&& 31 = 1 then
          (gXl s0 (x3 + 1)).bind fun v30 =>
          gb2 (gcv s0 a1 11 (fX11_end a1 v30 s0)) fun r31 s32 =>
          (gXl s32 (x3 + 1)).bind fun v33 =>
          gb2 (gcv s32 a2 12 (fX12_end a2 v33 s32)) fun r34 s35 =>
          if r31 = r34 then
            gL_law_L18 a1 a2 n (x3 + 6) s35
          else
            some (0, s35)
        else
          if v12 &&& 31 = 2 then
            gb2 (gcv s0 a1 11 (fX11_book a1 s0)) fun r38 s39 =>
            gb2 (gcv s39 a2 12 (fX12_book a2 s39)) fun r40 s41 =>
            if r38 = r40 then
              gL_law_L18 a1 a2 n (x3 + 6) s41
            else
              some (0, s41)
          else
            if v12 &&& 31 = 3 then
              (gXl s0 (x3 + 1)).bind fun v44 =>
              gb2 (gcv s0 a1 11 (fX11_fault a1 v44 s0)) fun r45 s46 =>
              (gXl s46 (x3 + 1)).bind fun v47 =>
              gb2 (gcv s46 a2 12 (fX12_fault a2 v47 s46)) fun r48 s49 =>
              if r45 = r48 then
                gL_law_L18 a1 a2 n (x3 + 6) s49
              else
                some (0, s49)
            else
              if v12 &&& 31 = 4 then
                (gXl s0 (x3 + 1)).bind fun v52 =>
                gb2 (gcv s0 a1 11 (fX11_has a1 v52 s0)) fun r53 s54 =>
                (gXl s54 (x3 + 1)).bind fun v55 =>
                gb2 (gcv s54 a2 12 (fX12_has a2 v55 s54)) fun r56 s57 =>
                if r53 = r56 then
                  gL_law_L18 a1 a2 n (x3 + 6) s57
                else
                  some (0, s57)
              else
                if v12 &&& 31 = 5 then
                  (gXl s0 (x3 + 1)).bind fun v60 =>
                  (gXl s0 (x3 + 2)).bind fun v61 =>
                  gb2 (gcv s0 a1 11 (fX11_letter a1 v60 v61 s0)) fun r62 s63 =>
                  (gXl s63 (x3 + 1)).bind fun v64 =>
                  (gXl s63 (x3 + 2)).bind fun v65 =>
                  gb2 (gcv s63 a2 12 (fX12_letter a2 v64 v65 s63)) fun r66 s67 =>
                  if r62 = r66 then
                    gL_law_L18 a1 a2 n (x3 + 6) s67
                  else
                    some (0, s67)
                else
                  if v12 &&& 31 = 6 then
                    (gXl s0 (x3 + 1)).bind fun v70 =>
                    (gXl s0 (x3 + 2)).bind fun v71 =>
                    gb2 (gcv s0 a1 11 (fX11_rule a1 v70 v71 s0)) fun r72 s73 =>
                    (gXl s73 (x3 + 1)).bind fun v74 =>
                    (gXl s73 (x3 + 2)).bind fun v75 =>
                    gb2 (gcv s73 a2 12 (fX12_rule a2 v74 v75 s73)) fun r76 s77 =>
                    if r72 = r76 then
                      gL_law_L18 a1 a2 n (x3 + 6) s77
                    else
                      some (0, s77)
                  else
                    if v12 &&& 31 = 7 then
                      (gXl s0 (x3 + 1)).bind fun v80 =>
                      (gXl s0 (x3 + 2)).bind fun v81 =>
                      (gXl s0 (x3 + 3)).bind fun v82 =>
                      gb2 (gcv s0 a1 11 (fX11_day a1 v80 v81 v82 s0)) fun r83 s84 =>
                      (gXl s84 (x3 + 1)).bind fun v85 =>
                      (gXl s84 (x3 + 2)).bind fun v86 =>
                      (gXl s84 (x3 + 3)).bind fun v87 =>
                      gb2 (gcv s84 a2 12 (fX12_day a2 v85 v86 v87 s84)) fun r88 s89 =>
                      if r83 = r88 then
                        gL_law_L18 a1 a2 n (x3 + 6) s89
                      else
                        some (0, s89)
                    else
                      if v12 &&& 31 = 8 then
                        (gXl s0 (x3 + 1)).bind fun v92 =>
                        (gXl s0 (x3 + 2)).bind fun v93 =>
                        gb2 (gcv s0 a1 11 (fX11_date a1 v92 v93 s0)) fun r94 s95 =>
                        (gXl s95 (x3 + 1)).bind fun v96 =>
                        (gXl s95 (x3 + 2)).bind fun v97 =>
                        gb2 (gcv s95 a2 12 (fX12_date_ a2 v96 v97 s95)) fun r98 s99 =>
                        if r94 = r98 then
                          gL_law_L18 a1 a2 n (x3 + 6) s99
                        else
                          some (0, s99)
                      else
                        if v12 &&& 31 = 9 then
                          (gXl s0 (x3 + 1)).bind fun v102 =>
                          (gXl s0 (x3 + 2)).bind fun v103 =>
                          gb2 (gcv s0 a1 11 (fX11_on a1 v102 v103 s0)) fun r104 s105 =>
                          (gXl s105 (x3 + 1)).bind fun v106 =>
                          (gXl s105 (x3 + 2)).bind fun v107 =>
                          gb2 (gcv s105 a2 12 (fX12_on a2 v106 v107 s105)) fun r108 s109 =>
                          if r104 = r108 then
                            gL_law_L18 a1 a2 n (x3 + 6) s109
                          else
                            some (0, s109)
                        else
                          if v12 &&& 31 = 10 then
                            (gXl s0 (x3 + 1)).bind fun v112 =>
                            (gXl s0 (x3 + 2)).bind fun v113 =>
                            gb2 (gcv s0 a1 11 (fX11_next a1 v112 v113 s0)) fun r114 s115 =>
                            (gXl s115 (x3 + 1)).bind fun v116 =>
                            (gXl s115 (x3 + 2)).bind fun v117 =>
                            gb2 (gcv s115 a2 12 (fX12_next a2 v116 v117 s115)) fun r118 s119 =>
                            if r114 = r118 then
                              gL_law_L18 a1 a2 n (x3 + 6) s119
                            else
                              some (0, s119)
                          else
                            if v12 &&& 31 = 11 then
                              (gXl s0 (x3 + 1)).bind fun v122 =>
                              (gXl s0 (x3 + 2)).bind fun v123 =>
                              gb2 (gcv s0 a1 11 (fX11_ahead a1 v122 v123 s0)) fun r124 s125 =>
                              (gXl s125 (x3 + 1)).bind fun v126 =>
                              (gXl s125 (x3 + 2)).bind fun v127 =>
                              gb2 (gcv s125 a2 12 (fX12_ahead a2 v126 v127 s125)) fun r128 s129 =>
                              if r124 = r128 then
                                gL_law_L18 a1 a2 n (x3 + 6) s129
                              else
                                some (0, s129)
                            else
                              if v12 &&& 31 = 12 then
                                (gXl s0 (x3 + 1)).bind fun v132 =>
                                (gXl s0 (x3 + 2)).bind fun v133 =>
                                gb2 (gcv s0 a1 11 (fX11_nth a1 v132 v133 s0)) fun r134 s135 =>
                                (gXl s135 (x3 + 1)).bind fun v136 =>
                                (gXl s135 (x3 + 2)).bind fun v137 =>
                                gb2 (gcv s135 a2 12 (fX12_nth a2 v136 v137 s135)) fun r138 s139 =>
                                if r134 = r138 then
                                  gL_law_L18 a1 a2 n (x3 + 6) s139
                                else
                                  some (0, s139)
                              else
                                if v12 &&& 31 = 13 then
                                  (gXl s0 (x3 + 1)).bind fun v142 =>
                                  (gXl s0 (x3 + 2)).bind fun v143 =>
                                  (gXl s0 (x3 + 3)).bind fun v144 =>
                                  gb2 (gcv s0 a1 11 (fX11_many a1 v142 v143 v144 s0)) fun r145 s146 =>
                                  (gXl s146 (x3 + 1)).bind fun v147 =>
                                  (gXl s146 (x3 + 2)).bind fun v148 =>
                                  (gXl s146 (x3 + 3)).bind fun v149 =>
                                  gb2 (gcv s146 a2 12 (fX12_many a2 v147 v148 v149 s146)) fun r150 s151 =>
                                  if r145 = r150 then
                                    gL_law_L18 a1 a2 n (x3 + 6) s151
                                  else
                                    some (0, s151)
                                else
                                  if v12 &&& 31 = 14 then
                                    (gXl s0 (x3 + 1)).bind fun v154 =>
                                    (gXl s0 (x3 + 2)).bind fun v155 =>
                                    gb2 (gcv s0 a1 11 (fX11_gap a1 v154 v155 s0)) fun r156 s157 =>
                                    (gXl s157 (x3 + 1)).bind fun v158 =>
                                    (gXl s157 (x3 + 2)).bind fun v159 =>
                                    gb2 (gcv s157 a2 12 (fX12_gap a2 v158 v159 s157)) fun r160 s161 =>
                                    if r156 = r160 then
                                      gL_law_L18 a1 a2 n (x3 + 6) s161
                                    else
                                      some (0, s161)
                                  else
                                    if v12 &&& 31 = 15 then
                                      (gXl s0 (x3 + 1)).bind fun v164 =>
                                      (gXl s0 (x3 + 2)).bind fun v165 =>
                                      (gXl s0 (x3 + 3)).bind fun v166 =>
                                      gb2 (gcv s0 a1 11 (fX11_free a1 v164 v165 v166 s0)) fun r167 s168 =>
                                      (gXl s168 (x3 + 1)).bind fun v169 =>
                                      (gXl s168 (x3 + 2)).bind fun v170 =>
                                      (gXl s168 (x3 + 3)).bind fun v171 =>
                                      gb2 (gcv s168 a2 12 (fX12_free a2 v169 v170 v171 s168)) fun r172 s173 =>
                                      if r167 = r172 then
                                        gL_law_L18 a1 a2 n (x3 + 6) s173
                                      else
                                        some (0, s173)
                                    else
                                      if v12 &&& 31 = 16 then
                                        (gXl s0 (x3 + 1)).bind fun v176 =>
                                        (gXl s0 (x3 + 2)).bind fun v177 =>
                                        (gXl s0 (x3 + 3)).bind fun v178 =>
                                        (gXl s0 (x3 + 4)).bind fun v179 =>
                                        gb2 (gcv s0 a1 11 (fX11_meet a1 v176 v177 v178 v179 s0)) fun r180 s181 =>
                                        (gXl s181 (x3 + 1)).bind fun v182 =>
                                        (gXl s181 (x3 + 2)).bind fun v183 =>
                                        (gXl s181 (x3 + 3)).bind fun v184 =>
                                        (gXl s181 (x3 + 4)).bind fun v185 =>
                                        gb2 (gcv s181 a2 12 (fX12_meet a2 v182 v183 v184 v185 s181)) fun r186 s187 =>
                                        if r180 = r186 then
                                          gL_law_L18 a1 a2 n (x3 + 6) s187
                                        else
                                          some (0, s187)
                                      else
                                        if v12 &&& 31 = 17 then
                                          (gXl s0 (x3 + 1)).bind fun v190 =>
                                          (gXl s0 (x3 + 2)).bind fun v191 =>
                                          gb2 (gcv s0 a1 11 (fX11_fares a1 v190 v191 s0)) fun r192 s193 =>
                                          (gXl s193 (x3 + 1)).bind fun v194 =>
                                          (gXl s193 (x3 + 2)).bind fun v195 =>
                                          gb2 (gcv s193 a2 12 (fX12_fares a2 v194 v195 s193)) fun r196 s197 =>
                                          if r192 = r196 then
                                            gL_law_L18 a1 a2 n (x3 + 6) s197
                                          else
                                            some (0, s197)
                                        else
                                          if v12 &&& 31 = 18 then
                                            (gXl s0 (x3 + 1)).bind fun v200 =>
                                            (gXl s0 (x3 + 2)).bind fun v201 =>
                                            (gXl s0 (x3 + 3)).bind fun v202 =>
                                            gb2 (gcv s0 a1 11 (fX11_period a1 v200 v201 v202 s0)) fun r203 s204 =>
                                            (gXl s204 (x3 + 1)).bind fun v205 =>
                                            (gXl s204 (x3 + 2)).bind fun v206 =>
                                            (gXl s204 (x3 + 3)).bind fun v207 =>
                                            gb2 (gcv s204 a2 12 (fX12_period a2 v205 v206 v207 s204)) fun r208 s209 =>
                                            if r203 = r208 then
                                              gL_law_L18 a1 a2 n (x3 + 6) s209
                                            else
                                              some (0, s209)
                                          else
                                            if v12 &&& 31 = 19 then
                                              (gXl s0 (x3 + 1)).bind fun v212 =>
                                              gb2 (gcv s0 a1 11 (fX11_sum a1 v212 s0)) fun r213 s214 =>
                                              (gXl s214 (x3 + 1)).bind fun v215 =>
                                              gb2 (gcv s214 a2 12 (fX12_sum a2 v215 s214)) fun r216 s217 =>
                                              if r213 = r216 then
                                                gL_law_L18 a1 a2 n (x3 + 6) s217
                                              else
                                                some (0, s217)
                                            else
                                              if v12 &&& 31 = 20 then
                                                (gXl s0 (x3 + 1)).bind fun v220 =>
                                                gb2 (gcv s0 a1 11 (fX11_see a1 v220 s0)) fun r221 s222 =>
                                                (gXl s222 (x3 + 1)).bind fun v223 =>
                                                gb2 (gcv s222 a2 12 (fX12_see a2 v223 s222)) fun r224 s225 =>
                                                if r221 = r224 then
                                                  gL_law_L18 a1 a2 n (x3 + 6) s225
                                                else
                                                  some (0, s225)
                                              else
                                                if v12 &&& 31 = 21 then
                                                  (gXl s0 (x3 + 1)).bind fun v228 =>
                                                  gb2 (gcv s0 a1 11 (fX11_fits a1 v228 s0)) fun r229 s230 =>
                                                  (gXl s230 (x3 + 1)).bind fun v231 =>
                                                  gb2 (gcv s230 a2 12 (fX12_fits a2 v231 s230)) fun r232 s233 =>
                                                  if r229 = r232 then
                                                    gL_law_L18 a1 a2 n (x3 + 6) s233
                                                  else
                                                    some (0, s233)
                                                else
                                                  if v12 &&& 31 = 22 then
                                                    (gXl s0 (x3 + 1)).bind fun v236 =>
                                                    gb2 (gcv s0 a1 11 (fX11_tells a1 v236 s0)) fun r237 s238 =>
                                                    (gXl s238 (x3 + 1)).bind fun v239 =>
                                                    gb2 (gcv s238 a2 12 (fX12_tells a2 v239 s238)) fun r240 s241 =>
                                                    if r237 = r240 then
                                                      gL_law_L18 a1 a2 n (x3 + 6) s241
                                                    else
                                                      some (0, s241)
                                                  else
                                                    if v12 &&& 31 = 23 then
                                                      (gXl s0 (x3 + 1)).bind fun v244 =>
                                                      (gXl s0 (x3 + 2)).bind fun v245 =>
                                                      gb2 (gcv s0 a1 11 (fX11_add a1 v244 v245 s0)) fun r246 s247 =>
                                                      (gXl s247 (x3 + 1)).bind fun v248 =>
                                                      (gXl s247 (x3 + 2)).bind fun v249 =>
                                                      gb2 (gcv s247 a2 12 (fX12_add a2 v248 v249 s247)) fun r250 s251 =>
                                                      if r246 = r250 then
                                                        gL_law_L18 a1 a2 n (x3 + 6) s251
                                                      else
                                                        some (0, s251)
                                                    else
                                                      if v12 &&& 31 = 24 then
                                                        (gXl s0 (x3 + 1)).bind fun v254 =>
                                                        (gXl s0 (x3 + 2)).bind fun v255 =>
                                                        gb2 (gcv s0 a1 11 (fX11_leave a1 v254 v255 s0)) fun r256 s257 =>
                                                        (gXl s257 (x3 + 1)).bind fun v258 =>
                                                        (gXl s257 (x3 + 2)).bind fun v259 =>
                                                        gb2 (gcv s257 a2 12 (fX12_leave a2 v258 v259 s257)) fun r260 s261 =>
                                                        if r256 = r260 then
                                                          gL_law_L18 a1 a2 n (x3 + 6) s261
                                                        else
                                                          some (0, s261)
                                                      else
                                                        if v12 &&& 31 = 25 then
                                                          (gXl s0 (x3 + 1)).bind fun v264 =>
                                                          (gXl s0 (x3 + 2)).bind fun v265 =>
                                                          gb2 (gcv s0 a1 11 (fX11_every a1 v264 v265 s0)) fun r266 s267 =>
                                                          (gXl s267 (x3 + 1)).bind fun v268 =>
                                                          (gXl s267 (x3 + 2)).bind fun v269 =>
                                                          gb2 (gcv s267 a2 12 (fX12_every a2 v268 v269 s267)) fun r270 s271 =>
                                                          if r266 = r270 then
                                                            gL_law_L18 a1 a2 n (x3 + 6) s271
                                                          else
                                                            some (0, s271)
                                                        else
                                                          if v12 &&& 31 = 26 then
                                                            (gXl s0 (x3 + 1)).bind fun v274 =>
                                                            (gXl s0 (x3 + 2)).bind fun v275 =>
                                                            gb2 (gcv s0 a1 11 (fX11_from a1 v274 v275 s0)) fun r276 s277 =>
                                                            (gXl s277 (x3 + 1)).bind fun v278 =>
                                                            (gXl s277 (x3 + 2)).bind fun v279 =>
                                                            gb2 (gcv s277 a2 12 (fX12_from a2 v278 v279 s277)) fun r280 s281 =>
                                                            if r276 = r280 then
                                                              gL_law_L18 a1 a2 n (x3 + 6) s281
                                                            else
                                                              some (0, s281)
                                                          else
                                                            if v12 &&& 31 = 27 then
                                                              (gXl s0 (x3 + 1)).bind fun v284 =>
                                                              gb2 (gcv s0 a1 11 (fX11_chance a1 v284 s0)) fun r285 s286 =>
                                                              (gXl s286 (x3 + 1)).bind fun v287 =>
                                                              gb2 (gcv s286 a2 12 (fX12_chance a2 v287 s286)) fun r288 s289 =>
                                                              if r285 = r288 then
                                                                gL_law_L18 a1 a2 n (x3 + 6) s289
                                                              else
                                                                some (0, s289)
                                                            else
                                                              if v12 &&& 31 = 28 then
                                                                gb2 (gcv s0 a1 11 (fX11_undo a1 s0)) fun r292 s293 =>
                                                                gb2 (gcv s293 a2 12 (fX12_undo a2 s293)) fun r294 s295 =>
                                                                if r292 = r294 then
                                                                  gL_law_L18 a1 a2 n (x3 + 6) s295
                                                                else
                                                                  some (0, s295)
                                                              else
                                                                if v12 &&& 31 = 29 then
                                                                  (gXl s0 (x3 + 1)).bind fun v298 =>
                                                                  gb2 (gcv s0 a1 11 (fX11_seed a1 v298 s0)) fun r299 s300 =>
                                                                  (gXl s300 (x3 + 1)).bind fun v301 =>
                                                                  gb2 (gcv s300 a2 12 (fX12_seed a2 v301 s300)) fun r302 s303 =>
                                                                  if r299 = r302 then
                                                                    gL_law_L18 a1 a2 n (x3 + 6) s303
                                                                  else
                                                                    some (0, s303)
                                                                else
                                                                  if v12 &&& 31 = 30 then
                                                                    (gXl s0 (x3 + 1)).bind fun v306 =>
                                                                    gb2 (gcv s0 a1 11 (fX11_status a1 v306 s0)) fun r307 s308 =>
                                                                    (gXl s308 (x3 + 1)).bind fun v309 =>
                                                                    gb2 (gcv s308 a2 12 (fX12_status a2 v309 s308)) fun r310 s311 =>
                                                                    if r307 = r310 then
                                                                      gL_law_L18 a1 a2 n (x3 + 6) s311
                                                                    else
                                                                      some (0, s311)
                                                                  else
                                                                    gL_law_L18 a1 a2 n (x3 + 6) s0
set_option maxRecDepth 100000 in
set_option maxHeartbeats 4000000 in
theorem wL_law_L18 {X : Nat × (Nat → Int32)} {d : Nat} (hd : 47 ≤ d)  (a1 : Nat) (a2 : Nat) : ∀ (n : Nat) (x3 : Int32) (s0 : gH), gGo X rvI mL_law d 18 [(0, vr 1), (1, vr a1), (2, vr a2), (3, vi x3)] [] s0 (gL_law_L18 a1 a2 n x3 s0) := by
  intro n
  induction n with
  | zero => intros; exact go_none
  | succ n ih =>
    intro x3 s0
    show gGo _ _ _ _ _ _ _ _ (gL_law_L18 a1 a2 (n + 1) x3 s0)
    unfold gL_law_L18
    refine go_iload_n 3 dL_law_18 rfl rfl ?_
    refine go_aload_n 0 dL_law_19 rfl rfl ?_
    refine go_slen dL_law_20 (fun v10 _ => ?_)
    refine go_bipush (v := 6) dL_law_21 (by decide) ?_
    refine go_isub dL_law_23 ?_
    refine go_icmp_gt (tgt := 1151) dL_law_24 (by decide) (fun h11 => ?_) (fun h11 => ?_)
    · refine go_iconst (v := 1) dL_law_1151 (by decide) ?_
      exact go_ret rfl dL_law_1152
    · refine go_aload_n 0 dL_law_27 rfl rfl ?_
      refine go_iload_n 3 dL_law_28 rfl rfl ?_
      refine go_sld dL_law_29 (fun v12 _ => ?_)
      refine go_bipush (v := 31) dL_law_30 (by decide) ?_
      refine go_iand dL_law_32 ?_
      refine go_ite (fun h13 => ?_) (fun h13 => ?_)
      · refine go_tsIn (v := 0) (off := 139) (tgt := 172) dL_law_33 h13 (by decide) (by decide) (by decide) (by decide) ?_
        refine go_aload_n 1 dL_law_172 rfl rfl ?_
        refine go_aload_n 0 dL_law_173 rfl rfl ?_
        refine go_iload_n 3 dL_law_174 rfl rfl ?_
        refine go_iconst (v := 1) dL_law_175 (by decide) ?_
        refine go_iadd dL_law_176 ?_
        refine go_sld dL_law_177 (fun v14 _ => ?_)
        refine go_aload_n 0 dL_law_178 rfl rfl ?_
        refine go_iload_n 3 dL_law_179 rfl rfl ?_
        refine go_iconst (v := 2) dL_law_180 (by decide) ?_
        refine go_iadd dL_law_181 ?_
        refine go_sld dL_law_182 (fun v15 _ => ?_)
        refine go_aload_n 0 dL_law_183 rfl rfl ?_
        refine go_iload_n 3 dL_law_184 rfl rfl ?_
        refine go_iconst (v := 3) dL_law_185 (by decide) ?_
        refine go_iadd dL_law_186 ?_
        refine go_sld dL_law_187 (fun v16 _ => ?_)
        refine go_aload_n 0 dL_law_188 rfl rfl ?_
        refine go_iload_n 3 dL_law_189 rfl rfl ?_
        refine go_iconst (v := 4) dL_law_190 (by decide) ?_
        refine go_iadd dL_law_191 ?_
        refine go_sld dL_law_192 (fun v17 _ => ?_)
        refine go_aload_n 0 dL_law_193 rfl rfl ?_
        refine go_iload_n 3 dL_law_194 rfl rfl ?_
        refine go_iconst (v := 5) dL_law_195 (by decide) ?_
        refine go_iadd dL_law_196 ?_
        refine go_sld dL_law_197 (fun v18 _ => ?_)
        refine go_callV_I (as := [vi v14, vi v15, vi v16, vi v17, vi v18]) gk_RL_13 gmf_X11_feed (by decide) rfl (by omega) rfl rfl (Nat.le_of_ble_eq_true rfl) dL_law_198 (fun _ _ h => cX11_feed_c (by omega) h) (fun r19 s20 _ => ?_)
        refine go_aload_n 2 dL_law_201 rfl rfl ?_
        refine go_aload_n 0 dL_law_202 rfl rfl ?_
        refine go_iload_n 3 dL_law_203 rfl rfl ?_
        refine go_iconst (v := 1) dL_law_204 (by decide) ?_
        refine go_iadd dL_law_205 ?_
        refine go_sld dL_law_206 (fun v21 _ => ?_)
        refine go_aload_n 0 dL_law_207 rfl rfl ?_
        refine go_iload_n 3 dL_law_208 rfl rfl ?_
        refine go_iconst (v := 2) dL_law_209 (by decide) ?_
        refine go_iadd dL_law_210 ?_
        refine go_sld dL_law_211 (fun v22 _ => ?_)
        refine go_aload_n 0 dL_law_212 rfl rfl ?_
        refine go_iload_n 3 dL_law_213 rfl rfl ?_
        refine go_iconst (v := 3) dL_law_214 (by decide) ?_
        refine go_iadd dL_law_215 ?_
        refine go_sld dL_law_216 (fun v23 _ => ?_)
        refine go_aload_n 0 dL_law_217 rfl rfl ?_
        refine go_iload_n 3 dL_law_218 rfl rfl ?_
        refine go_iconst (v := 4) dL_law_219 (by decide) ?_
        refine go_iadd dL_law_220 ?_
        refine go_sld dL_law_221 (fun v24 _ => ?_)
        refine go_aload_n 0 dL_law_222 rfl rfl ?_
        refine go_iload_n 3 dL_law_223 rfl rfl ?_
        refine go_iconst (v := 5) dL_law_224 (by decide) ?_
        refine go_iadd dL_law_225 ?_
        refine go_sld dL_law_226 (fun v25 _ => ?_)
        refine go_callV_I (as := [vi v21, vi v22, vi v23, vi v24, vi v25]) gk_RL_17 gmf_X12_feed (by decide) rfl (by omega) rfl rfl (Nat.le_of_ble_eq_true rfl) dL_law_227 (fun _ _ h => cX12_feed_c (by omega) h) (fun r26 s27 _ => ?_)
        refine go_icmp_eq (tgt := 1145) dL_law_230 (by decide) (fun h28 => ?_) (fun h28 => ?_)
        · refine go_iinc (v := 6) (L' := [(3, vi (x3 + 6)), (0, vr 1), (1, vr a1), (2, vr a2)]) 3 dL_law_1145 rfl (by decide) (by decide) rfl ?_
          refine go_goto (tgt := 18) dL_law_1148 (by decide) ?_
          exact go_sub [1, 2, 3, 0] (ih (x3 + 6) s27) rfl
        · refine go_iconst (v := 0) dL_law_233 (by decide) ?_
          exact go_ret rfl dL_law_234
      · refine go_ite (fun h29 => ?_) (fun h29 => ?_)
        · refine go_tsIn (v := 1) (off := 202) (tgt := 235) dL_law_33 h29 (by decide) (by decide) (by decide) (by decide) ?_
          refine go_aload_n 1 dL_law_235 rfl rfl ?_
          refine go_aload_n 0 dL_law_236 rfl rfl ?_
          refine go_iload_n 3 dL_law_237 rfl rfl ?_
          refine go_iconst (v := 1) dL_law_238 (by decide) ?_
          refine go_iadd dL_law_239 ?_
          refine go_sld dL_law_240 (fun v30 _ => ?_)
          refine go_callV_I (as := [vi v30]) gk_RL_18 gmf_X11_end (by decide) rfl (by omega) rfl rfl (Nat.le_of_ble_eq_true rfl) dL_law_241 (fun _ _ h => cX11_end_c (by omega) h) (fun r31 s32 _ => ?_)
          refine go_aload_n 2 dL_law_244 rfl rfl ?_
          refine go_aload_n 0 dL_law_245 rfl rfl ?_
          refine go_iload_n 3 dL_law_246 rfl rfl ?_
          refine go_iconst (v := 1) dL_law_247 (by decide) ?_
          refine go_iadd dL_law_248 ?_
          refine go_sld dL_law_249 (fun v33 _ => ?_)
          refine go_callV_I (as := [vi v33]) gk_RL_22 gmf_X12_end (by decide) rfl (by omega) rfl rfl (Nat.le_of_ble_eq_true rfl) dL_law_250 (fun _ _ h => cX12_end_c (by omega) h) (fun r34 s35 _ => ?_)
          refine go_icmp_eq (tgt := 1145) dL_law_253 (by decide) (fun h36 => ?_) (fun h36 => ?_)
          · refine go_iinc (v := 6) (L' := [(3, vi (x3 + 6)), (0, vr 1), (1, vr a1), (2, vr a2)]) 3 dL_law_1145 rfl (by decide) (by decide) rfl ?_
            refine go_goto (tgt := 18) dL_law_1148 (by decide) ?_
            exact go_sub [1, 2, 3, 0] (ih (x3 + 6) s35) rfl
          · refine go_iconst (v := 0) dL_law_256 (by decide) ?_
            exact go_ret rfl dL_law_257
        · refine go_ite (fun h37 => ?_) (fun h37 => ?_)
          · refine go_tsIn (v := 2) (off := 225) (tgt := 258) dL_law_33 h37 (by decide) (by decide) (by decide) (by decide) ?_
            refine go_aload_n 1 dL_law_258 rfl rfl ?_
            refine go_callV_I (as := []) gk_RL_23 gmf_X11_book (by decide) rfl (by omega) rfl rfl (Nat.le_of_ble_eq_true rfl) dL_law_259 (fun _ _ h => cX11_book_c (by omega) h) (fun r38 s39 _ => ?_)
            refine go_aload_n 2 dL_law_262 rfl rfl ?_
            refine go_callV_I (as := []) gk_RL_27 gmf_X12_book (by decide) rfl (by omega) rfl rfl (Nat.le_of_ble_eq_true rfl) dL_law_263 (fun _ _ h => cX12_book_c (by omega) h) (fun r40 s41 _ => ?_)
            refine go_icmp_eq (tgt := 1145) dL_law_266 (by decide) (fun h42 => ?_) (fun h42 => ?_)
            · refine go_iinc (v := 6) (L' := [(3, vi (x3 + 6)), (0, vr 1), (1, vr a1), (2, vr a2)]) 3 dL_law_1145 rfl (by decide) (by decide) rfl ?_
              refine go_goto (tgt := 18) dL_law_1148 (by decide) ?_
              exact go_sub [1, 2, 3, 0] (ih (x3 + 6) s41) rfl
            · refine go_iconst (v := 0) dL_law_269 (by decide) ?_
              exact go_ret rfl dL_law_270
          · refine go_ite (fun h43 => ?_) (fun h43 => ?_)
            · refine go_tsIn (v := 3) (off := 238) (tgt := 271) dL_law_33 h43 (by decide) (by decide) (by decide) (by decide) ?_
              refine go_aload_n 1 dL_law_271 rfl rfl ?_
              refine go_aload_n 0 dL_law_272 rfl rfl ?_
              refine go_iload_n 3 dL_law_273 rfl rfl ?_
              refine go_iconst (v := 1) dL_law_274 (by decide) ?_
              refine go_iadd dL_law_275 ?_
              refine go_sld dL_law_276 (fun v44 _ => ?_)
              refine go_callV_I (as := [vi v44]) gk_RL_28 gmf_X11_fault (by decide) rfl (by omega) rfl rfl (Nat.le_of_ble_eq_true rfl) dL_law_277 (fun _ _ h => cX11_fault_c (by omega) h) (fun r45 s46 _ => ?_)
              refine go_aload_n 2 dL_law_280 rfl rfl ?_
              refine go_aload_n 0 dL_law_281 rfl rfl ?_
              refine go_iload_n 3 dL_law_282 rfl rfl ?_
              refine go_iconst (v := 1) dL_law_283 (by decide) ?_
              refine go_iadd dL_law_284 ?_
              refine go_sld dL_law_285 (fun v47 _ => ?_)
              refine go_callV_I (as := [vi v47]) gk_RL_32 gmf_X12_fault (by decide) rfl (by omega) rfl rfl (Nat.le_of_ble_eq_true rfl) dL_law_286 (fun _ _ h => cX12_fault_c (by omega) h) (fun r48 s49 _ => ?_)
              refine go_icmp_eq (tgt := 1145) dL_law_289 (by decide) (fun h50 => ?_) (fun h50 => ?_)
              · refine go_iinc (v := 6) (L' := [(3, vi (x3 + 6)), (0, vr 1), (1, vr a1), (2, vr a2)]) 3 dL_law_1145 rfl (by decide) (by decide) rfl ?_
                refine go_goto (tgt := 18) dL_law_1148 (by decide) ?_
                exact go_sub [1, 2, 3, 0] (ih (x3 + 6) s49) rfl
              · refine go_iconst (v := 0) dL_law_292 (by decide) ?_
                exact go_ret rfl dL_law_293
            · refine go_ite (fun h51 => ?_) (fun h51 => ?_)
              · refine go_tsIn (v := 4) (off := 261) (tgt := 294) dL_law_33 h51 (by decide) (by decide) (by decide) (by decide) ?_
                refine go_aload_n 1 dL_law_294 rfl rfl ?_
                refine go_aload_n 0 dL_law_295 rfl rfl ?_
                refine go_iload_n 3 dL_law_296 rfl rfl ?_
                refine go_iconst (v := 1) dL_law_297 (by decide) ?_
                refine go_iadd dL_law_298 ?_
                refine go_sld dL_law_299 (fun v52 _ => ?_)
                refine go_callV_I (as := [vi v52]) gk_RL_33 gmf_X11_has (by decide) rfl (by omega) rfl rfl (Nat.le_of_ble_eq_true rfl) dL_law_300 (fun _ _ h => cX11_has_c (by omega) h) (fun r53 s54 _ => ?_)
                refine go_aload_n 2 dL_law_303 rfl rfl ?_
                refine go_aload_n 0 dL_law_304 rfl rfl ?_
                refine go_iload_n 3 dL_law_305 rfl rfl ?_
                refine go_iconst (v := 1) dL_law_306 (by decide) ?_
                refine go_iadd dL_law_307 ?_
                refine go_sld dL_law_308 (fun v55 _ => ?_)
                refine go_callV_I (as := [vi v55]) gk_RL_36 gmf_X12_has (by decide) rfl (by omega) rfl rfl (Nat.le_of_ble_eq_true rfl) dL_law_309 (fun _ _ h => cX12_has_c (by omega) h) (fun r56 s57 _ => ?_)
                refine go_icmp_eq (tgt := 1145) dL_law_312 (by decide) (fun h58 => ?_) (fun h58 => ?_)
                · refine go_iinc (v := 6) (L' := [(3, vi (x3 + 6)), (0, vr 1), (1, vr a1), (2, vr a2)]) 3 dL_law_1145 rfl (by decide) (by decide) rfl ?_
                  refine go_goto (tgt := 18) dL_law_1148 (by decide) ?_
                  exact go_sub [1, 2, 3, 0] (ih (x3 + 6) s57) rfl
                · refine go_iconst (v := 0) dL_law_315 (by decide) ?_
                  exact go_ret rfl dL_law_316
              · refine go_ite (fun h59 => ?_) (fun h59 => ?_)
                · refine go_tsIn (v := 5) (off := 284) (tgt := 317) dL_law_33 h59 (by decide) (by decide) (by decide) (by decide) ?_
                  refine go_aload_n 1 dL_law_317 rfl rfl ?_
                  refine go_aload_n 0 dL_law_318 rfl rfl ?_
                  refine go_iload_n 3 dL_law_319 rfl rfl ?_
                  refine go_iconst (v := 1) dL_law_320 (by decide) ?_
                  refine go_iadd dL_law_321 ?_
                  refine go_sld dL_law_322 (fun v60 _ => ?_)
                  refine go_aload_n 0 dL_law_323 rfl rfl ?_
                  refine go_iload_n 3 dL_law_324 rfl rfl ?_
                  refine go_iconst (v := 2) dL_law_325 (by decide) ?_
                  refine go_iadd dL_law_326 ?_
                  refine go_sld dL_law_327 (fun v61 _ => ?_)
                  refine go_callV_I (as := [vi v60, vi v61]) gk_RL_37 gmf_X11_letter (by decide) rfl (by omega) rfl rfl (Nat.le_of_ble_eq_true rfl) dL_law_328 (fun _ _ h => cX11_letter_c (by omega) h) (fun r62 s63 _ => ?_)
                  refine go_aload_n 2 dL_law_331 rfl rfl ?_
                  refine go_aload_n 0 dL_law_332 rfl rfl ?_
                  refine go_iload_n 3 dL_law_333 rfl rfl ?_
                  refine go_iconst (v := 1) dL_law_334 (by decide) ?_
                  refine go_iadd dL_law_335 ?_
                  refine go_sld dL_law_336 (fun v64 _ => ?_)
                  refine go_aload_n 0 dL_law_337 rfl rfl ?_
                  refine go_iload_n 3 dL_law_338 rfl rfl ?_
                  refine go_iconst (v := 2) dL_law_339 (by decide) ?_
                  refine go_iadd dL_law_340 ?_
                  refine go_sld dL_law_341 (fun v65 _ => ?_)
                  refine go_callV_I (as := [vi v64, vi v65]) gk_RL_41 gmf_X12_letter (by decide) rfl (by omega) rfl rfl (Nat.le_of_ble_eq_true rfl) dL_law_342 (fun _ _ h => cX12_letter_c (by omega) h) (fun r66 s67 _ => ?_)
                  refine go_icmp_eq (tgt := 1145) dL_law_345 (by decide) (fun h68 => ?_) (fun h68 => ?_)
                  · refine go_iinc (v := 6) (L' := [(3, vi (x3 + 6)), (0, vr 1), (1, vr a1), (2, vr a2)]) 3 dL_law_1145 rfl (by decide) (by decide) rfl ?_
                    refine go_goto (tgt := 18) dL_law_1148 (by decide) ?_
                    exact go_sub [1, 2, 3, 0] (ih (x3 + 6) s67) rfl
                  · refine go_iconst (v := 0) dL_law_348 (by decide) ?_
                    exact go_ret rfl dL_law_349
                · refine go_ite (fun h69 => ?_) (fun h69 => ?_)
                  · refine go_tsIn (v := 6) (off := 317) (tgt := 350) dL_law_33 h69 (by decide) (by decide) (by decide) (by decide) ?_
                    refine go_aload_n 1 dL_law_350 rfl rfl ?_
                    refine go_aload_n 0 dL_law_351 rfl rfl ?_
                    refine go_iload_n 3 dL_law_352 rfl rfl ?_
                    refine go_iconst (v := 1) dL_law_353 (by decide) ?_
                    refine go_iadd dL_law_354 ?_
                    refine go_sld dL_law_355 (fun v70 _ => ?_)
                    refine go_aload_n 0 dL_law_356 rfl rfl ?_
                    refine go_iload_n 3 dL_law_357 rfl rfl ?_
                    refine go_iconst (v := 2) dL_law_358 (by decide) ?_
                    refine go_iadd dL_law_359 ?_
                    refine go_sld dL_law_360 (fun v71 _ => ?_)
                    refine go_callV_I (as := [vi v70, vi v71]) gk_RL_42 gmf_X11_rule (by decide) rfl (by omega) rfl rfl (Nat.le_of_ble_eq_true rfl) dL_law_361 (fun _ _ h => cX11_rule_c (by omega) h) (fun r72 s73 _ => ?_)
                    refine go_aload_n 2 dL_law_364 rfl rfl ?_
                    refine go_aload_n 0 dL_law_365 rfl rfl ?_
                    refine go_iload_n 3 dL_law_366 rfl rfl ?_
                    refine go_iconst (v := 1) dL_law_367 (by decide) ?_
                    refine go_iadd dL_law_368 ?_
                    refine go_sld dL_law_369 (fun v74 _ => ?_)
                    refine go_aload_n 0 dL_law_370 rfl rfl ?_
                    refine go_iload_n 3 dL_law_371 rfl rfl ?_
                    refine go_iconst (v := 2) dL_law_372 (by decide) ?_
                    refine go_iadd dL_law_373 ?_
                    refine go_sld dL_law_374 (fun v75 _ => ?_)
                    refine go_callV_I (as := [vi v74, vi v75]) gk_RL_45 gmf_X12_rule (by decide) rfl (by omega) rfl rfl (Nat.le_of_ble_eq_true rfl) dL_law_375 (fun _ _ h => cX12_rule_c (by omega) h) (fun r76 s77 _ => ?_)
                    refine go_icmp_eq (tgt := 1145) dL_law_378 (by decide) (fun h78 => ?_) (fun h78 => ?_)
                    · refine go_iinc (v := 6) (L' := [(3, vi (x3 + 6)), (0, vr 1), (1, vr a1), (2, vr a2)]) 3 dL_law_1145 rfl (by decide) (by decide) rfl ?_
                      refine go_goto (tgt := 18) dL_law_1148 (by decide) ?_
                      exact go_sub [1, 2, 3, 0] (ih (x3 + 6) s77) rfl
                    · refine go_iconst (v := 0) dL_law_381 (by decide) ?_
                      exact go_ret rfl dL_law_382
                  · refine go_ite (fun h79 => ?_) (fun h79 => ?_)
                    · refine go_tsIn (v := 7) (off := 350) (tgt := 383) dL_law_33 h79 (by decide) (by decide) (by decide) (by decide) ?_
                      refine go_aload_n 1 dL_law_383 rfl rfl ?_
                      refine go_aload_n 0 dL_law_384 rfl rfl ?_
                      refine go_iload_n 3 dL_law_385 rfl rfl ?_
                      refine go_iconst (v := 1) dL_law_386 (by decide) ?_
                      refine go_iadd dL_law_387 ?_
                      refine go_sld dL_law_388 (fun v80 _ => ?_)
                      refine go_aload_n 0 dL_law_389 rfl rfl ?_
                      refine go_iload_n 3 dL_law_390 rfl rfl ?_
                      refine go_iconst (v := 2) dL_law_391 (by decide) ?_
                      refine go_iadd dL_law_392 ?_
                      refine go_sld dL_law_393 (fun v81 _ => ?_)
                      refine go_aload_n 0 dL_law_394 rfl rfl ?_
                      refine go_iload_n 3 dL_law_395 rfl rfl ?_
                      refine go_iconst (v := 3) dL_law_396 (by decide) ?_
                      refine go_iadd dL_law_397 ?_
                      refine go_sld dL_law_398 (fun v82 _ => ?_)
                      refine go_callV_I (as := [vi v80, vi v81, vi v82]) gk_RL_46 gmf_X11_day (by decide) rfl (by omega) rfl rfl (Nat.le_of_ble_eq_true rfl) dL_law_399 (fun _ _ h => cX11_day_c (by omega) h) (fun r83 s84 _ => ?_)
                      refine go_aload_n 2 dL_law_402 rfl rfl ?_
                      refine go_aload_n 0 dL_law_403 rfl rfl ?_
                      refine go_iload_n 3 dL_law_404 rfl rfl ?_
                      refine go_iconst (v := 1) dL_law_405 (by decide) ?_
                      refine go_iadd dL_law_406 ?_
                      refine go_sld dL_law_407 (fun v85 _ => ?_)
                      refine go_aload_n 0 dL_law_408 rfl rfl ?_
                      refine go_iload_n 3 dL_law_409 rfl rfl ?_
                      refine go_iconst (v := 2) dL_law_410 (by decide) ?_
                      refine go_iadd dL_law_411 ?_
                      refine go_sld dL_law_412 (fun v86 _ => ?_)
                      refine go_aload_n 0 dL_law_413 rfl rfl ?_
                      refine go_iload_n 3 dL_law_414 rfl rfl ?_
                      refine go_iconst (v := 3) dL_law_415 (by decide) ?_
                      refine go_iadd dL_law_416 ?_
                      refine go_sld dL_law_417 (fun v87 _ => ?_)
                      refine go_callV_I (as := [vi v85, vi v86, vi v87]) gk_RL_50 gmf_X12_day (by decide) rfl (by omega) rfl rfl (Nat.le_of_ble_eq_true rfl) dL_law_418 (fun _ _ h => cX12_day_c (by omega) h) (fun r88 s89 _ => ?_)
                      refine go_icmp_eq (tgt := 1145) dL_law_421 (by decide) (fun h90 => ?_) (fun h90 => ?_)
                      · refine go_iinc (v := 6) (L' := [(3, vi (x3 + 6)), (0, vr 1), (1, vr a1), (2, vr a2)]) 3 dL_law_1145 rfl (by decide) (by decide) rfl ?_
                        refine go_goto (tgt := 18) dL_law_1148 (by decide) ?_
                        exact go_sub [1, 2, 3, 0] (ih (x3 + 6) s89) rfl
                      · refine go_iconst (v := 0) dL_law_424 (by decide) ?_
                        exact go_ret rfl dL_law_425
                    · refine go_ite (fun h91 => ?_) (fun h91 => ?_)
                      · refine go_tsIn (v := 8) (off := 393) (tgt := 426) dL_law_33 h91 (by decide) (by decide) (by decide) (by decide) ?_
                        refine go_aload_n 1 dL_law_426 rfl rfl ?_
                        refine go_aload_n 0 dL_law_427 rfl rfl ?_
                        refine go_iload_n 3 dL_law_428 rfl rfl ?_
                        refine go_iconst (v := 1) dL_law_429 (by decide) ?_
                        refine go_iadd dL_law_430 ?_
                        refine go_sld dL_law_431 (fun v92 _ => ?_)
                        refine go_aload_n 0 dL_law_432 rfl rfl ?_
                        refine go_iload_n 3 dL_law_433 rfl rfl ?_
                        refine go_iconst (v := 2) dL_law_434 (by decide) ?_
                        refine go_iadd dL_law_435 ?_
                        refine go_sld dL_law_436 (fun v93 _ => ?_)
                        refine go_callV_I (as := [vi v92, vi v93]) gk_RL_51 gmf_X11_date (by decide) rfl (by omega) rfl rfl (Nat.le_of_ble_eq_true rfl) dL_law_437 (fun _ _ h => cX11_date_c (by omega) h) (fun r94 s95 _ => ?_)
                        refine go_aload_n 2 dL_law_440 rfl rfl ?_
                        refine go_aload_n 0 dL_law_441 rfl rfl ?_
                        refine go_iload_n 3 dL_law_442 rfl rfl ?_
                        refine go_iconst (v := 1) dL_law_443 (by decide) ?_
                        refine go_iadd dL_law_444 ?_
                        refine go_sld dL_law_445 (fun v96 _ => ?_)
                        refine go_aload_n 0 dL_law_446 rfl rfl ?_
                        refine go_iload_n 3 dL_law_447 rfl rfl ?_
                        refine go_iconst (v := 2) dL_law_448 (by decide) ?_
                        refine go_iadd dL_law_449 ?_
                        refine go_sld dL_law_450 (fun v97 _ => ?_)
                        refine go_callV_I (as := [vi v96, vi v97]) gk_RL_54 gmf_X12_date_ (by decide) rfl (by omega) rfl rfl (Nat.le_of_ble_eq_true rfl) dL_law_451 (fun _ _ h => cX12_date__c (by omega) h) (fun r98 s99 _ => ?_)
                        refine go_icmp_eq (tgt := 1145) dL_law_454 (by decide) (fun h100 => ?_) (fun h100 => ?_)
                        · refine go_iinc (v := 6) (L' := [(3, vi (x3 + 6)), (0, vr 1), (1, vr a1), (2, vr a2)]) 3 dL_law_1145 rfl (by decide) (by decide) rfl ?_
                          refine go_goto (tgt := 18) dL_law_1148 (by decide) ?_
                          exact go_sub [1, 2, 3, 0] (ih (x3 + 6) s99) rfl
                        · refine go_iconst (v := 0) dL_law_457 (by decide) ?_
                          exact go_ret rfl dL_law_458
                      · refine go_ite (fun h101 => ?_) (fun h101 => ?_)
                        · refine go_tsIn (v := 9) (off := 426) (tgt := 459) dL_law_33 h101 (by decide) (by decide) (by decide) (by decide) ?_
                          refine go_aload_n 1 dL_law_459 rfl rfl ?_
                          refine go_aload_n 0 dL_law_460 rfl rfl ?_
                          refine go_iload_n 3 dL_law_461 rfl rfl ?_
                          refine go_iconst (v := 1) dL_law_462 (by decide) ?_
                          refine go_iadd dL_law_463 ?_
                          refine go_sld dL_law_464 (fun v102 _ => ?_)
                          refine go_aload_n 0 dL_law_465 rfl rfl ?_
                          refine go_iload_n 3 dL_law_466 rfl rfl ?_
                          refine go_iconst (v := 2) dL_law_467 (by decide) ?_
                          refine go_iadd dL_law_468 ?_
                          refine go_sld dL_law_469 (fun v103 _ => ?_)
                          refine go_callV_I (as := [vi v102, vi v103]) gk_RL_55 gmf_X11_on (by decide) rfl (by omega) rfl rfl (Nat.le_of_ble_eq_true rfl) dL_law_470 (fun _ _ h => cX11_on_c (by omega) h) (fun r104 s105 _ => ?_)
                          refine go_aload_n 2 dL_law_473 rfl rfl ?_
                          refine go_aload_n 0 dL_law_474 rfl rfl ?_
                          refine go_iload_n 3 dL_law_475 rfl rfl ?_
                          refine go_iconst (v := 1) dL_law_476 (by decide) ?_
                          refine go_iadd dL_law_477 ?_
                          refine go_sld dL_law_478 (fun v106 _ => ?_)
                          refine go_aload_n 0 dL_law_479 rfl rfl ?_
                          refine go_iload_n 3 dL_law_480 rfl rfl ?_
                          refine go_iconst (v := 2) dL_law_481 (by decide) ?_
                          refine go_iadd dL_law_482 ?_
                          refine go_sld dL_law_483 (fun v107 _ => ?_)
                          refine go_callV_I (as := [vi v106, vi v107]) gk_RL_58 gmf_X12_on (by decide) rfl (by omega) rfl rfl (Nat.le_of_ble_eq_true rfl) dL_law_484 (fun _ _ h => cX12_on_c (by omega) h) (fun r108 s109 _ => ?_)
                          refine go_icmp_eq (tgt := 1145) dL_law_487 (by decide) (fun h110 => ?_) (fun h110 => ?_)
                          · refine go_iinc (v := 6) (L' := [(3, vi (x3 + 6)), (0, vr 1), (1, vr a1), (2, vr a2)]) 3 dL_law_1145 rfl (by decide) (by decide) rfl ?_
                            refine go_goto (tgt := 18) dL_law_1148 (by decide) ?_
                            exact go_sub [1, 2, 3, 0] (ih (x3 + 6) s109) rfl
                          · refine go_iconst (v := 0) dL_law_490 (by decide) ?_
                            exact go_ret rfl dL_law_491
                        · refine go_ite (fun h111 => ?_) (fun h111 => ?_)
                          · refine go_tsIn (v := 10) (off := 459) (tgt := 492) dL_law_33 h111 (by decide) (by decide) (by decide) (by decide) ?_
                            refine go_aload_n 1 dL_law_492 rfl rfl ?_
                            refine go_aload_n 0 dL_law_493 rfl rfl ?_
                            refine go_iload_n 3 dL_law_494 rfl rfl ?_
                            refine go_iconst (v := 1) dL_law_495 (by decide) ?_
                            refine go_iadd dL_law_496 ?_
                            refine go_sld dL_law_497 (fun v112 _ => ?_)
                            refine go_aload_n 0 dL_law_498 rfl rfl ?_
                            refine go_iload_n 3 dL_law_499 rfl rfl ?_
                            refine go_iconst (v := 2) dL_law_500 (by decide) ?_
                            refine go_iadd dL_law_501 ?_
                            refine go_sld dL_law_502 (fun v113 _ => ?_)
                            refine go_callV_I (as := [vi v112, vi v113]) gk_RL_59 gmf_X11_next (by decide) rfl (by omega) rfl rfl (Nat.le_of_ble_eq_true rfl) dL_law_503 (fun _ _ h => cX11_next_c (by omega) h) (fun r114 s115 _ => ?_)
                            refine go_aload_n 2 dL_law_506 rfl rfl ?_
                            refine go_aload_n 0 dL_law_507 rfl rfl ?_
                            refine go_iload_n 3 dL_law_508 rfl rfl ?_
                            refine go_iconst (v := 1) dL_law_509 (by decide) ?_
                            refine go_iadd dL_law_510 ?_
                            refine go_sld dL_law_511 (fun v116 _ => ?_)
                            refine go_aload_n 0 dL_law_512 rfl rfl ?_
                            refine go_iload_n 3 dL_law_513 rfl rfl ?_
                            refine go_iconst (v := 2) dL_law_514 (by decide) ?_
                            refine go_iadd dL_law_515 ?_
                            refine go_sld dL_law_516 (fun v117 _ => ?_)
                            refine go_callV_I (as := [vi v116, vi v117]) gk_RL_62 gmf_X12_next (by decide) rfl (by omega) rfl rfl (Nat.le_of_ble_eq_true rfl) dL_law_517 (fun _ _ h => cX12_next_c (by omega) h) (fun r118 s119 _ => ?_)
                            refine go_icmp_eq (tgt := 1145) dL_law_520 (by decide) (fun h120 => ?_) (fun h120 => ?_)
                            · refine go_iinc (v := 6) (L' := [(3, vi (x3 + 6)), (0, vr 1), (1, vr a1), (2, vr a2)]) 3 dL_law_1145 rfl (by decide) (by decide) rfl ?_
                              refine go_goto (tgt := 18) dL_law_1148 (by decide) ?_
                              exact go_sub [1, 2, 3, 0] (ih (x3 + 6) s119) rfl
                            · refine go_iconst (v := 0) dL_law_523 (by decide) ?_
                              exact go_ret rfl dL_law_524
                          · refine go_ite (fun h121 => ?_) (fun h121 => ?_)
                            · refine go_tsIn (v := 11) (off := 492) (tgt := 525) dL_law_33 h121 (by decide) (by decide) (by decide) (by decide) ?_
                              refine go_aload_n 1 dL_law_525 rfl rfl ?_
                              refine go_aload_n 0 dL_law_526 rfl rfl ?_
                              refine go_iload_n 3 dL_law_527 rfl rfl ?_
                              refine go_iconst (v := 1) dL_law_528 (by decide) ?_
                              refine go_iadd dL_law_529 ?_
                              refine go_sld dL_law_530 (fun v122 _ => ?_)
                              refine go_aload_n 0 dL_law_531 rfl rfl ?_
                              refine go_iload_n 3 dL_law_532 rfl rfl ?_
                              refine go_iconst (v := 2) dL_law_533 (by decide) ?_
                              refine go_iadd dL_law_534 ?_
                              refine go_sld dL_law_535 (fun v123 _ => ?_)
                              refine go_callV_I (as := [vi v122, vi v123]) gk_RL_63 gmf_X11_ahead (by decide) rfl (by omega) rfl rfl (Nat.le_of_ble_eq_true rfl) dL_law_536 (fun _ _ h => cX11_ahead_c (by omega) h) (fun r124 s125 _ => ?_)
                              refine go_aload_n 2 dL_law_539 rfl rfl ?_
                              refine go_aload_n 0 dL_law_540 rfl rfl ?_
                              refine go_iload_n 3 dL_law_541 rfl rfl ?_
                              refine go_iconst (v := 1) dL_law_542 (by decide) ?_
                              refine go_iadd dL_law_543 ?_
                              refine go_sld dL_law_544 (fun v126 _ => ?_)
                              refine go_aload_n 0 dL_law_545 rfl rfl ?_
                              refine go_iload_n 3 dL_law_546 rfl rfl ?_
                              refine go_iconst (v := 2) dL_law_547 (by decide) ?_
                              refine go_iadd dL_law_548 ?_
                              refine go_sld dL_law_549 (fun v127 _ => ?_)
                              refine go_callV_I (as := [vi v126, vi v127]) gk_RL_66 gmf_X12_ahead (by decide) rfl (by omega) rfl rfl (Nat.le_of_ble_eq_true rfl) dL_law_550 (fun _ _ h => cX12_ahead_c (by omega) h) (fun r128 s129 _ => ?_)
                              refine go_icmp_eq (tgt := 1145) dL_law_553 (by decide) (fun h130 => ?_) (fun h130 => ?_)
                              · refine go_iinc (v := 6) (L' := [(3, vi (x3 + 6)), (0, vr 1), (1, vr a1), (2, vr a2)]) 3 dL_law_1145 rfl (by decide) (by decide) rfl ?_
                                refine go_goto (tgt := 18) dL_law_1148 (by decide) ?_
                                exact go_sub [1, 2, 3, 0] (ih (x3 + 6) s129) rfl
                              · refine go_iconst (v := 0) dL_law_556 (by decide) ?_
                                exact go_ret rfl dL_law_557
                            · refine go_ite (fun h131 => ?_) (fun h131 => ?_)
                              · refine go_tsIn (v := 12) (off := 525) (tgt := 558) dL_law_33 h131 (by decide) (by decide) (by decide) (by decide) ?_
                                refine go_aload_n 1 dL_law_558 rfl rfl ?_
                                refine go_aload_n 0 dL_law_559 rfl rfl ?_
                                refine go_iload_n 3 dL_law_560 rfl rfl ?_
                                refine go_iconst (v := 1) dL_law_561 (by decide) ?_
                                refine go_iadd dL_law_562 ?_
                                refine go_sld dL_law_563 (fun v132 _ => ?_)
                                refine go_aload_n 0 dL_law_564 rfl rfl ?_
                                refine go_iload_n 3 dL_law_565 rfl rfl ?_
                                refine go_iconst (v := 2) dL_law_566 (by decide) ?_
                                refine go_iadd dL_law_567 ?_
                                refine go_sld dL_law_568 (fun v133 _ => ?_)
                                refine go_callV_I (as := [vi v132, vi v133]) gk_RL_67 gmf_X11_nth (by decide) rfl (by omega) rfl rfl (Nat.le_of_ble_eq_true rfl) dL_law_569 (fun _ _ h => cX11_nth_c (by omega) h) (fun r134 s135 _ => ?_)
                                refine go_aload_n 2 dL_law_572 rfl rfl ?_
                                refine go_aload_n 0 dL_law_573 rfl rfl ?_
                                refine go_iload_n 3 dL_law_574 rfl rfl ?_
                                refine go_iconst (v := 1) dL_law_575 (by decide) ?_
                                refine go_iadd dL_law_576 ?_
                                refine go_sld dL_law_577 (fun v136 _ => ?_)
                                refine go_aload_n 0 dL_law_578 rfl rfl ?_
                                refine go_iload_n 3 dL_law_579 rfl rfl ?_
                                refine go_iconst (v := 2) dL_law_580 (by decide) ?_
                                refine go_iadd dL_law_581 ?_
                                refine go_sld dL_law_582 (fun v137 _ => ?_)
                                refine go_callV_I (as := [vi v136, vi v137]) gk_RL_70 gmf_X12_nth (by decide) rfl (by omega) rfl rfl (Nat.le_of_ble_eq_true rfl) dL_law_583 (fun _ _ h => cX12_nth_c (by omega) h) (fun r138 s139 _ => ?_)
                                refine go_icmp_eq (tgt := 1145) dL_law_586 (by decide) (fun h140 => ?_) (fun h140 => ?_)
                                · refine go_iinc (v := 6) (L' := [(3, vi (x3 + 6)), (0, vr 1), (1, vr a1), (2, vr a2)]) 3 dL_law_1145 rfl (by decide) (by decide) rfl ?_
                                  refine go_goto (tgt := 18) dL_law_1148 (by decide) ?_
                                  exact go_sub [1, 2, 3, 0] (ih (x3 + 6) s139) rfl
                                · refine go_iconst (v := 0) dL_law_589 (by decide) ?_
                                  exact go_ret rfl dL_law_590
                              · refine go_ite (fun h141 => ?_) (fun h141 => ?_)
                                · refine go_tsIn (v := 13) (off := 558) (tgt := 591) dL_law_33 h141 (by decide) (by decide) (by decide) (by decide) ?_
                                  refine go_aload_n 1 dL_law_591 rfl rfl ?_
                                  refine go_aload_n 0 dL_law_592 rfl rfl ?_
                                  refine go_iload_n 3 dL_law_593 rfl rfl ?_
                                  refine go_iconst (v := 1) dL_law_594 (by decide) ?_
                                  refine go_iadd dL_law_595 ?_
                                  refine go_sld dL_law_596 (fun v142 _ => ?_)
                                  refine go_aload_n 0 dL_law_597 rfl rfl ?_
                                  refine go_iload_n 3 dL_law_598 rfl rfl ?_
                                  refine go_iconst (v := 2) dL_law_599 (by decide) ?_
                                  refine go_iadd dL_law_600 ?_
                                  refine go_sld dL_law_601 (fun v143 _ => ?_)
                                  refine go_aload_n 0 dL_law_602 rfl rfl ?_
                                  refine go_iload_n 3 dL_law_603 rfl rfl ?_
                                  refine go_iconst (v := 3) dL_law_604 (by decide) ?_
                                  refine go_iadd dL_law_605 ?_
                                  refine go_sld dL_law_606 (fun v144 _ => ?_)
                                  refine go_callV_I (as := [vi v142, vi v143, vi v144]) gk_RL_71 gmf_X11_many (by decide) rfl (by omega) rfl rfl (Nat.le_of_ble_eq_true rfl) dL_law_607 (fun _ _ h => cX11_many_c (by omega) h) (fun r145 s146 _ => ?_)
                                  refine go_aload_n 2 dL_law_610 rfl rfl ?_
                                  refine go_aload_n 0 dL_law_611 rfl rfl ?_
                                  refine go_iload_n 3 dL_law_612 rfl rfl ?_
                                  refine go_iconst (v := 1) dL_law_613 (by decide) ?_
                                  refine go_iadd dL_law_614 ?_
                                  refine go_sld dL_law_615 (fun v147 _ => ?_)
                                  refine go_aload_n 0 dL_law_616 rfl rfl ?_
                                  refine go_iload_n 3 dL_law_617 rfl rfl ?_
                                  refine go_iconst (v := 2) dL_law_618 (by decide) ?_
                                  refine go_iadd dL_law_619 ?_
                                  refine go_sld dL_law_620 (fun v148 _ => ?_)
                                  refine go_aload_n 0 dL_law_621 rfl rfl ?_
                                  refine go_iload_n 3 dL_law_622 rfl rfl ?_
                                  refine go_iconst (v := 3) dL_law_623 (by decide) ?_
                                  refine go_iadd dL_law_624 ?_
                                  refine go_sld dL_law_625 (fun v149 _ => ?_)
                                  refine go_callV_I (as := [vi v147, vi v148, vi v149]) gk_RL_74 gmf_X12_many (by decide) rfl (by omega) rfl rfl (Nat.le_of_ble_eq_true rfl) dL_law_626 (fun _ _ h => cX12_many_c (by omega) h) (fun r150 s151 _ => ?_)
                                  refine go_icmp_eq (tgt := 1145) dL_law_629 (by decide) (fun h152 => ?_) (fun h152 => ?_)
                                  · refine go_iinc (v := 6) (L' := [(3, vi (x3 + 6)), (0, vr 1), (1, vr a1), (2, vr a2)]) 3 dL_law_1145 rfl (by decide) (by decide) rfl ?_
                                    refine go_goto (tgt := 18) dL_law_1148 (by decide) ?_
                                    exact go_sub [1, 2, 3, 0] (ih (x3 + 6) s151) rfl
                                  · refine go_iconst (v := 0) dL_law_632 (by decide) ?_
                                    exact go_ret rfl dL_law_633
                                · refine go_ite (fun h153 => ?_) (fun h153 => ?_)
                                  · refine go_tsIn (v := 14) (off := 601) (tgt := 634) dL_law_33 h153 (by decide) (by decide) (by decide) (by decide) ?_
                                    refine go_aload_n 1 dL_law_634 rfl rfl ?_
                                    refine go_aload_n 0 dL_law_635 rfl rfl ?_
                                    refine go_iload_n 3 dL_law_636 rfl rfl ?_
                                    refine go_iconst (v := 1) dL_law_637 (by decide) ?_
                                    refine go_iadd dL_law_638 ?_
                                    refine go_sld dL_law_639 (fun v154 _ => ?_)
                                    refine go_aload_n 0 dL_law_640 rfl rfl ?_
                                    refine go_iload_n 3 dL_law_641 rfl rfl ?_
                                    refine go_iconst (v := 2) dL_law_642 (by decide) ?_
                                    refine go_iadd dL_law_643 ?_
                                    refine go_sld dL_law_644 (fun v155 _ => ?_)
                                    refine go_callV_I (as := [vi v154, vi v155]) gk_RL_75 gmf_X11_gap (by decide) rfl (by omega) rfl rfl (Nat.le_of_ble_eq_true rfl) dL_law_645 (fun _ _ h => cX11_gap_c (by omega) h) (fun r156 s157 _ => ?_)
                                    refine go_aload_n 2 dL_law_648 rfl rfl ?_
                                    refine go_aload_n 0 dL_law_649 rfl rfl ?_
                                    refine go_iload_n 3 dL_law_650 rfl rfl ?_
                                    refine go_iconst (v := 1) dL_law_651 (by decide) ?_
                                    refine go_iadd dL_law_652 ?_
                                    refine go_sld dL_law_653 (fun v158 _ => ?_)
                                    refine go_aload_n 0 dL_law_654 rfl rfl ?_
                                    refine go_iload_n 3 dL_law_655 rfl rfl ?_
                                    refine go_iconst (v := 2) dL_law_656 (by decide) ?_
                                    refine go_iadd dL_law_657 ?_
                                    refine go_sld dL_law_658 (fun v159 _ => ?_)
                                    refine go_callV_I (as := [vi v158, vi v159]) gk_RL_78 gmf_X12_gap (by decide) rfl (by omega) rfl rfl (Nat.le_of_ble_eq_true rfl) dL_law_659 (fun _ _ h => cX12_gap_c (by omega) h) (fun r160 s161 _ => ?_)
                                    refine go_icmp_eq (tgt := 1145) dL_law_662 (by decide) (fun h162 => ?_) (fun h162 => ?_)
                                    · refine go_iinc (v := 6) (L' := [(3, vi (x3 + 6)), (0, vr 1), (1, vr a1), (2, vr a2)]) 3 dL_law_1145 rfl (by decide) (by decide) rfl ?_
                                      refine go_goto (tgt := 18) dL_law_1148 (by decide) ?_
                                      exact go_sub [1, 2, 3, 0] (ih (x3 + 6) s161) rfl
                                    · refine go_iconst (v := 0) dL_law_665 (by decide) ?_
                                      exact go_ret rfl dL_law_666
                                  · refine go_ite (fun h163 => ?_) (fun h163 => ?_)
                                    · refine go_tsIn (v := 15) (off := 634) (tgt := 667) dL_law_33 h163 (by decide) (by decide) (by decide) (by decide) ?_
                                      refine go_aload_n 1 dL_law_667 rfl rfl ?_
                                      refine go_aload_n 0 dL_law_668 rfl rfl ?_
                                      refine go_iload_n 3 dL_law_669 rfl rfl ?_
                                      refine go_iconst (v := 1) dL_law_670 (by decide) ?_
                                      refine go_iadd dL_law_671 ?_
                                      refine go_sld dL_law_672 (fun v164 _ => ?_)
                                      refine go_aload_n 0 dL_law_673 rfl rfl ?_
                                      refine go_iload_n 3 dL_law_674 rfl rfl ?_
                                      refine go_iconst (v := 2) dL_law_675 (by decide) ?_
                                      refine go_iadd dL_law_676 ?_
                                      refine go_sld dL_law_677 (fun v165 _ => ?_)
                                      refine go_aload_n 0 dL_law_678 rfl rfl ?_
                                      refine go_iload_n 3 dL_law_679 rfl rfl ?_
                                      refine go_iconst (v := 3) dL_law_680 (by decide) ?_
                                      refine go_iadd dL_law_681 ?_
                                      refine go_sld dL_law_682 (fun v166 _ => ?_)
                                      refine go_callV_I (as := [vi v164, vi v165, vi v166]) gk_RL_79 gmf_X11_free (by decide) rfl (by omega) rfl rfl (Nat.le_of_ble_eq_true rfl) dL_law_683 (fun _ _ h => cX11_free_c (by omega) h) (fun r167 s168 _ => ?_)
                                      refine go_aload_n 2 dL_law_686 rfl rfl ?_
                                      refine go_aload_n 0 dL_law_687 rfl rfl ?_
                                      refine go_iload_n 3 dL_law_688 rfl rfl ?_
                                      refine go_iconst (v := 1) dL_law_689 (by decide) ?_
                                      refine go_iadd dL_law_690 ?_
                                      refine go_sld dL_law_691 (fun v169 _ => ?_)
                                      refine go_aload_n 0 dL_law_692 rfl rfl ?_
                                      refine go_iload_n 3 dL_law_693 rfl rfl ?_
                                      refine go_iconst (v := 2) dL_law_694 (by decide) ?_
                                      refine go_iadd dL_law_695 ?_
                                      refine go_sld dL_law_696 (fun v170 _ => ?_)
                                      refine go_aload_n 0 dL_law_697 rfl rfl ?_
                                      refine go_iload_n 3 dL_law_698 rfl rfl ?_
                                      refine go_iconst (v := 3) dL_law_699 (by decide) ?_
                                      refine go_iadd dL_law_700 ?_
                                      refine go_sld dL_law_701 (fun v171 _ => ?_)
                                      refine go_callV_I (as := [vi v169, vi v170, vi v171]) gk_RL_82 gmf_X12_free (by decide) rfl (by omega) rfl rfl (Nat.le_of_ble_eq_true rfl) dL_law_702 (fun _ _ h => cX12_free_c (by omega) h) (fun r172 s173 _ => ?_)
                                      refine go_icmp_eq (tgt := 1145) dL_law_705 (by decide) (fun h174 => ?_) (fun h174 => ?_)
                                      · refine go_iinc (v := 6) (L' := [(3, vi (x3 + 6)), (0, vr 1), (1, vr a1), (2, vr a2)]) 3 dL_law_1145 rfl (by decide) (by decide) rfl ?_
                                        refine go_goto (tgt := 18) dL_law_1148 (by decide) ?_
                                        exact go_sub [1, 2, 3, 0] (ih (x3 + 6) s173) rfl
                                      · refine go_iconst (v := 0) dL_law_708 (by decide) ?_
                                        exact go_ret rfl dL_law_709
                                    · refine go_ite (fun h175 => ?_) (fun h175 => ?_)
                                      · refine go_tsIn (v := 16) (off := 677) (tgt := 710) dL_law_33 h175 (by decide) (by decide) (by decide) (by decide) ?_
                                        refine go_aload_n 1 dL_law_710 rfl rfl ?_
                                        refine go_aload_n 0 dL_law_711 rfl rfl ?_
                                        refine go_iload_n 3 dL_law_712 rfl rfl ?_
                                        refine go_iconst (v := 1) dL_law_713 (by decide) ?_
                                        refine go_iadd dL_law_714 ?_
                                        refine go_sld dL_law_715 (fun v176 _ => ?_)
                                        refine go_aload_n 0 dL_law_716 rfl rfl ?_
                                        refine go_iload_n 3 dL_law_717 rfl rfl ?_
                                        refine go_iconst (v := 2) dL_law_718 (by decide) ?_
                                        refine go_iadd dL_law_719 ?_
                                        refine go_sld dL_law_720 (fun v177 _ => ?_)
                                        refine go_aload_n 0 dL_law_721 rfl rfl ?_
                                        refine go_iload_n 3 dL_law_722 rfl rfl ?_
                                        refine go_iconst (v := 3) dL_law_723 (by decide) ?_
                                        refine go_iadd dL_law_724 ?_
                                        refine go_sld dL_law_725 (fun v178 _ => ?_)
                                        refine go_aload_n 0 dL_law_726 rfl rfl ?_
                                        refine go_iload_n 3 dL_law_727 rfl rfl ?_
                                        refine go_iconst (v := 4) dL_law_728 (by decide) ?_
                                        refine go_iadd dL_law_729 ?_
                                        refine go_sld dL_law_730 (fun v179 _ => ?_)
                                        refine go_callV_I (as := [vi v176, vi v177, vi v178, vi v179]) gk_RL_83 gmf_X11_meet (by decide) rfl (by omega) rfl rfl (Nat.le_of_ble_eq_true rfl) dL_law_731 (fun _ _ h => cX11_meet_c (by omega) h) (fun r180 s181 _ => ?_)
                                        refine go_aload_n 2 dL_law_734 rfl rfl ?_
                                        refine go_aload_n 0 dL_law_735 rfl rfl ?_
                                        refine go_iload_n 3 dL_law_736 rfl rfl ?_
                                        refine go_iconst (v := 1) dL_law_737 (by decide) ?_
                                        refine go_iadd dL_law_738 ?_
                                        refine go_sld dL_law_739 (fun v182 _ => ?_)
                                        refine go_aload_n 0 dL_law_740 rfl rfl ?_
                                        refine go_iload_n 3 dL_law_741 rfl rfl ?_
                                        refine go_iconst (v := 2) dL_law_742 (by decide) ?_
                                        refine go_iadd dL_law_743 ?_
                                        refine go_sld dL_law_744 (fun v183 _ => ?_)
                                        refine go_aload_n 0 dL_law_745 rfl rfl ?_
                                        refine go_iload_n 3 dL_law_746 rfl rfl ?_
                                        refine go_iconst (v := 3) dL_law_747 (by decide) ?_
                                        refine go_iadd dL_law_748 ?_
                                        refine go_sld dL_law_749 (fun v184 _ => ?_)
                                        refine go_aload_n 0 dL_law_750 rfl rfl ?_
                                        refine go_iload_n 3 dL_law_751 rfl rfl ?_
                                        refine go_iconst (v := 4) dL_law_752 (by decide) ?_
                                        refine go_iadd dL_law_753 ?_
                                        refine go_sld dL_law_754 (fun v185 _ => ?_)
                                        refine go_callV_I (as := [vi v182, vi v183, vi v184, vi v185]) gk_RL_87 gmf_X12_meet (by decide) rfl (by omega) rfl rfl (Nat.le_of_ble_eq_true rfl) dL_law_755 (fun _ _ h => cX12_meet_c (by omega) h) (fun r186 s187 _ => ?_)
                                        refine go_icmp_eq (tgt := 1145) dL_law_758 (by decide) (fun h188 => ?_) (fun h188 => ?_)
                                        · refine go_iinc (v := 6) (L' := [(3, vi (x3 + 6)), (0, vr 1), (1, vr a1), (2, vr a2)]) 3 dL_law_1145 rfl (by decide) (by decide) rfl ?_
                                          refine go_goto (tgt := 18) dL_law_1148 (by decide) ?_
                                          exact go_sub [1, 2, 3, 0] (ih (x3 + 6) s187) rfl
                                        · refine go_iconst (v := 0) dL_law_761 (by decide) ?_
                                          exact go_ret rfl dL_law_762
                                      · refine go_ite (fun h189 => ?_) (fun h189 => ?_)
                                        · refine go_tsIn (v := 17) (off := 730) (tgt := 763) dL_law_33 h189 (by decide) (by decide) (by decide) (by decide) ?_
                                          refine go_aload_n 1 dL_law_763 rfl rfl ?_
                                          refine go_aload_n 0 dL_law_764 rfl rfl ?_
                                          refine go_iload_n 3 dL_law_765 rfl rfl ?_
                                          refine go_iconst (v := 1) dL_law_766 (by decide) ?_
                                          refine go_iadd dL_law_767 ?_
                                          refine go_sld dL_law_768 (fun v190 _ => ?_)
                                          refine go_aload_n 0 dL_law_769 rfl rfl ?_
                                          refine go_iload_n 3 dL_law_770 rfl rfl ?_
                                          refine go_iconst (v := 2) dL_law_771 (by decide) ?_
                                          refine go_iadd dL_law_772 ?_
                                          refine go_sld dL_law_773 (fun v191 _ => ?_)
                                          refine go_callV_I (as := [vi v190, vi v191]) gk_RL_88 gmf_X11_fares (by decide) rfl (by omega) rfl rfl (Nat.le_of_ble_eq_true rfl) dL_law_774 (fun _ _ h => cX11_fares_c (by omega) h) (fun r192 s193 _ => ?_)
                                          refine go_aload_n 2 dL_law_777 rfl rfl ?_
                                          refine go_aload_n 0 dL_law_778 rfl rfl ?_
                                          refine go_iload_n 3 dL_law_779 rfl rfl ?_
                                          refine go_iconst (v := 1) dL_law_780 (by decide) ?_
                                          refine go_iadd dL_law_781 ?_
                                          refine go_sld dL_law_782 (fun v194 _ => ?_)
                                          refine go_aload_n 0 dL_law_783 rfl rfl ?_
                                          refine go_iload_n 3 dL_law_784 rfl rfl ?_
                                          refine go_iconst (v := 2) dL_law_785 (by decide) ?_
                                          refine go_iadd dL_law_786 ?_
                                          refine go_sld dL_law_787 (fun v195 _ => ?_)
                                          refine go_callV_I (as := [vi v194, vi v195]) gk_RL_91 gmf_X12_fares (by decide) rfl (by omega) rfl rfl (Nat.le_of_ble_eq_true rfl) dL_law_788 (fun _ _ h => cX12_fares_c (by omega) h) (fun r196 s197 _ => ?_)
                                          refine go_icmp_eq (tgt := 1145) dL_law_791 (by decide) (fun h198 => ?_) (fun h198 => ?_)
                                          · refine go_iinc (v := 6) (L' := [(3, vi (x3 + 6)), (0, vr 1), (1, vr a1), (2, vr a2)]) 3 dL_law_1145 rfl (by decide) (by decide) rfl ?_
                                            refine go_goto (tgt := 18) dL_law_1148 (by decide) ?_
                                            exact go_sub [1, 2, 3, 0] (ih (x3 + 6) s197) rfl
                                          · refine go_iconst (v := 0) dL_law_794 (by decide) ?_
                                            exact go_ret rfl dL_law_795
                                        · refine go_ite (fun h199 => ?_) (fun h199 => ?_)
                                          · refine go_tsIn (v := 18) (off := 763) (tgt := 796) dL_law_33 h199 (by decide) (by decide) (by decide) (by decide) ?_
                                            refine go_aload_n 1 dL_law_796 rfl rfl ?_
                                            refine go_aload_n 0 dL_law_797 rfl rfl ?_
                                            refine go_iload_n 3 dL_law_798 rfl rfl ?_
                                            refine go_iconst (v := 1) dL_law_799 (by decide) ?_
                                            refine go_iadd dL_law_800 ?_
                                            refine go_sld dL_law_801 (fun v200 _ => ?_)
                                            refine go_aload_n 0 dL_law_802 rfl rfl ?_
                                            refine go_iload_n 3 dL_law_803 rfl rfl ?_
                                            refine go_iconst (v := 2) dL_law_804 (by decide) ?_
                                            refine go_iadd dL_law_805 ?_
                                            refine go_sld dL_law_806 (fun v201 _ => ?_)
                                            refine go_aload_n 0 dL_law_807 rfl rfl ?_
                                            refine go_iload_n 3 dL_law_808 rfl rfl ?_
                                            refine go_iconst (v := 3) dL_law_809 (by decide) ?_
                                            refine go_iadd dL_law_810 ?_
                                            refine go_sld dL_law_811 (fun v202 _ => ?_)
                                            refine go_callV_I (as := [vi v200, vi v201, vi v202]) gk_RL_92 gmf_X11_period (by decide) rfl (by omega) rfl rfl (Nat.le_of_ble_eq_true rfl) dL_law_812 (fun _ _ h => cX11_period_c (by omega) h) (fun r203 s204 _ => ?_)
                                            refine go_aload_n 2 dL_law_815 rfl rfl ?_
                                            refine go_aload_n 0 dL_law_816 rfl rfl ?_
                                            refine go_iload_n 3 dL_law_817 rfl rfl ?_
                                            refine go_iconst (v := 1) dL_law_818 (by decide) ?_
                                            refine go_iadd dL_law_819 ?_
                                            refine go_sld dL_law_820 (fun v205 _ => ?_)
                                            refine go_aload_n 0 dL_law_821 rfl rfl ?_
                                            refine go_iload_n 3 dL_law_822 rfl rfl ?_
                                            refine go_iconst (v := 2) dL_law_823 (by decide) ?_
                                            refine go_iadd dL_law_824 ?_
                                            refine go_sld dL_law_825 (fun v206 _ => ?_)
                                            refine go_aload_n 0 dL_law_826 rfl rfl ?_
                                            refine go_iload_n 3 dL_law_827 rfl rfl ?_
                                            refine go_iconst (v := 3) dL_law_828 (by decide) ?_
                                            refine go_iadd dL_law_829 ?_
                                            refine go_sld dL_law_830 (fun v207 _ => ?_)
                                            refine go_callV_I (as := [vi v205, vi v206, vi v207]) gk_RL_95 gmf_X12_period (by decide) rfl (by omega) rfl rfl (Nat.le_of_ble_eq_true rfl) dL_law_831 (fun _ _ h => cX12_period_c (by omega) h) (fun r208 s209 _ => ?_)
                                            refine go_icmp_eq (tgt := 1145) dL_law_834 (by decide) (fun h210 => ?_) (fun h210 => ?_)
                                            · refine go_iinc (v := 6) (L' := [(3, vi (x3 + 6)), (0, vr 1), (1, vr a1), (2, vr a2)]) 3 dL_law_1145 rfl (by decide) (by decide) rfl ?_
                                              refine go_goto (tgt := 18) dL_law_1148 (by decide) ?_
                                              exact go_sub [1, 2, 3, 0] (ih (x3 + 6) s209) rfl
                                            · refine go_iconst (v := 0) dL_law_837 (by decide) ?_
                                              exact go_ret rfl dL_law_838
                                          · refine go_ite (fun h211 => ?_) (fun h211 => ?_)
                                            · refine go_tsIn (v := 19) (off := 806) (tgt := 839) dL_law_33 h211 (by decide) (by decide) (by decide) (by decide) ?_
                                              refine go_aload_n 1 dL_law_839 rfl rfl ?_
                                              refine go_aload_n 0 dL_law_840 rfl rfl ?_
                                              refine go_iload_n 3 dL_law_841 rfl rfl ?_
                                              refine go_iconst (v := 1) dL_law_842 (by decide) ?_
                                              refine go_iadd dL_law_843 ?_
                                              refine go_sld dL_law_844 (fun v212 _ => ?_)
                                              refine go_callV_I (as := [vi v212]) gk_RL_96 gmf_X11_sum (by decide) rfl (by omega) rfl rfl (Nat.le_of_ble_eq_true rfl) dL_law_845 (fun _ _ h => cX11_sum_c (by omega) h) (fun r213 s214 _ => ?_)
                                              refine go_aload_n 2 dL_law_848 rfl rfl ?_
                                              refine go_aload_n 0 dL_law_849 rfl rfl ?_
                                              refine go_iload_n 3 dL_law_850 rfl rfl ?_
                                              refine go_iconst (v := 1) dL_law_851 (by decide) ?_
                                              refine go_iadd dL_law_852 ?_
                                              refine go_sld dL_law_853 (fun v215 _ => ?_)
                                              refine go_callV_I (as := [vi v215]) gk_RL_99 gmf_X12_sum (by decide) rfl (by omega) rfl rfl (Nat.le_of_ble_eq_true rfl) dL_law_854 (fun _ _ h => cX12_sum_c (by omega) h) (fun r216 s217 _ => ?_)
                                              refine go_icmp_eq (tgt := 1145) dL_law_857 (by decide) (fun h218 => ?_) (fun h218 => ?_)
                                              · refine go_iinc (v := 6) (L' := [(3, vi (x3 + 6)), (0, vr 1), (1, vr a1), (2, vr a2)]) 3 dL_law_1145 rfl (by decide) (by decide) rfl ?_
                                                refine go_goto (tgt := 18) dL_law_1148 (by decide) ?_
                                                exact go_sub [1, 2, 3, 0] (ih (x3 + 6) s217) rfl
                                              · refine go_iconst (v := 0) dL_law_860 (by decide) ?_
                                                exact go_ret rfl dL_law_861
                                            · refine go_ite (fun h219 => ?_) (fun h219 => ?_)
                                              · refine go_tsIn (v := 20) (off := 829) (tgt := 862) dL_law_33 h219 (by decide) (by decide) (by decide) (by decide) ?_
                                                refine go_aload_n 1 dL_law_862 rfl rfl ?_
                                                refine go_aload_n 0 dL_law_863 rfl rfl ?_
                                                refine go_iload_n 3 dL_law_864 rfl rfl ?_
                                                refine go_iconst (v := 1) dL_law_865 (by decide) ?_
                                                refine go_iadd dL_law_866 ?_
                                                refine go_sld dL_law_867 (fun v220 _ => ?_)
                                                refine go_callV_I (as := [vi v220]) gk_RL_100 gmf_X11_see (by decide) rfl (by omega) rfl rfl (Nat.le_of_ble_eq_true rfl) dL_law_868 (fun _ _ h => cX11_see_c (by omega) h) (fun r221 s222 _ => ?_)
                                                refine go_aload_n 2 dL_law_871 rfl rfl ?_
                                                refine go_aload_n 0 dL_law_872 rfl rfl ?_
                                                refine go_iload_n 3 dL_law_873 rfl rfl ?_
                                                refine go_iconst (v := 1) dL_law_874 (by decide) ?_
                                                refine go_iadd dL_law_875 ?_
                                                refine go_sld dL_law_876 (fun v223 _ => ?_)
                                                refine go_callV_I (as := [vi v223]) gk_RL_103 gmf_X12_see (by decide) rfl (by omega) rfl rfl (Nat.le_of_ble_eq_true rfl) dL_law_877 (fun _ _ h => cX12_see_c (by omega) h) (fun r224 s225 _ => ?_)
                                                refine go_icmp_eq (tgt := 1145) dL_law_880 (by decide) (fun h226 => ?_) (fun h226 => ?_)
                                                · refine go_iinc (v := 6) (L' := [(3, vi (x3 + 6)), (0, vr 1), (1, vr a1), (2, vr a2)]) 3 dL_law_1145 rfl (by decide) (by decide) rfl ?_
                                                  refine go_goto (tgt := 18) dL_law_1148 (by decide) ?_
                                                  exact go_sub [1, 2, 3, 0] (ih (x3 + 6) s225) rfl
                                                · refine go_iconst (v := 0) dL_law_883 (by decide) ?_
                                                  exact go_ret rfl dL_law_884
                                              · refine go_ite (fun h227 => ?_) (fun h227 => ?_)
                                                · refine go_tsIn (v := 21) (off := 852) (tgt := 885) dL_law_33 h227 (by decide) (by decide) (by decide) (by decide) ?_
                                                  refine go_aload_n 1 dL_law_885 rfl rfl ?_
                                                  refine go_aload_n 0 dL_law_886 rfl rfl ?_
                                                  refine go_iload_n 3 dL_law_887 rfl rfl ?_
                                                  refine go_iconst (v := 1) dL_law_888 (by decide) ?_
                                                  refine go_iadd dL_law_889 ?_
                                                  refine go_sld dL_law_890 (fun v228 _ => ?_)
                                                  refine go_callV_I (as := [vi v228]) gk_RL_104 gmf_X11_fits (by decide) rfl (by omega) rfl rfl (Nat.le_of_ble_eq_true rfl) dL_law_891 (fun _ _ h => cX11_fits_c (by omega) h) (fun r229 s230 _ => ?_)
                                                  refine go_aload_n 2 dL_law_894 rfl rfl ?_
                                                  refine go_aload_n 0 dL_law_895 rfl rfl ?_
                                                  refine go_iload_n 3 dL_law_896 rfl rfl ?_
                                                  refine go_iconst (v := 1) dL_law_897 (by decide) ?_
                                                  refine go_iadd dL_law_898 ?_
                                                  refine go_sld dL_law_899 (fun v231 _ => ?_)
                                                  refine go_callV_I (as := [vi v231]) gk_RL_107 gmf_X12_fits (by decide) rfl (by omega) rfl rfl (Nat.le_of_ble_eq_true rfl) dL_law_900 (fun _ _ h => cX12_fits_c (by omega) h) (fun r232 s233 _ => ?_)
                                                  refine go_icmp_eq (tgt := 1145) dL_law_903 (by decide) (fun h234 => ?_) (fun h234 => ?_)
                                                  · refine go_iinc (v := 6) (L' := [(3, vi (x3 + 6)), (0, vr 1), (1, vr a1), (2, vr a2)]) 3 dL_law_1145 rfl (by decide) (by decide) rfl ?_
                                                    refine go_goto (tgt := 18) dL_law_1148 (by decide) ?_
                                                    exact go_sub [1, 2, 3, 0] (ih (x3 + 6) s233) rfl
                                                  · refine go_iconst (v := 0) dL_law_906 (by decide) ?_
                                                    exact go_ret rfl dL_law_907
                                                · refine go_ite (fun h235 => ?_) (fun h235 => ?_)
                                                  · refine go_tsIn (v := 22) (off := 875) (tgt := 908) dL_law_33 h235 (by decide) (by decide) (by decide) (by decide) ?_
                                                    refine go_aload_n 1 dL_law_908 rfl rfl ?_
                                                    refine go_aload_n 0 dL_law_909 rfl rfl ?_
                                                    refine go_iload_n 3 dL_law_910 rfl rfl ?_
                                                    refine go_iconst (v := 1) dL_law_911 (by decide) ?_
                                                    refine go_iadd dL_law_912 ?_
                                                    refine go_sld dL_law_913 (fun v236 _ => ?_)
                                                    refine go_callV_I (as := [vi v236]) gk_RL_108 gmf_X11_tells (by decide) rfl (by omega) rfl rfl (Nat.le_of_ble_eq_true rfl) dL_law_914 (fun _ _ h => cX11_tells_c (by omega) h) (fun r237 s238 _ => ?_)
                                                    refine go_aload_n 2 dL_law_917 rfl rfl ?_
                                                    refine go_aload_n 0 dL_law_918 rfl rfl ?_
                                                    refine go_iload_n 3 dL_law_919 rfl rfl ?_
                                                    refine go_iconst (v := 1) dL_law_920 (by decide) ?_
                                                    refine go_iadd dL_law_921 ?_
                                                    refine go_sld dL_law_922 (fun v239 _ => ?_)
                                                    refine go_callV_I (as := [vi v239]) gk_RL_111 gmf_X12_tells (by decide) rfl (by omega) rfl rfl (Nat.le_of_ble_eq_true rfl) dL_law_923 (fun _ _ h => cX12_tells_c (by omega) h) (fun r240 s241 _ => ?_)
                                                    refine go_icmp_eq (tgt := 1145) dL_law_926 (by decide) (fun h242 => ?_) (fun h242 => ?_)
                                                    · refine go_iinc (v := 6) (L' := [(3, vi (x3 + 6)), (0, vr 1), (1, vr a1), (2, vr a2)]) 3 dL_law_1145 rfl (by decide) (by decide) rfl ?_
                                                      refine go_goto (tgt := 18) dL_law_1148 (by decide) ?_
                                                      exact go_sub [1, 2, 3, 0] (ih (x3 + 6) s241) rfl
                                                    · refine go_iconst (v := 0) dL_law_929 (by decide) ?_
                                                      exact go_ret rfl dL_law_930
                                                  · refine go_ite (fun h243 => ?_) (fun h243 => ?_)
                                                    · refine go_tsIn (v := 23) (off := 898) (tgt := 931) dL_law_33 h243 (by decide) (by decide) (by decide) (by decide) ?_
                                                      refine go_aload_n 1 dL_law_931 rfl rfl ?_
                                                      refine go_aload_n 0 dL_law_932 rfl rfl ?_
                                                      refine go_iload_n 3 dL_law_933 rfl rfl ?_
                                                      refine go_iconst (v := 1) dL_law_934 (by decide) ?_
                                                      refine go_iadd dL_law_935 ?_
                                                      refine go_sld dL_law_936 (fun v244 _ => ?_)
                                                      refine go_aload_n 0 dL_law_937 rfl rfl ?_
                                                      refine go_iload_n 3 dL_law_938 rfl rfl ?_
                                                      refine go_iconst (v := 2) dL_law_939 (by decide) ?_
                                                      refine go_iadd dL_law_940 ?_
                                                      refine go_sld dL_law_941 (fun v245 _ => ?_)
                                                      refine go_callV_I (as := [vi v244, vi v245]) gk_RL_112 gmf_X11_add (by decide) rfl (by omega) rfl rfl (Nat.le_of_ble_eq_true rfl) dL_law_942 (fun _ _ h => cX11_add_c (by omega) h) (fun r246 s247 _ => ?_)
                                                      refine go_aload_n 2 dL_law_945 rfl rfl ?_
                                                      refine go_aload_n 0 dL_law_946 rfl rfl ?_
                                                      refine go_iload_n 3 dL_law_947 rfl rfl ?_
                                                      refine go_iconst (v := 1) dL_law_948 (by decide) ?_
                                                      refine go_iadd dL_law_949 ?_
                                                      refine go_sld dL_law_950 (fun v248 _ => ?_)
                                                      refine go_aload_n 0 dL_law_951 rfl rfl ?_
                                                      refine go_iload_n 3 dL_law_952 rfl rfl ?_
                                                      refine go_iconst (v := 2) dL_law_953 (by decide) ?_
                                                      refine go_iadd dL_law_954 ?_
                                                      refine go_sld dL_law_955 (fun v249 _ => ?_)
                                                      refine go_callV_I (as := [vi v248, vi v249]) gk_RL_116 gmf_X12_add (by decide) rfl (by omega) rfl rfl (Nat.le_of_ble_eq_true rfl) dL_law_956 (fun _ _ h => cX12_add_c (by omega) h) (fun r250 s251 _ => ?_)
                                                      refine go_icmp_eq (tgt := 1145) dL_law_959 (by decide) (fun h252 => ?_) (fun h252 => ?_)
                                                      · refine go_iinc (v := 6) (L' := [(3, vi (x3 + 6)), (0, vr 1), (1, vr a1), (2, vr a2)]) 3 dL_law_1145 rfl (by decide) (by decide) rfl ?_
                                                        refine go_goto (tgt := 18) dL_law_1148 (by decide) ?_
                                                        exact go_sub [1, 2, 3, 0] (ih (x3 + 6) s251) rfl
                                                      · refine go_iconst (v := 0) dL_law_962 (by decide) ?_
                                                        exact go_ret rfl dL_law_963
                                                    · refine go_ite (fun h253 => ?_) (fun h253 => ?_)
                                                      · refine go_tsIn (v := 24) (off := 931) (tgt := 964) dL_law_33 h253 (by decide) (by decide) (by decide) (by decide) ?_
                                                        refine go_aload_n 1 dL_law_964 rfl rfl ?_
                                                        refine go_aload_n 0 dL_law_965 rfl rfl ?_
                                                        refine go_iload_n 3 dL_law_966 rfl rfl ?_
                                                        refine go_iconst (v := 1) dL_law_967 (by decide) ?_
                                                        refine go_iadd dL_law_968 ?_
                                                        refine go_sld dL_law_969 (fun v254 _ => ?_)
                                                        refine go_aload_n 0 dL_law_970 rfl rfl ?_
                                                        refine go_iload_n 3 dL_law_971 rfl rfl ?_
                                                        refine go_iconst (v := 2) dL_law_972 (by decide) ?_
                                                        refine go_iadd dL_law_973 ?_
                                                        refine go_sld dL_law_974 (fun v255 _ => ?_)
                                                        refine go_callV_I (as := [vi v254, vi v255]) gk_RL_117 gmf_X11_leave (by decide) rfl (by omega) rfl rfl (Nat.le_of_ble_eq_true rfl) dL_law_975 (fun _ _ h => cX11_leave_c (by omega) h) (fun r256 s257 _ => ?_)
                                                        refine go_aload_n 2 dL_law_978 rfl rfl ?_
                                                        refine go_aload_n 0 dL_law_979 rfl rfl ?_
                                                        refine go_iload_n 3 dL_law_980 rfl rfl ?_
                                                        refine go_iconst (v := 1) dL_law_981 (by decide) ?_
                                                        refine go_iadd dL_law_982 ?_
                                                        refine go_sld dL_law_983 (fun v258 _ => ?_)
                                                        refine go_aload_n 0 dL_law_984 rfl rfl ?_
                                                        refine go_iload_n 3 dL_law_985 rfl rfl ?_
                                                        refine go_iconst (v := 2) dL_law_986 (by decide) ?_
                                                        refine go_iadd dL_law_987 ?_
                                                        refine go_sld dL_law_988 (fun v259 _ => ?_)
                                                        refine go_callV_I (as := [vi v258, vi v259]) gk_RL_120 gmf_X12_leave (by decide) rfl (by omega) rfl rfl (Nat.le_of_ble_eq_true rfl) dL_law_989 (fun _ _ h => cX12_leave_c (by omega) h) (fun r260 s261 _ => ?_)
                                                        refine go_icmp_eq (tgt := 1145) dL_law_992 (by decide) (fun h262 => ?_) (fun h262 => ?_)
                                                        · refine go_iinc (v := 6) (L' := [(3, vi (x3 + 6)), (0, vr 1), (1, vr a1), (2, vr a2)]) 3 dL_law_1145 rfl (by decide) (by decide) rfl ?_
                                                          refine go_goto (tgt := 18) dL_law_1148 (by decide) ?_
                                                          exact go_sub [1, 2, 3, 0] (ih (x3 + 6) s261) rfl
                                                        · refine go_iconst (v := 0) dL_law_995 (by decide) ?_
                                                          exact go_ret rfl dL_law_996
                                                      · refine go_ite (fun h263 => ?_) (fun h263 => ?_)
                                                        · refine go_tsIn (v := 25) (off := 964) (tgt := 997) dL_law_33 h263 (by decide) (by decide) (by decide) (by decide) ?_
                                                          refine go_aload_n 1 dL_law_997 rfl rfl ?_
                                                          refine go_aload_n 0 dL_law_998 rfl rfl ?_
                                                          refine go_iload_n 3 dL_law_999 rfl rfl ?_
                                                          refine go_iconst (v := 1) dL_law_1000 (by decide) ?_
                                                          refine go_iadd dL_law_1001 ?_
                                                          refine go_sld dL_law_1002 (fun v264 _ => ?_)
                                                          refine go_aload_n 0 dL_law_1003 rfl rfl ?_
                                                          refine go_iload_n 3 dL_law_1004 rfl rfl ?_
                                                          refine go_iconst (v := 2) dL_law_1005 (by decide) ?_
                                                          refine go_iadd dL_law_1006 ?_
                                                          refine go_sld dL_law_1007 (fun v265 _ => ?_)
                                                          refine go_callV_I (as := [vi v264, vi v265]) gk_RL_121 gmf_X11_every (by decide) rfl (by omega) rfl rfl (Nat.le_of_ble_eq_true rfl) dL_law_1008 (fun _ _ h => cX11_every_c (by omega) h) (fun r266 s267 _ => ?_)
                                                          refine go_aload_n 2 dL_law_1011 rfl rfl ?_
                                                          refine go_aload_n 0 dL_law_1012 rfl rfl ?_
                                                          refine go_iload_n 3 dL_law_1013 rfl rfl ?_
                                                          refine go_iconst (v := 1) dL_law_1014 (by decide) ?_
                                                          refine go_iadd dL_law_1015 ?_
                                                          refine go_sld dL_law_1016 (fun v268 _ => ?_)
                                                          refine go_aload_n 0 dL_law_1017 rfl rfl ?_
                                                          refine go_iload_n 3 dL_law_1018 rfl rfl ?_
                                                          refine go_iconst (v := 2) dL_law_1019 (by decide) ?_
                                                          refine go_iadd dL_law_1020 ?_
                                                          refine go_sld dL_law_1021 (fun v269 _ => ?_)
                                                          refine go_callV_I (as := [vi v268, vi v269]) gk_RL_124 gmf_X12_every (by decide) rfl (by omega) rfl rfl (Nat.le_of_ble_eq_true rfl) dL_law_1022 (fun _ _ h => cX12_every_c (by omega) h) (fun r270 s271 _ => ?_)
                                                          refine go_icmp_eq (tgt := 1145) dL_law_1025 (by decide) (fun h272 => ?_) (fun h272 => ?_)
                                                          · refine go_iinc (v := 6) (L' := [(3, vi (x3 + 6)), (0, vr 1), (1, vr a1), (2, vr a2)]) 3 dL_law_1145 rfl (by decide) (by decide) rfl ?_
                                                            refine go_goto (tgt := 18) dL_law_1148 (by decide) ?_
                                                            exact go_sub [1, 2, 3, 0] (ih (x3 + 6) s271) rfl
                                                          · refine go_iconst (v := 0) dL_law_1028 (by decide) ?_
                                                            exact go_ret rfl dL_law_1029
                                                        · refine go_ite (fun h273 => ?_) (fun h273 => ?_)
                                                          · refine go_tsIn (v := 26) (off := 997) (tgt := 1030) dL_law_33 h273 (by decide) (by decide) (by decide) (by decide) ?_
                                                            refine go_aload_n 1 dL_law_1030 rfl rfl ?_
                                                            refine go_aload_n 0 dL_law_1031 rfl rfl ?_
                                                            refine go_iload_n 3 dL_law_1032 rfl rfl ?_
                                                            refine go_iconst (v := 1) dL_law_1033 (by decide) ?_
                                                            refine go_iadd dL_law_1034 ?_
                                                            refine go_sld dL_law_1035 (fun v274 _ => ?_)
                                                            refine go_aload_n 0 dL_law_1036 rfl rfl ?_
                                                            refine go_iload_n 3 dL_law_1037 rfl rfl ?_
                                                            refine go_iconst (v := 2) dL_law_1038 (by decide) ?_
                                                            refine go_iadd dL_law_1039 ?_
                                                            refine go_sld dL_law_1040 (fun v275 _ => ?_)
                                                            refine go_callV_I (as := [vi v274, vi v275]) gk_RL_125 gmf_X11_from (by decide) rfl (by omega) rfl rfl (Nat.le_of_ble_eq_true rfl) dL_law_1041 (fun _ _ h => cX11_from_c (by omega) h) (fun r276 s277 _ => ?_)
                                                            refine go_aload_n 2 dL_law_1044 rfl rfl ?_
                                                            refine go_aload_n 0 dL_law_1045 rfl rfl ?_
                                                            refine go_iload_n 3 dL_law_1046 rfl rfl ?_
                                                            refine go_iconst (v := 1) dL_law_1047 (by decide) ?_
                                                            refine go_iadd dL_law_1048 ?_
                                                            refine go_sld dL_law_1049 (fun v278 _ => ?_)
                                                            refine go_aload_n 0 dL_law_1050 rfl rfl ?_
                                                            refine go_iload_n 3 dL_law_1051 rfl rfl ?_
                                                            refine go_iconst (v := 2) dL_law_1052 (by decide) ?_
                                                            refine go_iadd dL_law_1053 ?_
                                                            refine go_sld dL_law_1054 (fun v279 _ => ?_)
                                                            refine go_callV_I (as := [vi v278, vi v279]) gk_RL_128 gmf_X12_from (by decide) rfl (by omega) rfl rfl (Nat.le_of_ble_eq_true rfl) dL_law_1055 (fun _ _ h => cX12_from_c (by omega) h) (fun r280 s281 _ => ?_)
                                                            refine go_icmp_eq (tgt := 1145) dL_law_1058 (by decide) (fun h282 => ?_) (fun h282 => ?_)
                                                            · refine go_iinc (v := 6) (L' := [(3, vi (x3 + 6)), (0, vr 1), (1, vr a1), (2, vr a2)]) 3 dL_law_1145 rfl (by decide) (by decide) rfl ?_
                                                              refine go_goto (tgt := 18) dL_law_1148 (by decide) ?_
                                                              exact go_sub [1, 2, 3, 0] (ih (x3 + 6) s281) rfl
                                                            · refine go_iconst (v := 0) dL_law_1061 (by decide) ?_
                                                              exact go_ret rfl dL_law_1062
                                                          · refine go_ite (fun h283 => ?_) (fun h283 => ?_)
                                                            · refine go_tsIn (v := 27) (off := 1030) (tgt := 1063) dL_law_33 h283 (by decide) (by decide) (by decide) (by decide) ?_
                                                              refine go_aload_n 1 dL_law_1063 rfl rfl ?_
                                                              refine go_aload_n 0 dL_law_1064 rfl rfl ?_
                                                              refine go_iload_n 3 dL_law_1065 rfl rfl ?_
                                                              refine go_iconst (v := 1) dL_law_1066 (by decide) ?_
                                                              refine go_iadd dL_law_1067 ?_
                                                              refine go_sld dL_law_1068 (fun v284 _ => ?_)
                                                              refine go_callV_I (as := [vi v284]) gk_RL_129 gmf_X11_chance (by decide) rfl (by omega) rfl rfl (Nat.le_of_ble_eq_true rfl) dL_law_1069 (fun _ _ h => cX11_chance_c (by omega) h) (fun r285 s286 _ => ?_)
                                                              refine go_aload_n 2 dL_law_1072 rfl rfl ?_
                                                              refine go_aload_n 0 dL_law_1073 rfl rfl ?_
                                                              refine go_iload_n 3 dL_law_1074 rfl rfl ?_
                                                              refine go_iconst (v := 1) dL_law_1075 (by decide) ?_
                                                              refine go_iadd dL_law_1076 ?_
                                                              refine go_sld dL_law_1077 (fun v287 _ => ?_)
                                                              refine go_callV_I (as := [vi v287]) gk_RL_132 gmf_X12_chance (by decide) rfl (by omega) rfl rfl (Nat.le_of_ble_eq_true rfl) dL_law_1078 (fun _ _ h => cX12_chance_c (by omega) h) (fun r288 s289 _ => ?_)
                                                              refine go_icmp_eq (tgt := 1145) dL_law_1081 (by decide) (fun h290 => ?_) (fun h290 => ?_)
                                                              · refine go_iinc (v := 6) (L' := [(3, vi (x3 + 6)), (0, vr 1), (1, vr a1), (2, vr a2)]) 3 dL_law_1145 rfl (by decide) (by decide) rfl ?_
                                                                refine go_goto (tgt := 18) dL_law_1148 (by decide) ?_
                                                                exact go_sub [1, 2, 3, 0] (ih (x3 + 6) s289) rfl
                                                              · refine go_iconst (v := 0) dL_law_1084 (by decide) ?_
                                                                exact go_ret rfl dL_law_1085
                                                            · refine go_ite (fun h291 => ?_) (fun h291 => ?_)
                                                              · refine go_tsIn (v := 28) (off := 1053) (tgt := 1086) dL_law_33 h291 (by decide) (by decide) (by decide) (by decide) ?_
                                                                refine go_aload_n 1 dL_law_1086 rfl rfl ?_
                                                                refine go_callV_I (as := []) gk_RL_133 gmf_X11_undo (by decide) rfl (by omega) rfl rfl (Nat.le_of_ble_eq_true rfl) dL_law_1087 (fun _ _ h => cX11_undo_c (by omega) h) (fun r292 s293 _ => ?_)
                                                                refine go_aload_n 2 dL_law_1090 rfl rfl ?_
                                                                refine go_callV_I (as := []) gk_RL_137 gmf_X12_undo (by decide) rfl (by omega) rfl rfl (Nat.le_of_ble_eq_true rfl) dL_law_1091 (fun _ _ h => cX12_undo_c (by omega) h) (fun r294 s295 _ => ?_)
                                                                refine go_icmp_eq (tgt := 1145) dL_law_1094 (by decide) (fun h296 => ?_) (fun h296 => ?_)
                                                                · refine go_iinc (v := 6) (L' := [(3, vi (x3 + 6)), (0, vr 1), (1, vr a1), (2, vr a2)]) 3 dL_law_1145 rfl (by decide) (by decide) rfl ?_
                                                                  refine go_goto (tgt := 18) dL_law_1148 (by decide) ?_
                                                                  exact go_sub [1, 2, 3, 0] (ih (x3 + 6) s295) rfl
                                                                · refine go_iconst (v := 0) dL_law_1097 (by decide) ?_
                                                                  exact go_ret rfl dL_law_1098
                                                              · refine go_ite (fun h297 => ?_) (fun h297 => ?_)
                                                                · refine go_tsIn (v := 29) (off := 1066) (tgt := 1099) dL_law_33 h297 (by decide) (by decide) (by decide) (by decide) ?_
                                                                  refine go_aload_n 1 dL_law_1099 rfl rfl ?_
                                                                  refine go_aload_n 0 dL_law_1100 rfl rfl ?_
                                                                  refine go_iload_n 3 dL_law_1101 rfl rfl ?_
                                                                  refine go_iconst (v := 1) dL_law_1102 (by decide) ?_
                                                                  refine go_iadd dL_law_1103 ?_
                                                                  refine go_sld dL_law_1104 (fun v298 _ => ?_)
                                                                  refine go_callV_I (as := [vi v298]) gk_RL_138 gmf_X11_seed (by decide) rfl (by omega) rfl rfl (Nat.le_of_ble_eq_true rfl) dL_law_1105 (fun _ _ h => cX11_seed_c (by omega) h) (fun r299 s300 _ => ?_)
                                                                  refine go_aload_n 2 dL_law_1108 rfl rfl ?_
                                                                  refine go_aload_n 0 dL_law_1109 rfl rfl ?_
                                                                  refine go_iload_n 3 dL_law_1110 rfl rfl ?_
                                                                  refine go_iconst (v := 1) dL_law_1111 (by decide) ?_
                                                                  refine go_iadd dL_law_1112 ?_
                                                                  refine go_sld dL_law_1113 (fun v301 _ => ?_)
                                                                  refine go_callV_I (as := [vi v301]) gk_RL_141 gmf_X12_seed (by decide) rfl (by omega) rfl rfl (Nat.le_of_ble_eq_true rfl) dL_law_1114 (fun _ _ h => cX12_seed_c (by omega) h) (fun r302 s303 _ => ?_)
                                                                  refine go_icmp_eq (tgt := 1145) dL_law_1117 (by decide) (fun h304 => ?_) (fun h304 => ?_)
                                                                  · refine go_iinc (v := 6) (L' := [(3, vi (x3 + 6)), (0, vr 1), (1, vr a1), (2, vr a2)]) 3 dL_law_1145 rfl (by decide) (by decide) rfl ?_
                                                                    refine go_goto (tgt := 18) dL_law_1148 (by decide) ?_
                                                                    exact go_sub [1, 2, 3, 0] (ih (x3 + 6) s303) rfl
                                                                  · refine go_iconst (v := 0) dL_law_1120 (by decide) ?_
                                                                    exact go_ret rfl dL_law_1121
                                                                · refine go_ite (fun h305 => ?_) (fun h305 => ?_)
                                                                  · refine go_tsIn (v := 30) (off := 1089) (tgt := 1122) dL_law_33 h305 (by decide) (by decide) (by decide) (by decide) ?_
                                                                    refine go_aload_n 1 dL_law_1122 rfl rfl ?_
                                                                    refine go_aload_n 0 dL_law_1123 rfl rfl ?_
                                                                    refine go_iload_n 3 dL_law_1124 rfl rfl ?_
                                                                    refine go_iconst (v := 1) dL_law_1125 (by decide) ?_
                                                                    refine go_iadd dL_law_1126 ?_
                                                                    refine go_sld dL_law_1127 (fun v306 _ => ?_)
                                                                    refine go_callV_I (as := [vi v306]) gk_RL_142 gmf_X11_status (by decide) rfl (by omega) rfl rfl (Nat.le_of_ble_eq_true rfl) dL_law_1128 (fun _ _ h => cX11_status_c (by omega) h) (fun r307 s308 _ => ?_)
                                                                    refine go_aload_n 2 dL_law_1131 rfl rfl ?_
                                                                    refine go_aload_n 0 dL_law_1132 rfl rfl ?_
                                                                    refine go_iload_n 3 dL_law_1133 rfl rfl ?_
                                                                    refine go_iconst (v := 1) dL_law_1134 (by decide) ?_
                                                                    refine go_iadd dL_law_1135 ?_
                                                                    refine go_sld dL_law_1136 (fun v309 _ => ?_)
                                                                    refine go_callV_I (as := [vi v309]) gk_RL_145 gmf_X12_status (by decide) rfl (by omega) rfl rfl (Nat.le_of_ble_eq_true rfl) dL_law_1137 (fun _ _ h => cX12_status_c (by omega) h) (fun r310 s311 _ => ?_)
                                                                    refine go_icmp_eq (tgt := 1145) dL_law_1140 (by decide) (fun h312 => ?_) (fun h312 => ?_)
                                                                    · refine go_iinc (v := 6) (L' := [(3, vi (x3 + 6)), (0, vr 1), (1, vr a1), (2, vr a2)]) 3 dL_law_1145 rfl (by decide) (by decide) rfl ?_
                                                                      refine go_goto (tgt := 18) dL_law_1148 (by decide) ?_
                                                                      exact go_sub [1, 2, 3, 0] (ih (x3 + 6) s311) rfl
                                                                    · refine go_iconst (v := 0) dL_law_1143 (by decide) ?_
                                                                      exact go_ret rfl dL_law_1144
                                                                  · refine go_tsOut (tgt := 1145) dL_law_33 (by have gh13 := gts h13 (n := 0) (by decide); have gh29 := gts h29 (n := 1) (by decide); have gh37 := gts h37 (n := 2) (by decide); have gh43 := gts h43 (n := 3) (by decide); have gh51 := gts h51 (n := 4) (by decide); have gh59 := gts h59 (n := 5) (by decide); have gh69 := gts h69 (n := 6) (by decide); have gh79 := gts h79 (n := 7) (by decide); have gh91 := gts h91 (n := 8) (by decide); have gh101 := gts h101 (n := 9) (by decide); have gh111 := gts h111 (n := 10) (by decide); have gh121 := gts h121 (n := 11) (by decide); have gh131 := gts h131 (n := 12) (by decide); have gh141 := gts h141 (n := 13) (by decide); have gh153 := gts h153 (n := 14) (by decide); have gh163 := gts h163 (n := 15) (by decide); have gh175 := gts h175 (n := 16) (by decide); have gh189 := gts h189 (n := 17) (by decide); have gh199 := gts h199 (n := 18) (by decide); have gh211 := gts h211 (n := 19) (by decide); have gh219 := gts h219 (n := 20) (by decide); have gh227 := gts h227 (n := 21) (by decide); have gh235 := gts h235 (n := 22) (by decide); have gh243 := gts h243 (n := 23) (by decide); have gh253 := gts h253 (n := 24) (by decide); have gh263 := gts h263 (n := 25) (by decide); have gh273 := gts h273 (n := 26) (by decide); have gh283 := gts h283 (n := 27) (by decide); have gh291 := gts h291 (n := 28) (by decide); have gh297 := gts h297 (n := 29) (by decide); have gh305 := gts h305 (n := 30) (by decide); omega) (by decide) ?_
                                                                    refine go_iinc (v := 6) (L' := [(3, vi (x3 + 6)), (0, vr 1), (1, vr a1), (2, vr a2)]) 3 dL_law_1145 rfl (by decide) (by decide) rfl ?_
                                                                    refine go_goto (tgt := 18) dL_law_1148 (by decide) ?_
                                                                    exact go_sub [1, 2, 3, 0] (ih (x3 + 6) s0) rfl
def gL_law (X : Nat × (Nat → Int32)) (s0 : gH) : Option (Int32 × gH) :=
  gmk s0 11 fun r1 s2 =>
  gb2 (fX11_init r1 s2) fun r3 s4 =>
  gmk s4 12 fun r5 s6 =>
  gb2 (fX12_init r5 s6) fun r7 s8 =>
  gL_law_L18
    r1 r5 20000 0 (gsX X s8)
def fL_law (X : Nat × (Nat → Int32)) (s0 : gH) : Option (Int32 × gH) := gzr (gL_law X s0)
set_option maxRecDepth 100000 in
set_option maxHeartbeats 4000000 in
theorem wL_law {d : Nat} (hd : 47 ≤ d) {X : Nat × (Nat → Int32)} {s0 : gH} : gGo X rvI mL_law d 0 [(0, vr 1)] [] s0 (gL_law X s0) := by
  unfold gL_law
  refine go_mk gn_RL_7 gcf_11 gcd_11 dL_law_0 (fun r1 s2 hr1 => ?_)
  refine go_dup dL_law_3 rfl ?_
  refine go_callI_v (as := []) hr1 gk_RL_9 rfl gmf_X11_init (by omega) rfl rfl (Nat.le_of_ble_eq_true rfl) dL_law_4 (fun _ _ h => cX11_init_c (by omega) h) (fun r3 s4 _ => ?_)
  refine go_astore_n (L' := [(1, vr r1), (0, vr 1)]) dL_law_7 rfl (by decide) rfl ?_
  refine go_mk gn_RL_10 gcf_12 gcd_12 dL_law_8 (fun r5 s6 hr5 => ?_)
  refine go_dup dL_law_11 rfl ?_
  refine go_callI_v (as := []) hr5 gk_RL_12 rfl gmf_X12_init (by omega) rfl rfl (Nat.le_of_ble_eq_true rfl) dL_law_12 (fun _ _ h => cX12_init_c (by omega) h) (fun r7 s8 _ => ?_)
  refine go_astore_n (L' := [(2, vr r5), (1, vr r1), (0, vr 1)]) dL_law_15 rfl (by decide) rfl ?_
  refine go_iconst (v := 0) dL_law_16 (by decide) ?_
  refine go_istore_n (L' := [(3, vi 0), (2, vr r5), (1, vr r1), (0, vr 1)]) dL_law_17 rfl (by decide) rfl ?_
  refine go_ghost ?_
  refine go_sub [3, 2, 1, 0] (wL_law_L18 hd r1 r5 20000 0 (gsX X s8)) rfl
