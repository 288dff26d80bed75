/-! walks, written by a program -/
def gL_law_L18  (a1 : Nat) (a2 : Nat) : Nat → Int32 → gH → Option (Int32 × gH)
  | 0, _, _ => none
  | n + 1, x3, s0 =>
    if (Int32.ofNat (gLn s0 1)) - 6 < x3 then
      some (1, s0)
    else
      (gXl s0 x3).bind fun v11 =>
      if v11 &&& 31 = 0 then
        (gXl s0 (x3 + 1)).bind fun v13 =>
        (gXl s0 (x3 + 2)).bind fun v14 =>
        (gXl s0 (x3 + 3)).bind fun v15 =>
        (gXl s0 (x3 + 4)).bind fun v16 =>
        (gXl s0 (x3 + 5)).bind fun v17 =>
        gb2 (gcv s0 a1 11 (fX11_feed a1 v13 v14 v15 v16 v17 s0)) fun r18 s19 =>
        (gXl s19 (x3 + 1)).bind fun v20 =>
        (gXl s19 (x3 + 2)).bind fun v21 =>
        (gXl s19 (x3 + 3)).bind fun v22 =>
        (gXl s19 (x3 + 4)).bind fun v23 =>
        (gXl s19 (x3 + 5)).bind fun v24 =>
        gb2 (gcv s19 a2 12 (fX12_feed a2 v20 v21 v22 v23 v24 s19)) fun r25 s26 =>
        if r18 = r25 then
          gL_law_L18 a1 a2 n (x3 + 6) s26
        else
          some (0, s26)
      else
        if v11 &&& 31 = 1 then
          (gXl s0 (x3 + 1)).bind fun v29 =>
          gb2 (gcv s0 a1 11 (fX11_end a1 v29 s0)) fun r30 s31 =>
          (gXl s31 (x3 + 1)).bind fun v32 =>
          gb2 (gcv s31 a2 12 (fX12_end a2 v32 s31)) fun r33 s34 =>
          if r30 = r33 then
            gL_law_L18 a1 a2 n (x3 + 6) s34
          else
            some (0, s34)
        else
          if v11 &&& 31 = 2 then
            gb2 (gcv s0 a1 11 (fX11_book a1 s0)) fun r37 s38 =>
            gb2 (gcv s38 a2 12 (fX12_book a2 s38)) fun r39 s40 =>
            if r37 = r39 then
              gL_law_L18 a1 a2 n (x3 + 6) s40
            else
              some (0, s40)
          else
            if v11 &&& 31 = 3 then
              (gXl s0 (x3 + 1)).bind fun v43 =>
              gb2 (gcv s0 a1 11 (fX11_fault a1 v43 s0)) fun r44 s45 =>
              (gXl s45 (x3 + 1)).bind fun v46 =>
              gb2 (gcv s45 a2 12 (fX12_fault a2 v46 s45)) fun r47 s48 =>
              if r44 = r47 then
                gL_law_L18 a1 a2 n (x3 + 6) s48
              else
                some (0, s48)
            else
              if v11 &&& 31 = 4 then
                (gXl s0 (x3 + 1)).bind fun v51 =>
                gb2 (gcv s0 a1 11 (fX11_has a1 v51 s0)) fun r52 s53 =>
                (gXl s53 (x3 + 1)).bind fun v54 =>
                gb2 (gcv s53 a2 12 (fX12_has a2 v54 s53)) fun r55 s56 =>
                if r52 = r55 then
                  gL_law_L18 a1 a2 n (x3 + 6) s56
                else
                  some (0, s56)
              else
                if v11 &&& 31 = 5 then
                  (gXl s0 (x3 + 1)).bind fun v59 =>
                  (gXl s0 (x3 + 2)).bind fun v60 =>
                  gb2 (gcv s0 a1 11 (fX11_letter a1 v59 v60 s0)) fun r61 s62 =>
                  (gXl s62 (x3 + 1)).bind fun v63 =>
                  (gXl s62 (x3 + 2)).bind fun v64 =>
                  gb2 (gcv s62 a2 12 (fX12_letter a2 v63 v64 s62)) fun r65 s66 =>
                  if r61 = r65 then
                    gL_law_L18 a1 a2 n (x3 + 6) s66
                  else
                    some (0, s66)
                else
                  if v11 &&& 31 = 6 then
                    (gXl s0 (x3 + 1)).bind fun v69 =>
                    (gXl s0 (x3 + 2)).bind fun v70 =>
                    gb2 (gcv s0 a1 11 (fX11_rule a1 v69 v70 s0)) fun r71 s72 =>
                    (gXl s72 (x3 + 1)).bind fun v73 =>
                    (gXl s72 (x3 + 2)).bind fun v74 =>
                    gb2 (gcv s72 a2 12 (fX12_rule a2 v73 v74 s72)) fun r75 s76 =>
                    if r71 = r75 then
                      gL_law_L18 a1 a2 n (x3 + 6) s76
                    else
                      some (0, s76)
                  else
                    if v11 &&& 31 = 7 then
                      (gXl s0 (x3 + 1)).bind fun v79 =>
                      (gXl s0 (x3 + 2)).bind fun v80 =>
                      (gXl s0 (x3 + 3)).bind fun v81 =>
                      gb2 (gcv s0 a1 11 (fX11_day a1 v79 v80 v81 s0)) fun r82 s83 =>
                      (gXl s83 (x3 + 1)).bind fun v84 =>
                      (gXl s83 (x3 + 2)).bind fun v85 =>
                      (gXl s83 (x3 + 3)).bind fun v86 =>
                      gb2 (gcv s83 a2 12 (fX12_day a2 v84 v85 v86 s83)) fun r87 s88 =>
                      if r82 = r87 then
                        gL_law_L18 a1 a2 n (x3 + 6) s88
                      else
                        some (0, s88)
                    else
                      if v11 &&& 31 = 8 then
                        (gXl s0 (x3 + 1)).bind fun v91 =>
                        (gXl s0 (x3 + 2)).bind fun v92 =>
                        gb2 (gcv s0 a1 11 (fX11_date a1 v91 v92 s0)) fun r93 s94 =>
                        (gXl s94 (x3 + 1)).bind fun v95 =>
                        (gXl s94 (x3 + 2)).bind fun v96 =>
                        gb2 (gcv s94 a2 12 (fX12_date_ a2 v95 v96 s94)) fun r97 s98 =>
                        if r93 = r97 then
                          gL_law_L18 a1 a2 n (x3 + 6) s98
                        else
                          some (0, s98)
                      else
                        if v11 &&& 31 = 9 then
                          (gXl s0 (x3 + 1)).bind fun v101 =>
                          (gXl s0 (x3 + 2)).bind fun v102 =>
                          gb2 (gcv s0 a1 11 (fX11_on a1 v101 v102 s0)) fun r103 s104 =>
                          (gXl s104 (x3 + 1)).bind fun v105 =>
                          (gXl s104 (x3 + 2)).bind fun v106 =>
                          gb2 (gcv s104 a2 12 (fX12_on a2 v105 v106 s104)) fun r107 s108 =>
                          if r103 = r107 then
                            gL_law_L18 a1 a2 n (x3 + 6) s108
                          else
                            some (0, s108)
                        else
                          if v11 &&& 31 = 10 then
                            (gXl s0 (x3 + 1)).bind fun v111 =>
                            (gXl s0 (x3 + 2)).bind fun v112 =>
                            gb2 (gcv s0 a1 11 (fX11_next a1 v111 v112 s0)) fun r113 s114 =>
                            (gXl s114 (x3 + 1)).bind fun v115 =>
                            (gXl s114 (x3 + 2)).bind fun v116 =>
                            gb2 (gcv s114 a2 12 (fX12_next a2 v115 v116 s114)) fun r117 s118 =>
                            if r113 = r117 then
                              gL_law_L18 a1 a2 n (x3 + 6) s118
                            else
                              some (0, s118)
                          else
                            if v11 &&& 31 = 11 then
                              (gXl s0 (x3 + 1)).bind fun v121 =>
                              (gXl s0 (x3 + 2)).bind fun v122 =>
                              gb2 (gcv s0 a1 11 (fX11_ahead a1 v121 v122 s0)) fun r123 s124 =>
                              (gXl s124 (x3 + 1)).bind fun v125 =>
                              (gXl s124 (x3 + 2)).bind fun v126 =>
                              gb2 (gcv s124 a2 12 (fX12_ahead a2 v125 v126 s124)) fun r127 s128 =>
                              if r123 = r127 then
                                gL_law_L18 a1 a2 n (x3 + 6) s128
                              else
                                some (0, s128)
                            else
                              if v11 &&& 31 = 12 then
                                (gXl s0 (x3 + 1)).bind fun v131 =>
                                (gXl s0 (x3 + 2)).bind fun v132 =>
                                gb2 (gcv s0 a1 11 (fX11_nth a1 v131 v132 s0)) fun r133 s134 =>
                                (gXl s134 (x3 + 1)).bind fun v135 =>
                                (gXl s134 (x3 + 2)).bind fun v136 =>
                                gb2 (gcv s134 a2 12 (fX12_nth a2 v135 v136 s134)) fun r137 s138 =>
                                if r133 = r137 then
                                  gL_law_L18 a1 a2 n (x3 + 6) s138
                                else
                                  some (0, s138)
                              else
                                if v11 &&& 31 = 13 then
                                  (gXl s0 (x3 + 1)).bind fun v141 =>
                                  (gXl s0 (x3 + 2)).bind fun v142 =>
                                  (gXl s0 (x3 + 3)).bind fun v143 =>
                                  gb2 (gcv s0 a1 11 (fX11_many a1 v141 v142 v143 s0)) fun r144 s145 =>
                                  (gXl s145 (x3 + 1)).bind fun v146 =>
                                  (gXl s145 (x3 + 2)).bind fun v147 =>
                                  (gXl s145 (x3 + 3)).bind fun v148 =>
                                  gb2 (gcv s145 a2 12 (fX12_many a2 v146 v147 v148 s145)) fun r149 s150 =>
                                  if r144 = r149 then
                                    gL_law_L18 a1 a2 n (x3 + 6) s150
                                  else
                                    some (0, s150)
                                else
                                  if v11 &&& 31 = 14 then
                                    (gXl s0 (x3 + 1)).bind fun v153 =>
                                    (gXl s0 (x3 + 2)).bind fun v154 =>
                                    gb2 (gcv s0 a1 11 (fX11_gap a1 v153 v154 s0)) fun r155 s156 =>
                                    (gXl s156 (x3 + 1)).bind fun v157 =>
                                    (gXl s156 (x3 + 2)).bind fun v158 =>
                                    gb2 (gcv s156 a2 12 (fX12_gap a2 v157 v158 s156)) fun r159 s160 =>
                                    if r155 = r159 then
                                      gL_law_L18 a1 a2 n (x3 + 6) s160
                                    else
                                      some (0, s160)
                                  else
                                    if v11 &&& 31 = 15 then
                                      (gXl s0 (x3 + 1)).bind fun v163 =>
                                      (gXl s0 (x3 + 2)).bind fun v164 =>
                                      (gXl s0 (x3 + 3)).bind fun v165 =>
                                      gb2 (gcv s0 a1 11 (fX11_free a1 v163 v164 v165 s0)) fun r166 s167 =>
                                      (gXl s167 (x3 + 1)).bind fun v168 =>
                                      (gXl s167 (x3 + 2)).bind fun v169 =>
                                      (gXl s167 (x3 + 3)).bind fun v170 =>
                                      gb2 (gcv s167 a2 12 (fX12_free a2 v168 v169 v170 s167)) fun r171 s172 =>
                                      if r166 = r171 then
                                        gL_law_L18 a1 a2 n (x3 + 6) s172
                                      else
                                        some (0, s172)
                                    else
                                      if v11 &&& 31 = 16 then
                                        (gXl s0 (x3 + 1)).bind fun v175 =>
                                        (gXl s0 (x3 + 2)).bind fun v176 =>
                                        (gXl s0 (x3 + 3)).bind fun v177 =>
                                        (gXl s0 (x3 + 4)).bind fun v178 =>
                                        gb2 (gcv s0 a1 11 (fX11_meet a1 v175 v176 v177 v178 s0)) fun r179 s180 =>
                                        (gXl s180 (x3 + 1)).bind fun v181 =>
                                        (gXl s180 (x3 + 2)).bind fun v182 =>
                                        (gXl s180 (x3 + 3)).bind fun v183 =>
                                        (gXl s180 (x3 + 4)).bind fun v184 =>
                                        gb2 (gcv s180 a2 12 (fX12_meet a2 v181 v182 v183 v184 s180)) fun r185 s186 =>
                                        if r179 = r185 then
                                          gL_law_L18 a1 a2 n (x3 + 6) s186
                                        else
                                          some (0, s186)
                                      else
                                        if v11 &&& 31 = 17 then
                                          (gXl s0 (x3 + 1)).bind fun v189 =>
                                          (gXl s0 (x3 + 2)).bind fun v190 =>
                                          gb2 (gcv s0 a1 11 (fX11_fares a1 v189 v190 s0)) fun r191 s192 =>
                                          (gXl s192 (x3 + 1)).bind fun v193 =>
                                          (gXl s192 (x3 + 2)).bind fun v194 =>
                                          gb2 (gcv s192 a2 12 (fX12_fares a2 v193 v194 s192)) fun r195 s196 =>
                                          if r191 = r195 then
                                            gL_law_L18 a1 a2 n (x3 + 6) s196
                                          else
                                            some (0, s196)
                                        else
                                          if v11 &&& 31 = 18 then
                                            (gXl s0 (x3 + 1)).bind fun v199 =>
                                            (gXl s0 (x3 + 2)).bind fun v200 =>
                                            (gXl s0 (x3 + 3)).bind fun v201 =>
                                            gb2 (gcv s0 a1 11 (fX11_period a1 v199 v200 v201 s0)) fun r202 s203 =>
                                            (gXl s203 (x3 + 1)).bind fun v204 =>
                                            (gXl s203 (x3 + 2)).bind fun v205 =>
                                            (gXl s203 (x3 + 3)).bind fun v206 =>
                                            gb2 (gcv s203 a2 12 (fX12_period a2 v204 v205 v206 s203)) fun r207 s208 =>
                                            if r202 = r207 then
                                              gL_law_L18 a1 a2 n (x3 + 6) s208
                                            else
                                              some (0, s208)
                                          else
                                            if v11 &&& 31 = 19 then
                                              (gXl s0 (x3 + 1)).bind fun v211 =>
                                              gb2 (gcv s0 a1 11 (fX11_sum a1 v211 s0)) fun r212 s213 =>
                                              (gXl s213 (x3 + 1)).bind fun v214 =>
                                              gb2 (gcv s213 a2 12 (fX12_sum a2 v214 s213)) fun r215 s216 =>
                                              if r212 = r215 then
                                                gL_law_L18 a1 a2 n (x3 + 6) s216
                                              else
                                                some (0, s216)
                                            else
                                              if v11 &&& 31 = 20 then
                                                (gXl s0 (x3 + 1)).bind fun v219 =>
                                                gb2 (gcv s0 a1 11 (fX11_see a1 v219 s0)) fun r220 s221 =>
                                                (gXl s221 (x3 + 1)).bind fun v222 =>
                                                gb2 (gcv s221 a2 12 (fX12_see a2 v222 s221)) fun r223 s224 =>
                                                if r220 = r223 then
                                                  gL_law_L18 a1 a2 n (x3 + 6) s224
                                                else
                                                  some (0, s224)
                                              else
                                                if v11 &&& 31 = 21 then
                                                  (gXl s0 (x3 + 1)).bind fun v227 =>
                                                  gb2 (gcv s0 a1 11 (fX11_fits a1 v227 s0)) fun r228 s229 =>
                                                  (gXl s229 (x3 + 1)).bind fun v230 =>
                                                  gb2 (gcv s229 a2 12 (fX12_fits a2 v230 s229)) fun r231 s232 =>
                                                  if r228 = r231 then
                                                    gL_law_L18 a1 a2 n (x3 + 6) s232
                                                  else
                                                    some (0, s232)
                                                else
                                                  if v11 &&& 31 = 22 then
                                                    (gXl s0 (x3 + 1)).bind fun v235 =>
                                                    gb2 (gcv s0 a1 11 (fX11_tells a1 v235 s0)) fun r236 s237 =>
                                                    (gXl s237 (x3 + 1)).bind fun v238 =>
                                                    gb2 (gcv s237 a2 12 (fX12_tells a2 v238 s237)) fun r239 s240 =>
                                                    if r236 = r239 then
                                                      gL_law_L18 a1 a2 n (x3 + 6) s240
                                                    else
                                                      some (0, s240)
                                                  else
                                                    if v11 &&& 31 = 23 then
                                                      (gXl s0 (x3 + 1)).bind fun v243 =>
                                                      (gXl s0 (x3 + 2)).bind fun v244 =>
                                                      gb2 (gcv s0 a1 11 (fX11_add a1 v243 v244 s0)) fun r245 s246 =>
                                                      (gXl s246 (x3 + 1)).bind fun v247 =>
                                                      (gXl s246 (x3 + 2)).bind fun v248 =>
                                                      gb2 (gcv s246 a2 12 (fX12_add a2 v247 v248 s246)) fun r249 s250 =>
                                                      if r245 = r249 then
                                                        gL_law_L18 a1 a2 n (x3 + 6) s250
                                                      else
                                                        some (0, s250)
                                                    else
                                                      if v11 &&& 31 = 24 then
                                                        (gXl s0 (x3 + 1)).bind fun v253 =>
                                                        (gXl s0 (x3 + 2)).bind fun v254 =>
                                                        gb2 (gcv s0 a1 11 (fX11_leave a1 v253 v254 s0)) fun r255 s256 =>
                                                        (gXl s256 (x3 + 1)).bind fun v257 =>
                                                        (gXl s256 (x3 + 2)).bind fun v258 =>
                                                        gb2 (gcv s256 a2 12 (fX12_leave a2 v257 v258 s256)) fun r259 s260 =>
                                                        if r255 = r259 then
                                                          gL_law_L18 a1 a2 n (x3 + 6) s260
                                                        else
                                                          some (0, s260)
                                                      else
                                                        if v11 &&& 31 = 25 then
                                                          (gXl s0 (x3 + 1)).bind fun v263 =>
                                                          (gXl s0 (x3 + 2)).bind fun v264 =>
                                                          gb2 (gcv s0 a1 11 (fX11_every a1 v263 v264 s0)) fun r265 s266 =>
                                                          (gXl s266 (x3 + 1)).bind fun v267 =>
                                                          (gXl s266 (x3 + 2)).bind fun v268 =>
                                                          gb2 (gcv s266 a2 12 (fX12_every a2 v267 v268 s266)) fun r269 s270 =>
                                                          if r265 = r269 then
                                                            gL_law_L18 a1 a2 n (x3 + 6) s270
                                                          else
                                                            some (0, s270)
                                                        else
                                                          if v11 &&& 31 = 26 then
                                                            (gXl s0 (x3 + 1)).bind fun v273 =>
                                                            (gXl s0 (x3 + 2)).bind fun v274 =>
                                                            gb2 (gcv s0 a1 11 (fX11_from a1 v273 v274 s0)) fun r275 s276 =>
                                                            (gXl s276 (x3 + 1)).bind fun v277 =>
                                                            (gXl s276 (x3 + 2)).bind fun v278 =>
                                                            gb2 (gcv s276 a2 12 (fX12_from a2 v277 v278 s276)) fun r279 s280 =>
                                                            if r275 = r279 then
                                                              gL_law_L18 a1 a2 n (x3 + 6) s280
                                                            else
                                                              some (0, s280)
                                                          else
                                                            if v11 &&& 31 = 27 then
                                                              (gXl s0 (x3 + 1)).bind fun v283 =>
                                                              gb2 (gcv s0 a1 11 (fX11_chance a1 v283 s0)) fun r284 s285 =>
                                                              (gXl s285 (x3 + 1)).bind fun v286 =>
                                                              gb2 (gcv s285 a2 12 (fX12_chance a2 v286 s285)) fun r287 s288 =>
                                                              if r284 = r287 then
                                                                gL_law_L18 a1 a2 n (x3 + 6) s288
                                                              else
                                                                some (0, s288)
                                                            else
                                                              if v11 &&& 31 = 28 then
                                                                gb2 (gcv s0 a1 11 (fX11_undo a1 s0)) fun r291 s292 =>
                                                                gb2 (gcv s292 a2 12 (fX12_undo a2 s292)) fun r293 s294 =>
                                                                if r291 = r293 then
                                                                  gL_law_L18 a1 a2 n (x3 + 6) s294
                                                                else
                                                                  some (0, s294)
                                                              else
                                                                if v11 &&& 31 = 29 then
                                                                  (gXl s0 (x3 + 1)).bind fun v297 =>
                                                                  gb2 (gcv s0 a1 11 (fX11_seed a1 v297 s0)) fun r298 s299 =>
                                                                  (gXl s299 (x3 + 1)).bind fun v300 =>
                                                                  gb2 (gcv s299 a2 12 (fX12_seed a2 v300 s299)) fun r301 s302 =>
                                                                  if r298 = r301 then
                                                                    gL_law_L18 a1 a2 n (x3 + 6) s302
                                                                  else
                                                                    some (0, s302)
                                                                else
                                                                  if v11 &&& 31 = 30 then
                                                                    (gXl s0 (x3 + 1)).bind fun v305 =>
                                                                    gb2 (gcv s0 a1 11 (fX11_status a1 v305 s0)) fun r306 s307 =>
                                                                    (gXl s307 (x3 + 1)).bind fun v308 =>
                                                                    gb2 (gcv s307 a2 12 (fX12_status a2 v308 s307)) fun r309 s310 =>
                                                                    if r306 = r309 then
                                                                      gL_law_L18 a1 a2 n (x3 + 6) s310
                                                                    else
                                                                      some (0, s310)
                                                                  else
                                                                    gL_law_L18 a1 a2 n (x3 + 6) s0
set_option maxRecDepth 100000 in
set_option maxHeartbeats 4000000 in
theorem wL_law_L18 {d : Nat} (hd : 47 ≤ d)  (a1 : Nat) (a2 : Nat) : ∀ (n : Nat) (x3 : Int32) (s0 : gH), gGo rvI mL_law d 18 [(0, vr 1), (1, vr a1), (2, vr a2), (3, vi x3)] [] s0 (gL_law_L18 a1 a2 n x3 s0) := by
  intro n
  induction n with
  | zero => intros; exact go_none
  | succ n ih =>
    intro x3 s0
    show gGo _ _ _ _ _ _ _ (gL_law_L18 a1 a2 (n + 1) x3 s0)
    unfold gL_law_L18
    refine go_iload_n 3 dL_law_18 rfl rfl ?_
    refine go_aload_n 0 dL_law_19 rfl rfl ?_
    refine go_slen dL_law_20 ?_
    refine go_bipush (v := 6) dL_law_21 (by decide) ?_
    refine go_isub dL_law_23 ?_
    refine go_icmp_gt (tgt := 1151) dL_law_24 (by decide) (fun h10 => ?_) (fun h10 => ?_)
    · refine go_iconst (v := 1) dL_law_1151 (by decide) ?_
      exact go_ret rfl dL_law_1152
    · refine go_aload_n 0 dL_law_27 rfl rfl ?_
      refine go_iload_n 3 dL_law_28 rfl rfl ?_
      refine go_sld dL_law_29 (fun v11 _ => ?_)
      refine go_bipush (v := 31) dL_law_30 (by decide) ?_
      refine go_iand dL_law_32 ?_
      refine go_ite (fun h12 => ?_) (fun h12 => ?_)
      · refine go_tsIn (v := 0) (off := 139) (tgt := 172) dL_law_33 h12 (by decide) (by decide) (by decide) (by decide) ?_
        refine go_aload_n 1 dL_law_172 rfl rfl ?_
        refine go_aload_n 0 dL_law_173 rfl rfl ?_
        refine go_iload_n 3 dL_law_174 rfl rfl ?_
        refine go_iconst (v := 1) dL_law_175 (by decide) ?_
        refine go_iadd dL_law_176 ?_
        refine go_sld dL_law_177 (fun v13 _ => ?_)
        refine go_aload_n 0 dL_law_178 rfl rfl ?_
        refine go_iload_n 3 dL_law_179 rfl rfl ?_
        refine go_iconst (v := 2) dL_law_180 (by decide) ?_
        refine go_iadd dL_law_181 ?_
        refine go_sld dL_law_182 (fun v14 _ => ?_)
        refine go_aload_n 0 dL_law_183 rfl rfl ?_
        refine go_iload_n 3 dL_law_184 rfl rfl ?_
        refine go_iconst (v := 3) dL_law_185 (by decide) ?_
        refine go_iadd dL_law_186 ?_
        refine go_sld dL_law_187 (fun v15 _ => ?_)
        refine go_aload_n 0 dL_law_188 rfl rfl ?_
        refine go_iload_n 3 dL_law_189 rfl rfl ?_
        refine go_iconst (v := 4) dL_law_190 (by decide) ?_
        refine go_iadd dL_law_191 ?_
        refine go_sld dL_law_192 (fun v16 _ => ?_)
        refine go_aload_n 0 dL_law_193 rfl rfl ?_
        refine go_iload_n 3 dL_law_194 rfl rfl ?_
        refine go_iconst (v := 5) dL_law_195 (by decide) ?_
        refine go_iadd dL_law_196 ?_
        refine go_sld dL_law_197 (fun v17 _ => ?_)
        refine go_callV_I (as := [vi v13, vi v14, vi v15, vi v16, vi v17]) gk_RL_13 gmf_X11_feed (by decide) rfl (by omega) rfl rfl (Nat.le_of_ble_eq_true rfl) dL_law_198 (fun _ _ h => cX11_feed_c (by omega) h) (fun r18 s19 _ => ?_)
        refine go_aload_n 2 dL_law_201 rfl rfl ?_
        refine go_aload_n 0 dL_law_202 rfl rfl ?_
        refine go_iload_n 3 dL_law_203 rfl rfl ?_
        refine go_iconst (v := 1) dL_law_204 (by decide) ?_
        refine go_iadd dL_law_205 ?_
        refine go_sld dL_law_206 (fun v20 _ => ?_)
        refine go_aload_n 0 dL_law_207 rfl rfl ?_
        refine go_iload_n 3 dL_law_208 rfl rfl ?_
        refine go_iconst (v := 2) dL_law_209 (by decide) ?_
        refine go_iadd dL_law_210 ?_
        refine go_sld dL_law_211 (fun v21 _ => ?_)
        refine go_aload_n 0 dL_law_212 rfl rfl ?_
        refine go_iload_n 3 dL_law_213 rfl rfl ?_
        refine go_iconst (v := 3) dL_law_214 (by decide) ?_
        refine go_iadd dL_law_215 ?_
        refine go_sld dL_law_216 (fun v22 _ => ?_)
        refine go_aload_n 0 dL_law_217 rfl rfl ?_
        refine go_iload_n 3 dL_law_218 rfl rfl ?_
        refine go_iconst (v := 4) dL_law_219 (by decide) ?_
        refine go_iadd dL_law_220 ?_
        refine go_sld dL_law_221 (fun v23 _ => ?_)
        refine go_aload_n 0 dL_law_222 rfl rfl ?_
        refine go_iload_n 3 dL_law_223 rfl rfl ?_
        refine go_iconst (v := 5) dL_law_224 (by decide) ?_
        refine go_iadd dL_law_225 ?_
        refine go_sld dL_law_226 (fun v24 _ => ?_)
        refine go_callV_I (as := [vi v20, vi v21, vi v22, vi v23, vi v24]) gk_RL_17 gmf_X12_feed (by decide) rfl (by omega) rfl rfl (Nat.le_of_ble_eq_true rfl) dL_law_227 (fun _ _ h => cX12_feed_c (by omega) h) (fun r25 s26 _ => ?_)
        refine go_icmp_eq (tgt := 1145) dL_law_230 (by decide) (fun h27 => ?_) (fun h27 => ?_)
        · refine go_iinc (v := 6) (L' := [(3, vi (x3 + 6)), (0, vr 1), (1, vr a1), (2, vr a2)]) 3 dL_law_1145 rfl (by decide) (by decide) rfl ?_
          refine go_goto (tgt := 18) dL_law_1148 (by decide) ?_
          exact go_sub [1, 2, 3, 0] (ih (x3 + 6) s26) rfl
        · refine go_iconst (v := 0) dL_law_233 (by decide) ?_
          exact go_ret rfl dL_law_234
      · refine go_ite (fun h28 => ?_) (fun h28 => ?_)
        · refine go_tsIn (v := 1) (off := 202) (tgt := 235) dL_law_33 h28 (by decide) (by decide) (by decide) (by decide) ?_
          refine go_aload_n 1 dL_law_235 rfl rfl ?_
          refine go_aload_n 0 dL_law_236 rfl rfl ?_
          refine go_iload_n 3 dL_law_237 rfl rfl ?_
          refine go_iconst (v := 1) dL_law_238 (by decide) ?_
          refine go_iadd dL_law_239 ?_
          refine go_sld dL_law_240 (fun v29 _ => ?_)
          refine go_callV_I (as := [vi v29]) gk_RL_18 gmf_X11_end (by decide) rfl (by omega) rfl rfl (Nat.le_of_ble_eq_true rfl) dL_law_241 (fun _ _ h => cX11_end_c (by omega) h) (fun r30 s31 _ => ?_)
          refine go_aload_n 2 dL_law_244 rfl rfl ?_
          refine go_aload_n 0 dL_law_245 rfl rfl ?_
          refine go_iload_n 3 dL_law_246 rfl rfl ?_
          refine go_iconst (v := 1) dL_law_247 (by decide) ?_
          refine go_iadd dL_law_248 ?_
          refine go_sld dL_law_249 (fun v32 _ => ?_)
          refine go_callV_I (as := [vi v32]) gk_RL_22 gmf_X12_end (by decide) rfl (by omega) rfl rfl (Nat.le_of_ble_eq_true rfl) dL_law_250 (fun _ _ h => cX12_end_c (by omega) h) (fun r33 s34 _ => ?_)
          refine go_icmp_eq (tgt := 1145) dL_law_253 (by decide) (fun h35 => ?_) (fun h35 => ?_)
          · refine go_iinc (v := 6) (L' := [(3, vi (x3 + 6)), (0, vr 1), (1, vr a1), (2, vr a2)]) 3 dL_law_1145 rfl (by decide) (by decide) rfl ?_
            refine go_goto (tgt := 18) dL_law_1148 (by decide) ?_
            exact go_sub [1, 2, 3, 0] (ih (x3 + 6) s34) rfl
          · refine go_iconst (v := 0) dL_law_256 (by decide) ?_
            exact go_ret rfl dL_law_257
        · refine go_ite (fun h36 => ?_) (fun h36 => ?_)
          · refine go_tsIn (v := 2) (off := 225) (tgt := 258) dL_law_33 h36 (by decide) (by decide) (by decide) (by decide) ?_
            refine go_aload_n 1 dL_law_258 rfl rfl ?_
            refine go_callV_I (as := []) gk_RL_23 gmf_X11_book (by decide) rfl (by omega) rfl rfl (Nat.le_of_ble_eq_true rfl) dL_law_259 (fun _ _ h => cX11_book_c (by omega) h) (fun r37 s38 _ => ?_)
            refine go_aload_n 2 dL_law_262 rfl rfl ?_
            refine go_callV_I (as := []) gk_RL_27 gmf_X12_book (by decide) rfl (by omega) rfl rfl (Nat.le_of_ble_eq_true rfl) dL_law_263 (fun _ _ h => cX12_book_c (by omega) h) (fun r39 s40 _ => ?_)
            refine go_icmp_eq (tgt := 1145) dL_law_266 (by decide) (fun h41 => ?_) (fun h41 => ?_)
            · refine go_iinc (v := 6) (L' := [(3, vi (x3 + 6)), (0, vr 1), (1, vr a1), (2, vr a2)]) 3 dL_law_1145 rfl (by decide) (by decide) rfl ?_
              refine go_goto (tgt := 18) dL_law_1148 (by decide) ?_
              exact go_sub [1, 2, 3, 0] (ih (x3 + 6) s40) rfl
            · refine go_iconst (v := 0) dL_law_269 (by decide) ?_
              exact go_ret rfl dL_law_270
          · refine go_ite (fun h42 => ?_) (fun h42 => ?_)
            · refine go_tsIn (v := 3) (off := 238) (tgt := 271) dL_law_33 h42 (by decide) (by decide) (by decide) (by decide) ?_
              refine go_aload_n 1 dL_law_271 rfl rfl ?_
              refine go_aload_n 0 dL_law_272 rfl rfl ?_
              refine go_iload_n 3 dL_law_273 rfl rfl ?_
              refine go_iconst (v := 1) dL_law_274 (by decide) ?_
              refine go_iadd dL_law_275 ?_
              refine go_sld dL_law_276 (fun v43 _ => ?_)
              refine go_callV_I (as := [vi v43]) gk_RL_28 gmf_X11_fault (by decide) rfl (by omega) rfl rfl (Nat.le_of_ble_eq_true rfl) dL_law_277 (fun _ _ h => cX11_fault_c (by omega) h) (fun r44 s45 _ => ?_)
              refine go_aload_n 2 dL_law_280 rfl rfl ?_
              refine go_aload_n 0 dL_law_281 rfl rfl ?_
              refine go_iload_n 3 dL_law_282 rfl rfl ?_
              refine go_iconst (v := 1) dL_law_283 (by decide) ?_
              refine go_iadd dL_law_284 ?_
              refine go_sld dL_law_285 (fun v46 _ => ?_)
              refine go_callV_I (as := [vi v46]) gk_RL_32 gmf_X12_fault (by decide) rfl (by omega) rfl rfl (Nat.le_of_ble_eq_true rfl) dL_law_286 (fun _ _ h => cX12_fault_c (by omega) h) (fun r47 s48 _ => ?_)
              refine go_icmp_eq (tgt := 1145) dL_law_289 (by decide) (fun h49 => ?_) (fun h49 => ?_)
              · refine go_iinc (v := 6) (L' := [(3, vi (x3 + 6)), (0, vr 1), (1, vr a1), (2, vr a2)]) 3 dL_law_1145 rfl (by decide) (by decide) rfl ?_
                refine go_goto (tgt := 18) dL_law_1148 (by decide) ?_
                exact go_sub [1, 2, 3, 0] (ih (x3 + 6) s48) rfl
              · refine go_iconst (v := 0) dL_law_292 (by decide) ?_
                exact go_ret rfl dL_law_293
            · refine go_ite (fun h50 => ?_) (fun h50 => ?_)
              · refine go_tsIn (v := 4) (off := 261) (tgt := 294) dL_law_33 h50 (by decide) (by decide) (by decide) (by decide) ?_
                refine go_aload_n 1 dL_law_294 rfl rfl ?_
                refine go_aload_n 0 dL_law_295 rfl rfl ?_
                refine go_iload_n 3 dL_law_296 rfl rfl ?_
                refine go_iconst (v := 1) dL_law_297 (by decide) ?_
                refine go_iadd dL_law_298 ?_
                refine go_sld dL_law_299 (fun v51 _ => ?_)
                refine go_callV_I (as := [vi v51]) gk_RL_33 gmf_X11_has (by decide) rfl (by omega) rfl rfl (Nat.le_of_ble_eq_true rfl) dL_law_300 (fun _ _ h => cX11_has_c (by omega) h) (fun r52 s53 _ => ?_)
                refine go_aload_n 2 dL_law_303 rfl rfl ?_
                refine go_aload_n 0 dL_law_304 rfl rfl ?_
                refine go_iload_n 3 dL_law_305 rfl rfl ?_
                refine go_iconst (v := 1) dL_law_306 (by decide) ?_
                refine go_iadd dL_law_307 ?_
                refine go_sld dL_law_308 (fun v54 _ => ?_)
                refine go_callV_I (as := [vi v54]) gk_RL_36 gmf_X12_has (by decide) rfl (by omega) rfl rfl (Nat.le_of_ble_eq_true rfl) dL_law_309 (fun _ _ h => cX12_has_c (by omega) h) (fun r55 s56 _ => ?_)
                refine go_icmp_eq (tgt := 1145) dL_law_312 (by decide) (fun h57 => ?_) (fun h57 => ?_)
                · refine go_iinc (v := 6) (L' := [(3, vi (x3 + 6)), (0, vr 1), (1, vr a1), (2, vr a2)]) 3 dL_law_1145 rfl (by decide) (by decide) rfl ?_
                  refine go_goto (tgt := 18) dL_law_1148 (by decide) ?_
                  exact go_sub [1, 2, 3, 0] (ih (x3 + 6) s56) rfl
                · refine go_iconst (v := 0) dL_law_315 (by decide) ?_
                  exact go_ret rfl dL_law_316
              · refine go_ite (fun h58 => ?_) (fun h58 => ?_)
                · refine go_tsIn (v := 5) (off := 284) (tgt := 317) dL_law_33 h58 (by decide) (by decide) (by decide) (by decide) ?_
                  refine go_aload_n 1 dL_law_317 rfl rfl ?_
                  refine go_aload_n 0 dL_law_318 rfl rfl ?_
                  refine go_iload_n 3 dL_law_319 rfl rfl ?_
                  refine go_iconst (v := 1) dL_law_320 (by decide) ?_
                  refine go_iadd dL_law_321 ?_
                  refine go_sld dL_law_322 (fun v59 _ => ?_)
                  refine go_aload_n 0 dL_law_323 rfl rfl ?_
                  refine go_iload_n 3 dL_law_324 rfl rfl ?_
                  refine go_iconst (v := 2) dL_law_325 (by decide) ?_
                  refine go_iadd dL_law_326 ?_
                  refine go_sld dL_law_327 (fun v60 _ => ?_)
                  refine go_callV_I (as := [vi v59, vi v60]) gk_RL_37 gmf_X11_letter (by decide) rfl (by omega) rfl rfl (Nat.le_of_ble_eq_true rfl) dL_law_328 (fun _ _ h => cX11_letter_c (by omega) h) (fun r61 s62 _ => ?_)
                  refine go_aload_n 2 dL_law_331 rfl rfl ?_
                  refine go_aload_n 0 dL_law_332 rfl rfl ?_
                  refine go_iload_n 3 dL_law_333 rfl rfl ?_
                  refine go_iconst (v := 1) dL_law_334 (by decide) ?_
                  refine go_iadd dL_law_335 ?_
                  refine go_sld dL_law_336 (fun v63 _ => ?_)
                  refine go_aload_n 0 dL_law_337 rfl rfl ?_
                  refine go_iload_n 3 dL_law_338 rfl rfl ?_
                  refine go_iconst (v := 2) dL_law_339 (by decide) ?_
                  refine go_iadd dL_law_340 ?_
                  refine go_sld dL_law_341 (fun v64 _ => ?_)
                  refine go_callV_I (as := [vi v63, vi v64]) gk_RL_41 gmf_X12_letter (by decide) rfl (by omega) rfl rfl (Nat.le_of_ble_eq_true rfl) dL_law_342 (fun _ _ h => cX12_letter_c (by omega) h) (fun r65 s66 _ => ?_)
                  refine go_icmp_eq (tgt := 1145) dL_law_345 (by decide) (fun h67 => ?_) (fun h67 => ?_)
                  · refine go_iinc (v := 6) (L' := [(3, vi (x3 + 6)), (0, vr 1), (1, vr a1), (2, vr a2)]) 3 dL_law_1145 rfl (by decide) (by decide) rfl ?_
                    refine go_goto (tgt := 18) dL_law_1148 (by decide) ?_
                    exact go_sub [1, 2, 3, 0] (ih (x3 + 6) s66) rfl
                  · refine go_iconst (v := 0) dL_law_348 (by decide) ?_
                    exact go_ret rfl dL_law_349
                · refine go_ite (fun h68 => ?_) (fun h68 => ?_)
                  · refine go_tsIn (v := 6) (off := 317) (tgt := 350) dL_law_33 h68 (by decide) (by decide) (by decide) (by decide) ?_
                    refine go_aload_n 1 dL_law_350 rfl rfl ?_
                    refine go_aload_n 0 dL_law_351 rfl rfl ?_
                    refine go_iload_n 3 dL_law_352 rfl rfl ?_
                    refine go_iconst (v := 1) dL_law_353 (by decide) ?_
                    refine go_iadd dL_law_354 ?_
                    refine go_sld dL_law_355 (fun v69 _ => ?_)
                    refine go_aload_n 0 dL_law_356 rfl rfl ?_
                    refine go_iload_n 3 dL_law_357 rfl rfl ?_
                    refine go_iconst (v := 2) dL_law_358 (by decide) ?_
                    refine go_iadd dL_law_359 ?_
                    refine go_sld dL_law_360 (fun v70 _ => ?_)
                    refine go_callV_I (as := [vi v69, vi v70]) gk_RL_42 gmf_X11_rule (by decide) rfl (by omega) rfl rfl (Nat.le_of_ble_eq_true rfl) dL_law_361 (fun _ _ h => cX11_rule_c (by omega) h) (fun r71 s72 _ => ?_)
                    refine go_aload_n 2 dL_law_364 rfl rfl ?_
                    refine go_aload_n 0 dL_law_365 rfl rfl ?_
                    refine go_iload_n 3 dL_law_366 rfl rfl ?_
                    refine go_iconst (v := 1) dL_law_367 (by decide) ?_
                    refine go_iadd dL_law_368 ?_
                    refine go_sld dL_law_369 (fun v73 _ => ?_)
                    refine go_aload_n 0 dL_law_370 rfl rfl ?_
                    refine go_iload_n 3 dL_law_371 rfl rfl ?_
                    refine go_iconst (v := 2) dL_law_372 (by decide) ?_
                    refine go_iadd dL_law_373 ?_
                    refine go_sld dL_law_374 (fun v74 _ => ?_)
                    refine go_callV_I (as := [vi v73, vi v74]) gk_RL_45 gmf_X12_rule (by decide) rfl (by omega) rfl rfl (Nat.le_of_ble_eq_true rfl) dL_law_375 (fun _ _ h => cX12_rule_c (by omega) h) (fun r75 s76 _ => ?_)
                    refine go_icmp_eq (tgt := 1145) dL_law_378 (by decide) (fun h77 => ?_) (fun h77 => ?_)
                    · refine go_iinc (v := 6) (L' := [(3, vi (x3 + 6)), (0, vr 1), (1, vr a1), (2, vr a2)]) 3 dL_law_1145 rfl (by decide) (by decide) rfl ?_
                      refine go_goto (tgt := 18) dL_law_1148 (by decide) ?_
                      exact go_sub [1, 2, 3, 0] (ih (x3 + 6) s76) rfl
                    · refine go_iconst (v := 0) dL_law_381 (by decide) ?_
                      exact go_ret rfl dL_law_382
                  · refine go_ite (fun h78 => ?_) (fun h78 => ?_)
                    · refine go_tsIn (v := 7) (off := 350) (tgt := 383) dL_law_33 h78 (by decide) (by decide) (by decide) (by decide) ?_
                      refine go_aload_n 1 dL_law_383 rfl rfl ?_
                      refine go_aload_n 0 dL_law_384 rfl rfl ?_
                      refine go_iload_n 3 dL_law_385 rfl rfl ?_
                      refine go_iconst (v := 1) dL_law_386 (by decide) ?_
                      refine go_iadd dL_law_387 ?_
                      refine go_sld dL_law_388 (fun v79 _ => ?_)
                      refine go_aload_n 0 dL_law_389 rfl rfl ?_
                      refine go_iload_n 3 dL_law_390 rfl rfl ?_
                      refine go_iconst (v := 2) dL_law_391 (by decide) ?_
                      refine go_iadd dL_law_392 ?_
                      refine go_sld dL_law_393 (fun v80 _ => ?_)
                      refine go_aload_n 0 dL_law_394 rfl rfl ?_
                      refine go_iload_n 3 dL_law_395 rfl rfl ?_
                      refine go_iconst (v := 3) dL_law_396 (by decide) ?_
                      refine go_iadd dL_law_397 ?_
                      refine go_sld dL_law_398 (fun v81 _ => ?_)
                      refine go_callV_I (as := [vi v79, vi v80, vi v81]) gk_RL_46 gmf_X11_day (by decide) rfl (by omega) rfl rfl (Nat.le_of_ble_eq_true rfl) dL_law_399 (fun _ _ h => cX11_day_c (by omega) h) (fun r82 s83 _ => ?_)
                      refine go_aload_n 2 dL_law_402 rfl rfl ?_
                      refine go_aload_n 0 dL_law_403 rfl rfl ?_
                      refine go_iload_n 3 dL_law_404 rfl rfl ?_
                      refine go_iconst (v := 1) dL_law_405 (by decide) ?_
                      refine go_iadd dL_law_406 ?_
                      refine go_sld dL_law_407 (fun v84 _ => ?_)
                      refine go_aload_n 0 dL_law_408 rfl rfl ?_
                      refine go_iload_n 3 dL_law_409 rfl rfl ?_
                      refine go_iconst (v := 2) dL_law_410 (by decide) ?_
                      refine go_iadd dL_law_411 ?_
                      refine go_sld dL_law_412 (fun v85 _ => ?_)
                      refine go_aload_n 0 dL_law_413 rfl rfl ?_
                      refine go_iload_n 3 dL_law_414 rfl rfl ?_
                      refine go_iconst (v := 3) dL_law_415 (by decide) ?_
                      refine go_iadd dL_law_416 ?_
                      refine go_sld dL_law_417 (fun v86 _ => ?_)
                      refine go_callV_I (as := [vi v84, vi v85, vi v86]) gk_RL_50 gmf_X12_day (by decide) rfl (by omega) rfl rfl (Nat.le_of_ble_eq_true rfl) dL_law_418 (fun _ _ h => cX12_day_c (by omega) h) (fun r87 s88 _ => ?_)
                      refine go_icmp_eq (tgt := 1145) dL_law_421 (by decide) (fun h89 => ?_) (fun h89 => ?_)
                      · refine go_iinc (v := 6) (L' := [(3, vi (x3 + 6)), (0, vr 1), (1, vr a1), (2, vr a2)]) 3 dL_law_1145 rfl (by decide) (by decide) rfl ?_
                        refine go_goto (tgt := 18) dL_law_1148 (by decide) ?_
                        exact go_sub [1, 2, 3, 0] (ih (x3 + 6) s88) rfl
                      · refine go_iconst (v := 0) dL_law_424 (by decide) ?_
                        exact go_ret rfl dL_law_425
                    · refine go_ite (fun h90 => ?_) (fun h90 => ?_)
                      · refine go_tsIn (v := 8) (off := 393) (tgt := 426) dL_law_33 h90 (by decide) (by decide) (by decide) (by decide) ?_
                        refine go_aload_n 1 dL_law_426 rfl rfl ?_
                        refine go_aload_n 0 dL_law_427 rfl rfl ?_
                        refine go_iload_n 3 dL_law_428 rfl rfl ?_
                        refine go_iconst (v := 1) dL_law_429 (by decide) ?_
                        refine go_iadd dL_law_430 ?_
                        refine go_sld dL_law_431 (fun v91 _ => ?_)
                        refine go_aload_n 0 dL_law_432 rfl rfl ?_
                        refine go_iload_n 3 dL_law_433 rfl rfl ?_
                        refine go_iconst (v := 2) dL_law_434 (by decide) ?_
                        refine go_iadd dL_law_435 ?_
                        refine go_sld dL_law_436 (fun v92 _ => ?_)
                        refine go_callV_I (as := [vi v91, vi v92]) gk_RL_51 gmf_X11_date (by decide) rfl (by omega) rfl rfl (Nat.le_of_ble_eq_true rfl) dL_law_437 (fun _ _ h => cX11_date_c (by omega) h) (fun r93 s94 _ => ?_)
                        refine go_aload_n 2 dL_law_440 rfl rfl ?_
                        refine go_aload_n 0 dL_law_441 rfl rfl ?_
                        refine go_iload_n 3 dL_law_442 rfl rfl ?_
                        refine go_iconst (v := 1) dL_law_443 (by decide) ?_
                        refine go_iadd dL_law_444 ?_
                        refine go_sld dL_law_445 (fun v95 _ => ?_)
                        refine go_aload_n 0 dL_law_446 rfl rfl ?_
                        refine go_iload_n 3 dL_law_447 rfl rfl ?_
                        refine go_iconst (v := 2) dL_law_448 (by decide) ?_
                        refine go_iadd dL_law_449 ?_
                        refine go_sld dL_law_450 (fun v96 _ => ?_)
                        refine go_callV_I (as := [vi v95, vi v96]) gk_RL_54 gmf_X12_date_ (by decide) rfl (by omega) rfl rfl (Nat.le_of_ble_eq_true rfl) dL_law_451 (fun _ _ h => cX12_date__c (by omega) h) (fun r97 s98 _ => ?_)
                        refine go_icmp_eq (tgt := 1145) dL_law_454 (by decide) (fun h99 => ?_) (fun h99 => ?_)
                        · refine go_iinc (v := 6) (L' := [(3, vi (x3 + 6)), (0, vr 1), (1, vr a1), (2, vr a2)]) 3 dL_law_1145 rfl (by decide) (by decide) rfl ?_
                          refine go_goto (tgt := 18) dL_law_1148 (by decide) ?_
                          exact go_sub [1, 2, 3, 0] (ih (x3 + 6) s98) rfl
                        · refine go_iconst (v := 0) dL_law_457 (by decide) ?_
                          exact go_ret rfl dL_law_458
                      · refine go_ite (fun h100 => ?_) (fun h100 => ?_)
                        · refine go_tsIn (v := 9) (off := 426) (tgt := 459) dL_law_33 h100 (by decide) (by decide) (by decide) (by decide) ?_
                          refine go_aload_n 1 dL_law_459 rfl rfl ?_
                          refine go_aload_n 0 dL_law_460 rfl rfl ?_
                          refine go_iload_n 3 dL_law_461 rfl rfl ?_
                          refine go_iconst (v := 1) dL_law_462 (by decide) ?_
                          refine go_iadd dL_law_463 ?_
                          refine go_sld dL_law_464 (fun v101 _ => ?_)
                          refine go_aload_n 0 dL_law_465 rfl rfl ?_
                          refine go_iload_n 3 dL_law_466 rfl rfl ?_
                          refine go_iconst (v := 2) dL_law_467 (by decide) ?_
                          refine go_iadd dL_law_468 ?_
                          refine go_sld dL_law_469 (fun v102 _ => ?_)
                          refine go_callV_I (as := [vi v101, vi v102]) gk_RL_55 gmf_X11_on (by decide) rfl (by omega) rfl rfl (Nat.le_of_ble_eq_true rfl) dL_law_470 (fun _ _ h => cX11_on_c (by omega) h) (fun r103 s104 _ => ?_)
                          refine go_aload_n 2 dL_law_473 rfl rfl ?_
                          refine go_aload_n 0 dL_law_474 rfl rfl ?_
                          refine go_iload_n 3 dL_law_475 rfl rfl ?_
                          refine go_iconst (v := 1) dL_law_476 (by decide) ?_
                          refine go_iadd dL_law_477 ?_
                          refine go_sld dL_law_478 (fun v105 _ => ?_)
                          refine go_aload_n 0 dL_law_479 rfl rfl ?_
                          refine go_iload_n 3 dL_law_480 rfl rfl ?_
                          refine go_iconst (v := 2) dL_law_481 (by decide) ?_
                          refine go_iadd dL_law_482 ?_
                          refine go_sld dL_law_483 (fun v106 _ => ?_)
                          refine go_callV_I (as := [vi v105, vi v106]) gk_RL_58 gmf_X12_on (by decide) rfl (by omega) rfl rfl (Nat.le_of_ble_eq_true rfl) dL_law_484 (fun _ _ h => cX12_on_c (by omega) h) (fun r107 s108 _ => ?_)
                          refine go_icmp_eq (tgt := 1145) dL_law_487 (by decide) (fun h109 => ?_) (fun h109 => ?_)
                          · refine go_iinc (v := 6) (L' := [(3, vi (x3 + 6)), (0, vr 1), (1, vr a1), (2, vr a2)]) 3 dL_law_1145 rfl (by decide) (by decide) rfl ?_
                            refine go_goto (tgt := 18) dL_law_1148 (by decide) ?_
                            exact go_sub [1, 2, 3, 0] (ih (x3 + 6) s108) rfl
                          · refine go_iconst (v := 0) dL_law_490 (by decide) ?_
                            exact go_ret rfl dL_law_491
                        · refine go_ite (fun h110 => ?_) (fun h110 => ?_)
                          · refine go_tsIn (v := 10) (off := 459) (tgt := 492) dL_law_33 h110 (by decide) (by decide) (by decide) (by decide) ?_
                            refine go_aload_n 1 dL_law_492 rfl rfl ?_
                            refine go_aload_n 0 dL_law_493 rfl rfl ?_
                            refine go_iload_n 3 dL_law_494 rfl rfl ?_
                            refine go_iconst (v := 1) dL_law_495 (by decide) ?_
                            refine go_iadd dL_law_496 ?_
                            refine go_sld dL_law_497 (fun v111 _ => ?_)
                            refine go_aload_n 0 dL_law_498 rfl rfl ?_
                            refine go_iload_n 3 dL_law_499 rfl rfl ?_
                            refine go_iconst (v := 2) dL_law_500 (by decide) ?_
                            refine go_iadd dL_law_501 ?_
                            refine go_sld dL_law_502 (fun v112 _ => ?_)
                            refine go_callV_I (as := [vi v111, vi v112]) gk_RL_59 gmf_X11_next (by decide) rfl (by omega) rfl rfl (Nat.le_of_ble_eq_true rfl) dL_law_503 (fun _ _ h => cX11_next_c (by omega) h) (fun r113 s114 _ => ?_)
                            refine go_aload_n 2 dL_law_506 rfl rfl ?_
                            refine go_aload_n 0 dL_law_507 rfl rfl ?_
                            refine go_iload_n 3 dL_law_508 rfl rfl ?_
                            refine go_iconst (v := 1) dL_law_509 (by decide) ?_
                            refine go_iadd dL_law_510 ?_
                            refine go_sld dL_law_511 (fun v115 _ => ?_)
                            refine go_aload_n 0 dL_law_512 rfl rfl ?_
                            refine go_iload_n 3 dL_law_513 rfl rfl ?_
                            refine go_iconst (v := 2) dL_law_514 (by decide) ?_
                            refine go_iadd dL_law_515 ?_
                            refine go_sld dL_law_516 (fun v116 _ => ?_)
                            refine go_callV_I (as := [vi v115, vi v116]) gk_RL_62 gmf_X12_next (by decide) rfl (by omega) rfl rfl (Nat.le_of_ble_eq_true rfl) dL_law_517 (fun _ _ h => cX12_next_c (by omega) h) (fun r117 s118 _ => ?_)
                            refine go_icmp_eq (tgt := 1145) dL_law_520 (by decide) (fun h119 => ?_) (fun h119 => ?_)
                            · refine go_iinc (v := 6) (L' := [(3, vi (x3 + 6)), (0, vr 1), (1, vr a1), (2, vr a2)]) 3 dL_law_1145 rfl (by decide) (by decide) rfl ?_
                              refine go_goto (tgt := 18) dL_law_1148 (by decide) ?_
                              exact go_sub [1, 2, 3, 0] (ih (x3 + 6) s118) rfl
                            · refine go_iconst (v := 0) dL_law_523 (by decide) ?_
                              exact go_ret rfl dL_law_524
                          · refine go_ite (fun h120 => ?_) (fun h120 => ?_)
                            · refine go_tsIn (v := 11) (off := 492) (tgt := 525) dL_law_33 h120 (by decide) (by decide) (by decide) (by decide) ?_
                              refine go_aload_n 1 dL_law_525 rfl rfl ?_
                              refine go_aload_n 0 dL_law_526 rfl rfl ?_
                              refine go_iload_n 3 dL_law_527 rfl rfl ?_
                              refine go_iconst (v := 1) dL_law_528 (by decide) ?_
                              refine go_iadd dL_law_529 ?_
                              refine go_sld dL_law_530 (fun v121 _ => ?_)
                              refine go_aload_n 0 dL_law_531 rfl rfl ?_
                              refine go_iload_n 3 dL_law_532 rfl rfl ?_
                              refine go_iconst (v := 2) dL_law_533 (by decide) ?_
                              refine go_iadd dL_law_534 ?_
                              refine go_sld dL_law_535 (fun v122 _ => ?_)
                              refine go_callV_I (as := [vi v121, vi v122]) gk_RL_63 gmf_X11_ahead (by decide) rfl (by omega) rfl rfl (Nat.le_of_ble_eq_true rfl) dL_law_536 (fun _ _ h => cX11_ahead_c (by omega) h) (fun r123 s124 _ => ?_)
                              refine go_aload_n 2 dL_law_539 rfl rfl ?_
                              refine go_aload_n 0 dL_law_540 rfl rfl ?_
                              refine go_iload_n 3 dL_law_541 rfl rfl ?_
                              refine go_iconst (v := 1) dL_law_542 (by decide) ?_
                              refine go_iadd dL_law_543 ?_
                              refine go_sld dL_law_544 (fun v125 _ => ?_)
                              refine go_aload_n 0 dL_law_545 rfl rfl ?_
                              refine go_iload_n 3 dL_law_546 rfl rfl ?_
                              refine go_iconst (v := 2) dL_law_547 (by decide) ?_
                              refine go_iadd dL_law_548 ?_
                              refine go_sld dL_law_549 (fun v126 _ => ?_)
                              refine go_callV_I (as := [vi v125, vi v126]) gk_RL_66 gmf_X12_ahead (by decide) rfl (by omega) rfl rfl (Nat.le_of_ble_eq_true rfl) dL_law_550 (fun _ _ h => cX12_ahead_c (by omega) h) (fun r127 s128 _ => ?_)
                              refine go_icmp_eq (tgt := 1145) dL_law_553 (by decide) (fun h129 => ?_) (fun h129 => ?_)
                              · refine go_iinc (v := 6) (L' := [(3, vi (x3 + 6)), (0, vr 1), (1, vr a1), (2, vr a2)]) 3 dL_law_1145 rfl (by decide) (by decide) rfl ?_
                                refine go_goto (tgt := 18) dL_law_1148 (by decide) ?_
                                exact go_sub [1, 2, 3, 0] (ih (x3 + 6) s128) rfl
                              · refine go_iconst (v := 0) dL_law_556 (by decide) ?_
                                exact go_ret rfl dL_law_557
                            · refine go_ite (fun h130 => ?_) (fun h130 => ?_)
                              · refine go_tsIn (v := 12) (off := 525) (tgt := 558) dL_law_33 h130 (by decide) (by decide) (by decide) (by decide) ?_
                                refine go_aload_n 1 dL_law_558 rfl rfl ?_
                                refine go_aload_n 0 dL_law_559 rfl rfl ?_
                                refine go_iload_n 3 dL_law_560 rfl rfl ?_
                                refine go_iconst (v := 1) dL_law_561 (by decide) ?_
                                refine go_iadd dL_law_562 ?_
                                refine go_sld dL_law_563 (fun v131 _ => ?_)
                                refine go_aload_n 0 dL_law_564 rfl rfl ?_
                                refine go_iload_n 3 dL_law_565 rfl rfl ?_
                                refine go_iconst (v := 2) dL_law_566 (by decide) ?_
                                refine go_iadd dL_law_567 ?_
                                refine go_sld dL_law_568 (fun v132 _ => ?_)
                                refine go_callV_I (as := [vi v131, vi v132]) gk_RL_67 gmf_X11_nth (by decide) rfl (by omega) rfl rfl (Nat.le_of_ble_eq_true rfl) dL_law_569 (fun _ _ h => cX11_nth_c (by omega) h) (fun r133 s134 _ => ?_)
                                refine go_aload_n 2 dL_law_572 rfl rfl ?_
                                refine go_aload_n 0 dL_law_573 rfl rfl ?_
                                refine go_iload_n 3 dL_law_574 rfl rfl ?_
                                refine go_iconst (v := 1) dL_law_575 (by decide) ?_
                                refine go_iadd dL_law_576 ?_
                                refine go_sld dL_law_577 (fun v135 _ => ?_)
                                refine go_aload_n 0 dL_law_578 rfl rfl ?_
                                refine go_iload_n 3 dL_law_579 rfl rfl ?_
                                refine go_iconst (v := 2) dL_law_580 (by decide) ?_
                                refine go_iadd dL_law_581 ?_
                                refine go_sld dL_law_582 (fun v136 _ => ?_)
                                refine go_callV_I (as := [vi v135, vi v136]) gk_RL_70 gmf_X12_nth (by decide) rfl (by omega) rfl rfl (Nat.le_of_ble_eq_true rfl) dL_law_583 (fun _ _ h => cX12_nth_c (by omega) h) (fun r137 s138 _ => ?_)
                                refine go_icmp_eq (tgt := 1145) dL_law_586 (by decide) (fun h139 => ?_) (fun h139 => ?_)
                                · refine go_iinc (v := 6) (L' := [(3, vi (x3 + 6)), (0, vr 1), (1, vr a1), (2, vr a2)]) 3 dL_law_1145 rfl (by decide) (by decide) rfl ?_
                                  refine go_goto (tgt := 18) dL_law_1148 (by decide) ?_
                                  exact go_sub [1, 2, 3, 0] (ih (x3 + 6) s138) rfl
                                · refine go_iconst (v := 0) dL_law_589 (by decide) ?_
                                  exact go_ret rfl dL_law_590
                              · refine go_ite (fun h140 => ?_) (fun h140 => ?_)
                                · refine go_tsIn (v := 13) (off := 558) (tgt := 591) dL_law_33 h140 (by decide) (by decide) (by decide) (by decide) ?_
                                  refine go_aload_n 1 dL_law_591 rfl rfl ?_
                                  refine go_aload_n 0 dL_law_592 rfl rfl ?_
                                  refine go_iload_n 3 dL_law_593 rfl rfl ?_
                                  refine go_iconst (v := 1) dL_law_594 (by decide) ?_
                                  refine go_iadd dL_law_595 ?_
                                  refine go_sld dL_law_596 (fun v141 _ => ?_)
                                  refine go_aload_n 0 dL_law_597 rfl rfl ?_
                                  refine go_iload_n 3 dL_law_598 rfl rfl ?_
                                  refine go_iconst (v := 2) dL_law_599 (by decide) ?_
                                  refine go_iadd dL_law_600 ?_
                                  refine go_sld dL_law_601 (fun v142 _ => ?_)
                                  refine go_aload_n 0 dL_law_602 rfl rfl ?_
                                  refine go_iload_n 3 dL_law_603 rfl rfl ?_
                                  refine go_iconst (v := 3) dL_law_604 (by decide) ?_
                                  refine go_iadd dL_law_605 ?_
                                  refine go_sld dL_law_606 (fun v143 _ => ?_)
                                  refine go_callV_I (as := [vi v141, vi v142, vi v143]) gk_RL_71 gmf_X11_many (by decide) rfl (by omega) rfl rfl (Nat.le_of_ble_eq_true rfl) dL_law_607 (fun _ _ h => cX11_many_c (by omega) h) (fun r144 s145 _ => ?_)
                                  refine go_aload_n 2 dL_law_610 rfl rfl ?_
                                  refine go_aload_n 0 dL_law_611 rfl rfl ?_
                                  refine go_iload_n 3 dL_law_612 rfl rfl ?_
                                  refine go_iconst (v := 1) dL_law_613 (by decide) ?_
                                  refine go_iadd dL_law_614 ?_
                                  refine go_sld dL_law_615 (fun v146 _ => ?_)
                                  refine go_aload_n 0 dL_law_616 rfl rfl ?_
                                  refine go_iload_n 3 dL_law_617 rfl rfl ?_
                                  refine go_iconst (v := 2) dL_law_618 (by decide) ?_
                                  refine go_iadd dL_law_619 ?_
                                  refine go_sld dL_law_620 (fun v147 _ => ?_)
                                  refine go_aload_n 0 dL_law_621 rfl rfl ?_
                                  refine go_iload_n 3 dL_law_622 rfl rfl ?_
                                  refine go_iconst (v := 3) dL_law_623 (by decide) ?_
                                  refine go_iadd dL_law_624 ?_
                                  refine go_sld dL_law_625 (fun v148 _ => ?_)
                                  refine go_callV_I (as := [vi v146, vi v147, vi v148]) gk_RL_74 gmf_X12_many (by decide) rfl (by omega) rfl rfl (Nat.le_of_ble_eq_true rfl) dL_law_626 (fun _ _ h => cX12_many_c (by omega) h) (fun r149 s150 _ => ?_)
                                  refine go_icmp_eq (tgt := 1145) dL_law_629 (by decide) (fun h151 => ?_) (fun h151 => ?_)
                                  · refine go_iinc (v := 6) (L' := [(3, vi (x3 + 6)), (0, vr 1), (1, vr a1), (2, vr a2)]) 3 dL_law_1145 rfl (by decide) (by decide) rfl ?_
                                    refine go_goto (tgt := 18) dL_law_1148 (by decide) ?_
                                    exact go_sub [1, 2, 3, 0] (ih (x3 + 6) s150) rfl
                                  · refine go_iconst (v := 0) dL_law_632 (by decide) ?_
                                    exact go_ret rfl dL_law_633
                                · refine go_ite (fun h152 => ?_) (fun h152 => ?_)
                                  · refine go_tsIn (v := 14) (off := 601) (tgt := 634) dL_law_33 h152 (by decide) (by decide) (by decide) (by decide) ?_
                                    refine go_aload_n 1 dL_law_634 rfl rfl ?_
                                    refine go_aload_n 0 dL_law_635 rfl rfl ?_
                                    refine go_iload_n 3 dL_law_636 rfl rfl ?_
                                    refine go_iconst (v := 1) dL_law_637 (by decide) ?_
                                    refine go_iadd dL_law_638 ?_
                                    refine go_sld dL_law_639 (fun v153 _ => ?_)
                                    refine go_aload_n 0 dL_law_640 rfl rfl ?_
                                    refine go_iload_n 3 dL_law_641 rfl rfl ?_
                                    refine go_iconst (v := 2) dL_law_642 (by decide) ?_
                                    refine go_iadd dL_law_643 ?_
                                    refine go_sld dL_law_644 (fun v154 _ => ?_)
                                    refine go_callV_I (as := [vi v153, vi v154]) gk_RL_75 gmf_X11_gap (by decide) rfl (by omega) rfl rfl (Nat.le_of_ble_eq_true rfl) dL_law_645 (fun _ _ h => cX11_gap_c (by omega) h) (fun r155 s156 _ => ?_)
                                    refine go_aload_n 2 dL_law_648 rfl rfl ?_
                                    refine go_aload_n 0 dL_law_649 rfl rfl ?_
                                    refine go_iload_n 3 dL_law_650 rfl rfl ?_
                                    refine go_iconst (v := 1) dL_law_651 (by decide) ?_
                                    refine go_iadd dL_law_652 ?_
                                    refine go_sld dL_law_653 (fun v157 _ => ?_)
                                    refine go_aload_n 0 dL_law_654 rfl rfl ?_
                                    refine go_iload_n 3 dL_law_655 rfl rfl ?_
                                    refine go_iconst (v := 2) dL_law_656 (by decide) ?_
                                    refine go_iadd dL_law_657 ?_
                                    refine go_sld dL_law_658 (fun v158 _ => ?_)
                                    refine go_callV_I (as := [vi v157, vi v158]) gk_RL_78 gmf_X12_gap (by decide) rfl (by omega) rfl rfl (Nat.le_of_ble_eq_true rfl) dL_law_659 (fun _ _ h => cX12_gap_c (by omega) h) (fun r159 s160 _ => ?_)
                                    refine go_icmp_eq (tgt := 1145) dL_law_662 (by decide) (fun h161 => ?_) (fun h161 => ?_)
                                    · refine go_iinc (v := 6) (L' := [(3, vi (x3 + 6)), (0, vr 1), (1, vr a1), (2, vr a2)]) 3 dL_law_1145 rfl (by decide) (by decide) rfl ?_
                                      refine go_goto (tgt := 18) dL_law_1148 (by decide) ?_
                                      exact go_sub [1, 2, 3, 0] (ih (x3 + 6) s160) rfl
                                    · refine go_iconst (v := 0) dL_law_665 (by decide) ?_
                                      exact go_ret rfl dL_law_666
                                  · refine go_ite (fun h162 => ?_) (fun h162 => ?_)
                                    · refine go_tsIn (v := 15) (off := 634) (tgt := 667) dL_law_33 h162 (by decide) (by decide) (by decide) (by decide) ?_
                                      refine go_aload_n 1 dL_law_667 rfl rfl ?_
                                      refine go_aload_n 0 dL_law_668 rfl rfl ?_
                                      refine go_iload_n 3 dL_law_669 rfl rfl ?_
                                      refine go_iconst (v := 1) dL_law_670 (by decide) ?_
                                      refine go_iadd dL_law_671 ?_
                                      refine go_sld dL_law_672 (fun v163 _ => ?_)
                                      refine go_aload_n 0 dL_law_673 rfl rfl ?_
                                      refine go_iload_n 3 dL_law_674 rfl rfl ?_
                                      refine go_iconst (v := 2) dL_law_675 (by decide) ?_
                                      refine go_iadd dL_law_676 ?_
                                      refine go_sld dL_law_677 (fun v164 _ => ?_)
                                      refine go_aload_n 0 dL_law_678 rfl rfl ?_
                                      refine go_iload_n 3 dL_law_679 rfl rfl ?_
                                      refine go_iconst (v := 3) dL_law_680 (by decide) ?_
                                      refine go_iadd dL_law_681 ?_
                                      refine go_sld dL_law_682 (fun v165 _ => ?_)
                                      refine go_callV_I (as := [vi v163, vi v164, vi v165]) gk_RL_79 gmf_X11_free (by decide) rfl (by omega) rfl rfl (Nat.le_of_ble_eq_true rfl) dL_law_683 (fun _ _ h => cX11_free_c (by omega) h) (fun r166 s167 _ => ?_)
                                      refine go_aload_n 2 dL_law_686 rfl rfl ?_
                                      refine go_aload_n 0 dL_law_687 rfl rfl ?_
                                      refine go_iload_n 3 dL_law_688 rfl rfl ?_
                                      refine go_iconst (v := 1) dL_law_689 (by decide) ?_
                                      refine go_iadd dL_law_690 ?_
                                      refine go_sld dL_law_691 (fun v168 _ => ?_)
                                      refine go_aload_n 0 dL_law_692 rfl rfl ?_
                                      refine go_iload_n 3 dL_law_693 rfl rfl ?_
                                      refine go_iconst (v := 2) dL_law_694 (by decide) ?_
                                      refine go_iadd dL_law_695 ?_
                                      refine go_sld dL_law_696 (fun v169 _ => ?_)
                                      refine go_aload_n 0 dL_law_697 rfl rfl ?_
                                      refine go_iload_n 3 dL_law_698 rfl rfl ?_
                                      refine go_iconst (v := 3) dL_law_699 (by decide) ?_
                                      refine go_iadd dL_law_700 ?_
                                      refine go_sld dL_law_701 (fun v170 _ => ?_)
                                      refine go_callV_I (as := [vi v168, vi v169, vi v170]) gk_RL_82 gmf_X12_free (by decide) rfl (by omega) rfl rfl (Nat.le_of_ble_eq_true rfl) dL_law_702 (fun _ _ h => cX12_free_c (by omega) h) (fun r171 s172 _ => ?_)
                                      refine go_icmp_eq (tgt := 1145) dL_law_705 (by decide) (fun h173 => ?_) (fun h173 => ?_)
                                      · refine go_iinc (v := 6) (L' := [(3, vi (x3 + 6)), (0, vr 1), (1, vr a1), (2, vr a2)]) 3 dL_law_1145 rfl (by decide) (by decide) rfl ?_
                                        refine go_goto (tgt := 18) dL_law_1148 (by decide) ?_
                                        exact go_sub [1, 2, 3, 0] (ih (x3 + 6) s172) rfl
                                      · refine go_iconst (v := 0) dL_law_708 (by decide) ?_
                                        exact go_ret rfl dL_law_709
                                    · refine go_ite (fun h174 => ?_) (fun h174 => ?_)
                                      · refine go_tsIn (v := 16) (off := 677) (tgt := 710) dL_law_33 h174 (by decide) (by decide) (by decide) (by decide) ?_
                                        refine go_aload_n 1 dL_law_710 rfl rfl ?_
                                        refine go_aload_n 0 dL_law_711 rfl rfl ?_
                                        refine go_iload_n 3 dL_law_712 rfl rfl ?_
                                        refine go_iconst (v := 1) dL_law_713 (by decide) ?_
                                        refine go_iadd dL_law_714 ?_
                                        refine go_sld dL_law_715 (fun v175 _ => ?_)
                                        refine go_aload_n 0 dL_law_716 rfl rfl ?_
                                        refine go_iload_n 3 dL_law_717 rfl rfl ?_
                                        refine go_iconst (v := 2) dL_law_718 (by decide) ?_
                                        refine go_iadd dL_law_719 ?_
                                        refine go_sld dL_law_720 (fun v176 _ => ?_)
                                        refine go_aload_n 0 dL_law_721 rfl rfl ?_
                                        refine go_iload_n 3 dL_law_722 rfl rfl ?_
                                        refine go_iconst (v := 3) dL_law_723 (by decide) ?_
                                        refine go_iadd dL_law_724 ?_
                                        refine go_sld dL_law_725 (fun v177 _ => ?_)
                                        refine go_aload_n 0 dL_law_726 rfl rfl ?_
                                        refine go_iload_n 3 dL_law_727 rfl rfl ?_
                                        refine go_iconst (v := 4) dL_law_728 (by decide) ?_
                                        refine go_iadd dL_law_729 ?_
                                        refine go_sld dL_law_730 (fun v178 _ => ?_)
                                        refine go_callV_I (as := [vi v175, vi v176, vi v177, vi v178]) gk_RL_83 gmf_X11_meet (by decide) rfl (by omega) rfl rfl (Nat.le_of_ble_eq_true rfl) dL_law_731 (fun _ _ h => cX11_meet_c (by omega) h) (fun r179 s180 _ => ?_)
                                        refine go_aload_n 2 dL_law_734 rfl rfl ?_
                                        refine go_aload_n 0 dL_law_735 rfl rfl ?_
                                        refine go_iload_n 3 dL_law_736 rfl rfl ?_
                                        refine go_iconst (v := 1) dL_law_737 (by decide) ?_
                                        refine go_iadd dL_law_738 ?_
                                        refine go_sld dL_law_739 (fun v181 _ => ?_)
                                        refine go_aload_n 0 dL_law_740 rfl rfl ?_
                                        refine go_iload_n 3 dL_law_741 rfl rfl ?_
                                        refine go_iconst (v := 2) dL_law_742 (by decide) ?_
                                        refine go_iadd dL_law_743 ?_
                                        refine go_sld dL_law_744 (fun v182 _ => ?_)
                                        refine go_aload_n 0 dL_law_745 rfl rfl ?_
                                        refine go_iload_n 3 dL_law_746 rfl rfl ?_
                                        refine go_iconst (v := 3) dL_law_747 (by decide) ?_
                                        refine go_iadd dL_law_748 ?_
                                        refine go_sld dL_law_749 (fun v183 _ => ?_)
                                        refine go_aload_n 0 dL_law_750 rfl rfl ?_
                                        refine go_iload_n 3 dL_law_751 rfl rfl ?_
                                        refine go_iconst (v := 4) dL_law_752 (by decide) ?_
                                        refine go_iadd dL_law_753 ?_
                                        refine go_sld dL_law_754 (fun v184 _ => ?_)
                                        refine go_callV_I (as := [vi v181, vi v182, vi v183, vi v184]) gk_RL_87 gmf_X12_meet (by decide) rfl (by omega) rfl rfl (Nat.le_of_ble_eq_true rfl) dL_law_755 (fun _ _ h => cX12_meet_c (by omega) h) (fun r185 s186 _ => ?_)
                                        refine go_icmp_eq (tgt := 1145) dL_law_758 (by decide) (fun h187 => ?_) (fun h187 => ?_)
                                        · refine go_iinc (v := 6) (L' := [(3, vi (x3 + 6)), (0, vr 1), (1, vr a1), (2, vr a2)]) 3 dL_law_1145 rfl (by decide) (by decide) rfl ?_
                                          refine go_goto (tgt := 18) dL_law_1148 (by decide) ?_
                                          exact go_sub [1, 2, 3, 0] (ih (x3 + 6) s186) rfl
                                        · refine go_iconst (v := 0) dL_law_761 (by decide) ?_
                                          exact go_ret rfl dL_law_762
                                      · refine go_ite (fun h188 => ?_) (fun h188 => ?_)
                                        · refine go_tsIn (v := 17) (off := 730) (tgt := 763) dL_law_33 h188 (by decide) (by decide) (by decide) (by decide) ?_
                                          refine go_aload_n 1 dL_law_763 rfl rfl ?_
                                          refine go_aload_n 0 dL_law_764 rfl rfl ?_
                                          refine go_iload_n 3 dL_law_765 rfl rfl ?_
                                          refine go_iconst (v := 1) dL_law_766 (by decide) ?_
                                          refine go_iadd dL_law_767 ?_
                                          refine go_sld dL_law_768 (fun v189 _ => ?_)
                                          refine go_aload_n 0 dL_law_769 rfl rfl ?_
                                          refine go_iload_n 3 dL_law_770 rfl rfl ?_
                                          refine go_iconst (v := 2) dL_law_771 (by decide) ?_
                                          refine go_iadd dL_law_772 ?_
                                          refine go_sld dL_law_773 (fun v190 _ => ?_)
                                          refine go_callV_I (as := [vi v189, vi v190]) gk_RL_88 gmf_X11_fares (by decide) rfl (by omega) rfl rfl (Nat.le_of_ble_eq_true rfl) dL_law_774 (fun _ _ h => cX11_fares_c (by omega) h) (fun r191 s192 _ => ?_)
                                          refine go_aload_n 2 dL_law_777 rfl rfl ?_
                                          refine go_aload_n 0 dL_law_778 rfl rfl ?_
                                          refine go_iload_n 3 dL_law_779 rfl rfl ?_
                                          refine go_iconst (v := 1) dL_law_780 (by decide) ?_
                                          refine go_iadd dL_law_781 ?_
                                          refine go_sld dL_law_782 (fun v193 _ => ?_)
                                          refine go_aload_n 0 dL_law_783 rfl rfl ?_
                                          refine go_iload_n 3 dL_law_784 rfl rfl ?_
                                          refine go_iconst (v := 2) dL_law_785 (by decide) ?_
                                          refine go_iadd dL_law_786 ?_
                                          refine go_sld dL_law_787 (fun v194 _ => ?_)
                                          refine go_callV_I (as := [vi v193, vi v194]) gk_RL_91 gmf_X12_fares (by decide) rfl (by omega) rfl rfl (Nat.le_of_ble_eq_true rfl) dL_law_788 (fun _ _ h => cX12_fares_c (by omega) h) (fun r195 s196 _ => ?_)
                                          refine go_icmp_eq (tgt := 1145) dL_law_791 (by decide) (fun h197 => ?_) (fun h197 => ?_)
                                          · refine go_iinc (v := 6) (L' := [(3, vi (x3 + 6)), (0, vr 1), (1, vr a1), (2, vr a2)]) 3 dL_law_1145 rfl (by decide) (by decide) rfl ?_
                                            refine go_goto (tgt := 18) dL_law_1148 (by decide) ?_
                                            exact go_sub [1, 2, 3, 0] (ih (x3 + 6) s196) rfl
                                          · refine go_iconst (v := 0) dL_law_794 (by decide) ?_
                                            exact go_ret rfl dL_law_795
                                        · refine go_ite (fun h198 => ?_) (fun h198 => ?_)
                                          · refine go_tsIn (v := 18) (off := 763) (tgt := 796) dL_law_33 h198 (by decide) (by decide) (by decide) (by decide) ?_
                                            refine go_aload_n 1 dL_law_796 rfl rfl ?_
                                            refine go_aload_n 0 dL_law_797 rfl rfl ?_
                                            refine go_iload_n 3 dL_law_798 rfl rfl ?_
                                            refine go_iconst (v := 1) dL_law_799 (by decide) ?_
                                            refine go_iadd dL_law_800 ?_
                                            refine go_sld dL_law_801 (fun v199 _ => ?_)
                                            refine go_aload_n 0 dL_law_802 rfl rfl ?_
                                            refine go_iload_n 3 dL_law_803 rfl rfl ?_
                                            refine go_iconst (v := 2) dL_law_804 (by decide) ?_
                                            refine go_iadd dL_law_805 ?_
                                            refine go_sld dL_law_806 (fun v200 _ => ?_)
                                            refine go_aload_n 0 dL_law_807 rfl rfl ?_
                                            refine go_iload_n 3 dL_law_808 rfl rfl ?_
                                            refine go_iconst (v := 3) dL_law_809 (by decide) ?_
                                            refine go_iadd dL_law_810 ?_
                                            refine go_sld dL_law_811 (fun v201 _ => ?_)
                                            refine go_callV_I (as := [vi v199, vi v200, vi v201]) gk_RL_92 gmf_X11_period (by decide) rfl (by omega) rfl rfl (Nat.le_of_ble_eq_true rfl) dL_law_812 (fun _ _ h => cX11_period_c (by omega) h) (fun r202 s203 _ => ?_)
                                            refine go_aload_n 2 dL_law_815 rfl rfl ?_
                                            refine go_aload_n 0 dL_law_816 rfl rfl ?_
                                            refine go_iload_n 3 dL_law_817 rfl rfl ?_
                                            refine go_iconst (v := 1) dL_law_818 (by decide) ?_
                                            refine go_iadd dL_law_819 ?_
                                            refine go_sld dL_law_820 (fun v204 _ => ?_)
                                            refine go_aload_n 0 dL_law_821 rfl rfl ?_
                                            refine go_iload_n 3 dL_law_822 rfl rfl ?_
                                            refine go_iconst (v := 2) dL_law_823 (by decide) ?_
                                            refine go_iadd dL_law_824 ?_
                                            refine go_sld dL_law_825 (fun v205 _ => ?_)
                                            refine go_aload_n 0 dL_law_826 rfl rfl ?_
                                            refine go_iload_n 3 dL_law_827 rfl rfl ?_
                                            refine go_iconst (v := 3) dL_law_828 (by decide) ?_
                                            refine go_iadd dL_law_829 ?_
                                            refine go_sld dL_law_830 (fun v206 _ => ?_)
                                            refine go_callV_I (as := [vi v204, vi v205, vi v206]) gk_RL_95 gmf_X12_period (by decide) rfl (by omega) rfl rfl (Nat.le_of_ble_eq_true rfl) dL_law_831 (fun _ _ h => cX12_period_c (by omega) h) (fun r207 s208 _ => ?_)
                                            refine go_icmp_eq (tgt := 1145) dL_law_834 (by decide) (fun h209 => ?_) (fun h209 => ?_)
                                            · refine go_iinc (v := 6) (L' := [(3, vi (x3 + 6)), (0, vr 1), (1, vr a1), (2, vr a2)]) 3 dL_law_1145 rfl (by decide) (by decide) rfl ?_
                                              refine go_goto (tgt := 18) dL_law_1148 (by decide) ?_
                                              exact go_sub [1, 2, 3, 0] (ih (x3 + 6) s208) rfl
                                            · refine go_iconst (v := 0) dL_law_837 (by decide) ?_
                                              exact go_ret rfl dL_law_838
                                          · refine go_ite (fun h210 => ?_) (fun h210 => ?_)
                                            · refine go_tsIn (v := 19) (off := 806) (tgt := 839) dL_law_33 h210 (by decide) (by decide) (by decide) (by decide) ?_
                                              refine go_aload_n 1 dL_law_839 rfl rfl ?_
                                              refine go_aload_n 0 dL_law_840 rfl rfl ?_
                                              refine go_iload_n 3 dL_law_841 rfl rfl ?_
                                              refine go_iconst (v := 1) dL_law_842 (by decide) ?_
                                              refine go_iadd dL_law_843 ?_
                                              refine go_sld dL_law_844 (fun v211 _ => ?_)
                                              refine go_callV_I (as := [vi v211]) gk_RL_96 gmf_X11_sum (by decide) rfl (by omega) rfl rfl (Nat.le_of_ble_eq_true rfl) dL_law_845 (fun _ _ h => cX11_sum_c (by omega) h) (fun r212 s213 _ => ?_)
                                              refine go_aload_n 2 dL_law_848 rfl rfl ?_
                                              refine go_aload_n 0 dL_law_849 rfl rfl ?_
                                              refine go_iload_n 3 dL_law_850 rfl rfl ?_
                                              refine go_iconst (v := 1) dL_law_851 (by decide) ?_
                                              refine go_iadd dL_law_852 ?_
                                              refine go_sld dL_law_853 (fun v214 _ => ?_)
                                              refine go_callV_I (as := [vi v214]) gk_RL_99 gmf_X12_sum (by decide) rfl (by omega) rfl rfl (Nat.le_of_ble_eq_true rfl) dL_law_854 (fun _ _ h => cX12_sum_c (by omega) h) (fun r215 s216 _ => ?_)
                                              refine go_icmp_eq (tgt := 1145) dL_law_857 (by decide) (fun h217 => ?_) (fun h217 => ?_)
                                              · refine go_iinc (v := 6) (L' := [(3, vi (x3 + 6)), (0, vr 1), (1, vr a1), (2, vr a2)]) 3 dL_law_1145 rfl (by decide) (by decide) rfl ?_
                                                refine go_goto (tgt := 18) dL_law_1148 (by decide) ?_
                                                exact go_sub [1, 2, 3, 0] (ih (x3 + 6) s216) rfl
                                              · refine go_iconst (v := 0) dL_law_860 (by decide) ?_
                                                exact go_ret rfl dL_law_861
                                            · refine go_ite (fun h218 => ?_) (fun h218 => ?_)
                                              · refine go_tsIn (v := 20) (off := 829) (tgt := 862) dL_law_33 h218 (by decide) (by decide) (by decide) (by decide) ?_
                                                refine go_aload_n 1 dL_law_862 rfl rfl ?_
                                                refine go_aload_n 0 dL_law_863 rfl rfl ?_
                                                refine go_iload_n 3 dL_law_864 rfl rfl ?_
                                                refine go_iconst (v := 1) dL_law_865 (by decide) ?_
                                                refine go_iadd dL_law_866 ?_
                                                refine go_sld dL_law_867 (fun v219 _ => ?_)
                                                refine go_callV_I (as := [vi v219]) gk_RL_100 gmf_X11_see (by decide) rfl (by omega) rfl rfl (Nat.le_of_ble_eq_true rfl) dL_law_868 (fun _ _ h => cX11_see_c (by omega) h) (fun r220 s221 _ => ?_)
                                                refine go_aload_n 2 dL_law_871 rfl rfl ?_
                                                refine go_aload_n 0 dL_law_872 rfl rfl ?_
                                                refine go_iload_n 3 dL_law_873 rfl rfl ?_
                                                refine go_iconst (v := 1) dL_law_874 (by decide) ?_
                                                refine go_iadd dL_law_875 ?_
                                                refine go_sld dL_law_876 (fun v222 _ => ?_)
                                                refine go_callV_I (as := [vi v222]) gk_RL_103 gmf_X12_see (by decide) rfl (by omega) rfl rfl (Nat.le_of_ble_eq_true rfl) dL_law_877 (fun _ _ h => cX12_see_c (by omega) h) (fun r223 s224 _ => ?_)
                                                refine go_icmp_eq (tgt := 1145) dL_law_880 (by decide) (fun h225 => ?_) (fun h225 => ?_)
                                                · refine go_iinc (v := 6) (L' := [(3, vi (x3 + 6)), (0, vr 1), (1, vr a1), (2, vr a2)]) 3 dL_law_1145 rfl (by decide) (by decide) rfl ?_
                                                  refine go_goto (tgt := 18) dL_law_1148 (by decide) ?_
                                                  exact go_sub [1, 2, 3, 0] (ih (x3 + 6) s224) rfl
                                                · refine go_iconst (v := 0) dL_law_883 (by decide) ?_
                                                  exact go_ret rfl dL_law_884
                                              · refine go_ite (fun h226 => ?_) (fun h226 => ?_)
                                                · refine go_tsIn (v := 21) (off := 852) (tgt := 885) dL_law_33 h226 (by decide) (by decide) (by decide) (by decide) ?_
                                                  refine go_aload_n 1 dL_law_885 rfl rfl ?_
                                                  refine go_aload_n 0 dL_law_886 rfl rfl ?_
                                                  refine go_iload_n 3 dL_law_887 rfl rfl ?_
                                                  refine go_iconst (v := 1) dL_law_888 (by decide) ?_
                                                  refine go_iadd dL_law_889 ?_
                                                  refine go_sld dL_law_890 (fun v227 _ => ?_)
                                                  refine go_callV_I (as := [vi v227]) gk_RL_104 gmf_X11_fits (by decide) rfl (by omega) rfl rfl (Nat.le_of_ble_eq_true rfl) dL_law_891 (fun _ _ h => cX11_fits_c (by omega) h) (fun r228 s229 _ => ?_)
                                                  refine go_aload_n 2 dL_law_894 rfl rfl ?_
                                                  refine go_aload_n 0 dL_law_895 rfl rfl ?_
                                                  refine go_iload_n 3 dL_law_896 rfl rfl ?_
                                                  refine go_iconst (v := 1) dL_law_897 (by decide) ?_
                                                  refine go_iadd dL_law_898 ?_
                                                  refine go_sld dL_law_899 (fun v230 _ => ?_)
                                                  refine go_callV_I (as := [vi v230]) gk_RL_107 gmf_X12_fits (by decide) rfl (by omega) rfl rfl (Nat.le_of_ble_eq_true rfl) dL_law_900 (fun _ _ h => cX12_fits_c (by omega) h) (fun r231 s232 _ => ?_)
                                                  refine go_icmp_eq (tgt := 1145) dL_law_903 (by decide) (fun h233 => ?_) (fun h233 => ?_)
                                                  · refine go_iinc (v := 6) (L' := [(3, vi (x3 + 6)), (0, vr 1), (1, vr a1), (2, vr a2)]) 3 dL_law_1145 rfl (by decide) (by decide) rfl ?_
                                                    refine go_goto (tgt := 18) dL_law_1148 (by decide) ?_
                                                    exact go_sub [1, 2, 3, 0] (ih (x3 + 6) s232) rfl
                                                  · refine go_iconst (v := 0) dL_law_906 (by decide) ?_
                                                    exact go_ret rfl dL_law_907
                                                · refine go_ite (fun h234 => ?_) (fun h234 => ?_)
                                                  · refine go_tsIn (v := 22) (off := 875) (tgt := 908) dL_law_33 h234 (by decide) (by decide) (by decide) (by decide) ?_
                                                    refine go_aload_n 1 dL_law_908 rfl rfl ?_
                                                    refine go_aload_n 0 dL_law_909 rfl rfl ?_
                                                    refine go_iload_n 3 dL_law_910 rfl rfl ?_
                                                    refine go_iconst (v := 1) dL_law_911 (by decide) ?_
                                                    refine go_iadd dL_law_912 ?_
                                                    refine go_sld dL_law_913 (fun v235 _ => ?_)
                                                    refine go_callV_I (as := [vi v235]) gk_RL_108 gmf_X11_tells (by decide) rfl (by omega) rfl rfl (Nat.le_of_ble_eq_true rfl) dL_law_914 (fun _ _ h => cX11_tells_c (by omega) h) (fun r236 s237 _ => ?_)
                                                    refine go_aload_n 2 dL_law_917 rfl rfl ?_
                                                    refine go_aload_n 0 dL_law_918 rfl rfl ?_
                                                    refine go_iload_n 3 dL_law_919 rfl rfl ?_
                                                    refine go_iconst (v := 1) dL_law_920 (by decide) ?_
                                                    refine go_iadd dL_law_921 ?_
                                                    refine go_sld dL_law_922 (fun v238 _ => ?_)
                                                    refine go_callV_I (as := [vi v238]) gk_RL_111 gmf_X12_tells (by decide) rfl (by omega) rfl rfl (Nat.le_of_ble_eq_true rfl) dL_law_923 (fun _ _ h => cX12_tells_c (by omega) h) (fun r239 s240 _ => ?_)
                                                    refine go_icmp_eq (tgt := 1145) dL_law_926 (by decide) (fun h241 => ?_) (fun h241 => ?_)
                                                    · refine go_iinc (v := 6) (L' := [(3, vi (x3 + 6)), (0, vr 1), (1, vr a1), (2, vr a2)]) 3 dL_law_1145 rfl (by decide) (by decide) rfl ?_
                                                      refine go_goto (tgt := 18) dL_law_1148 (by decide) ?_
                                                      exact go_sub [1, 2, 3, 0] (ih (x3 + 6) s240) rfl
                                                    · refine go_iconst (v := 0) dL_law_929 (by decide) ?_
                                                      exact go_ret rfl dL_law_930
                                                  · refine go_ite (fun h242 => ?_) (fun h242 => ?_)
                                                    · refine go_tsIn (v := 23) (off := 898) (tgt := 931) dL_law_33 h242 (by decide) (by decide) (by decide) (by decide) ?_
                                                      refine go_aload_n 1 dL_law_931 rfl rfl ?_
                                                      refine go_aload_n 0 dL_law_932 rfl rfl ?_
                                                      refine go_iload_n 3 dL_law_933 rfl rfl ?_
                                                      refine go_iconst (v := 1) dL_law_934 (by decide) ?_
                                                      refine go_iadd dL_law_935 ?_
                                                      refine go_sld dL_law_936 (fun v243 _ => ?_)
                                                      refine go_aload_n 0 dL_law_937 rfl rfl ?_
                                                      refine go_iload_n 3 dL_law_938 rfl rfl ?_
                                                      refine go_iconst (v := 2) dL_law_939 (by decide) ?_
                                                      refine go_iadd dL_law_940 ?_
                                                      refine go_sld dL_law_941 (fun v244 _ => ?_)
                                                      refine go_callV_I (as := [vi v243, vi v244]) gk_RL_112 gmf_X11_add (by decide) rfl (by omega) rfl rfl (Nat.le_of_ble_eq_true rfl) dL_law_942 (fun _ _ h => cX11_add_c (by omega) h) (fun r245 s246 _ => ?_)
                                                      refine go_aload_n 2 dL_law_945 rfl rfl ?_
                                                      refine go_aload_n 0 dL_law_946 rfl rfl ?_
                                                      refine go_iload_n 3 dL_law_947 rfl rfl ?_
                                                      refine go_iconst (v := 1) dL_law_948 (by decide) ?_
                                                      refine go_iadd dL_law_949 ?_
                                                      refine go_sld dL_law_950 (fun v247 _ => ?_)
                                                      refine go_aload_n 0 dL_law_951 rfl rfl ?_
                                                      refine go_iload_n 3 dL_law_952 rfl rfl ?_
                                                      refine go_iconst (v := 2) dL_law_953 (by decide) ?_
                                                      refine go_iadd dL_law_954 ?_
                                                      refine go_sld dL_law_955 (fun v248 _ => ?_)
                                                      refine go_callV_I (as := [vi v247, vi v248]) gk_RL_116 gmf_X12_add (by decide) rfl (by omega) rfl rfl (Nat.le_of_ble_eq_true rfl) dL_law_956 (fun _ _ h => cX12_add_c (by omega) h) (fun r249 s250 _ => ?_)
                                                      refine go_icmp_eq (tgt := 1145) dL_law_959 (by decide) (fun h251 => ?_) (fun h251 => ?_)
                                                      · refine go_iinc (v := 6) (L' := [(3, vi (x3 + 6)), (0, vr 1), (1, vr a1), (2, vr a2)]) 3 dL_law_1145 rfl (by decide) (by decide) rfl ?_
                                                        refine go_goto (tgt := 18) dL_law_1148 (by decide) ?_
                                                        exact go_sub [1, 2, 3, 0] (ih (x3 + 6) s250) rfl
                                                      · refine go_iconst (v := 0) dL_law_962 (by decide) ?_
                                                        exact go_ret rfl dL_law_963
                                                    · refine go_ite (fun h252 => ?_) (fun h252 => ?_)
                                                      · refine go_tsIn (v := 24) (off := 931) (tgt := 964) dL_law_33 h252 (by decide) (by decide) (by decide) (by decide) ?_
                                                        refine go_aload_n 1 dL_law_964 rfl rfl ?_
                                                        refine go_aload_n 0 dL_law_965 rfl rfl ?_
                                                        refine go_iload_n 3 dL_law_966 rfl rfl ?_
                                                        refine go_iconst (v := 1) dL_law_967 (by decide) ?_
                                                        refine go_iadd dL_law_968 ?_
                                                        refine go_sld dL_law_969 (fun v253 _ => ?_)
                                                        refine go_aload_n 0 dL_law_970 rfl rfl ?_
                                                        refine go_iload_n 3 dL_law_971 rfl rfl ?_
                                                        refine go_iconst (v := 2) dL_law_972 (by decide) ?_
                                                        refine go_iadd dL_law_973 ?_
                                                        refine go_sld dL_law_974 (fun v254 _ => ?_)
                                                        refine go_callV_I (as := [vi v253, vi v254]) gk_RL_117 gmf_X11_leave (by decide) rfl (by omega) rfl rfl (Nat.le_of_ble_eq_true rfl) dL_law_975 (fun _ _ h => cX11_leave_c (by omega) h) (fun r255 s256 _ => ?_)
                                                        refine go_aload_n 2 dL_law_978 rfl rfl ?_
                                                        refine go_aload_n 0 dL_law_979 rfl rfl ?_
                                                        refine go_iload_n 3 dL_law_980 rfl rfl ?_
                                                        refine go_iconst (v := 1) dL_law_981 (by decide) ?_
                                                        refine go_iadd dL_law_982 ?_
                                                        refine go_sld dL_law_983 (fun v257 _ => ?_)
                                                        refine go_aload_n 0 dL_law_984 rfl rfl ?_
                                                        refine go_iload_n 3 dL_law_985 rfl rfl ?_
                                                        refine go_iconst (v := 2) dL_law_986 (by decide) ?_
                                                        refine go_iadd dL_law_987 ?_
                                                        refine go_sld dL_law_988 (fun v258 _ => ?_)
                                                        refine go_callV_I (as := [vi v257, vi v258]) gk_RL_120 gmf_X12_leave (by decide) rfl (by omega) rfl rfl (Nat.le_of_ble_eq_true rfl) dL_law_989 (fun _ _ h => cX12_leave_c (by omega) h) (fun r259 s260 _ => ?_)
                                                        refine go_icmp_eq (tgt := 1145) dL_law_992 (by decide) (fun h261 => ?_) (fun h261 => ?_)
                                                        · refine go_iinc (v := 6) (L' := [(3, vi (x3 + 6)), (0, vr 1), (1, vr a1), (2, vr a2)]) 3 dL_law_1145 rfl (by decide) (by decide) rfl ?_
                                                          refine go_goto (tgt := 18) dL_law_1148 (by decide) ?_
                                                          exact go_sub [1, 2, 3, 0] (ih (x3 + 6) s260) rfl
                                                        · refine go_iconst (v := 0) dL_law_995 (by decide) ?_
                                                          exact go_ret rfl dL_law_996
                                                      · refine go_ite (fun h262 => ?_) (fun h262 => ?_)
                                                        · refine go_tsIn (v := 25) (off := 964) (tgt := 997) dL_law_33 h262 (by decide) (by decide) (by decide) (by decide) ?_
                                                          refine go_aload_n 1 dL_law_997 rfl rfl ?_
                                                          refine go_aload_n 0 dL_law_998 rfl rfl ?_
                                                          refine go_iload_n 3 dL_law_999 rfl rfl ?_
                                                          refine go_iconst (v := 1) dL_law_1000 (by decide) ?_
                                                          refine go_iadd dL_law_1001 ?_
                                                          refine go_sld dL_law_1002 (fun v263 _ => ?_)
                                                          refine go_aload_n 0 dL_law_1003 rfl rfl ?_
                                                          refine go_iload_n 3 dL_law_1004 rfl rfl ?_
                                                          refine go_iconst (v := 2) dL_law_1005 (by decide) ?_
                                                          refine go_iadd dL_law_1006 ?_
                                                          refine go_sld dL_law_1007 (fun v264 _ => ?_)
                                                          refine go_callV_I (as := [vi v263, vi v264]) gk_RL_121 gmf_X11_every (by decide) rfl (by omega) rfl rfl (Nat.le_of_ble_eq_true rfl) dL_law_1008 (fun _ _ h => cX11_every_c (by omega) h) (fun r265 s266 _ => ?_)
                                                          refine go_aload_n 2 dL_law_1011 rfl rfl ?_
                                                          refine go_aload_n 0 dL_law_1012 rfl rfl ?_
                                                          refine go_iload_n 3 dL_law_1013 rfl rfl ?_
                                                          refine go_iconst (v := 1) dL_law_1014 (by decide) ?_
                                                          refine go_iadd dL_law_1015 ?_
                                                          refine go_sld dL_law_1016 (fun v267 _ => ?_)
                                                          refine go_aload_n 0 dL_law_1017 rfl rfl ?_
                                                          refine go_iload_n 3 dL_law_1018 rfl rfl ?_
                                                          refine go_iconst (v := 2) dL_law_1019 (by decide) ?_
                                                          refine go_iadd dL_law_1020 ?_
                                                          refine go_sld dL_law_1021 (fun v268 _ => ?_)
                                                          refine go_callV_I (as := [vi v267, vi v268]) gk_RL_124 gmf_X12_every (by decide) rfl (by omega) rfl rfl (Nat.le_of_ble_eq_true rfl) dL_law_1022 (fun _ _ h => cX12_every_c (by omega) h) (fun r269 s270 _ => ?_)
                                                          refine go_icmp_eq (tgt := 1145) dL_law_1025 (by decide) (fun h271 => ?_) (fun h271 => ?_)
                                                          · refine go_iinc (v := 6) (L' := [(3, vi (x3 + 6)), (0, vr 1), (1, vr a1), (2, vr a2)]) 3 dL_law_1145 rfl (by decide) (by decide) rfl ?_
                                                            refine go_goto (tgt := 18) dL_law_1148 (by decide) ?_
                                                            exact go_sub [1, 2, 3, 0] (ih (x3 + 6) s270) rfl
                                                          · refine go_iconst (v := 0) dL_law_1028 (by decide) ?_
                                                            exact go_ret rfl dL_law_1029
                                                        · refine go_ite (fun h272 => ?_) (fun h272 => ?_)
                                                          · refine go_tsIn (v := 26) (off := 997) (tgt := 1030) dL_law_33 h272 (by decide) (by decide) (by decide) (by decide) ?_
                                                            refine go_aload_n 1 dL_law_1030 rfl rfl ?_
                                                            refine go_aload_n 0 dL_law_1031 rfl rfl ?_
                                                            refine go_iload_n 3 dL_law_1032 rfl rfl ?_
                                                            refine go_iconst (v := 1) dL_law_1033 (by decide) ?_
                                                            refine go_iadd dL_law_1034 ?_
                                                            refine go_sld dL_law_1035 (fun v273 _ => ?_)
                                                            refine go_aload_n 0 dL_law_1036 rfl rfl ?_
                                                            refine go_iload_n 3 dL_law_1037 rfl rfl ?_
                                                            refine go_iconst (v := 2) dL_law_1038 (by decide) ?_
                                                            refine go_iadd dL_law_1039 ?_
                                                            refine go_sld dL_law_1040 (fun v274 _ => ?_)
                                                            refine go_callV_I (as := [vi v273, vi v274]) gk_RL_125 gmf_X11_from (by decide) rfl (by omega) rfl rfl (Nat.le_of_ble_eq_true rfl) dL_law_1041 (fun _ _ h => cX11_from_c (by omega) h) (fun r275 s276 _ => ?_)
                                                            refine go_aload_n 2 dL_law_1044 rfl rfl ?_
                                                            refine go_aload_n 0 dL_law_1045 rfl rfl ?_
                                                            refine go_iload_n 3 dL_law_1046 rfl rfl ?_
                                                            refine go_iconst (v := 1) dL_law_1047 (by decide) ?_
                                                            refine go_iadd dL_law_1048 ?_
                                                            refine go_sld dL_law_1049 (fun v277 _ => ?_)
                                                            refine go_aload_n 0 dL_law_1050 rfl rfl ?_
                                                            refine go_iload_n 3 dL_law_1051 rfl rfl ?_
                                                            refine go_iconst (v := 2) dL_law_1052 (by decide) ?_
                                                            refine go_iadd dL_law_1053 ?_
                                                            refine go_sld dL_law_1054 (fun v278 _ => ?_)
                                                            refine go_callV_I (as := [vi v277, vi v278]) gk_RL_128 gmf_X12_from (by decide) rfl (by omega) rfl rfl (Nat.le_of_ble_eq_true rfl) dL_law_1055 (fun _ _ h => cX12_from_c (by omega) h) (fun r279 s280 _ => ?_)
                                                            refine go_icmp_eq (tgt := 1145) dL_law_1058 (by decide) (fun h281 => ?_) (fun h281 => ?_)
                                                            · refine go_iinc (v := 6) (L' := [(3, vi (x3 + 6)), (0, vr 1), (1, vr a1), (2, vr a2)]) 3 dL_law_1145 rfl (by decide) (by decide) rfl ?_
                                                              refine go_goto (tgt := 18) dL_law_1148 (by decide) ?_
                                                              exact go_sub [1, 2, 3, 0] (ih (x3 + 6) s280) rfl
                                                            · refine go_iconst (v := 0) dL_law_1061 (by decide) ?_
                                                              exact go_ret rfl dL_law_1062
                                                          · refine go_ite (fun h282 => ?_) (fun h282 => ?_)
                                                            · refine go_tsIn (v := 27) (off := 1030) (tgt := 1063) dL_law_33 h282 (by decide) (by decide) (by decide) (by decide) ?_
                                                              refine go_aload_n 1 dL_law_1063 rfl rfl ?_
                                                              refine go_aload_n 0 dL_law_1064 rfl rfl ?_
                                                              refine go_iload_n 3 dL_law_1065 rfl rfl ?_
                                                              refine go_iconst (v := 1) dL_law_1066 (by decide) ?_
                                                              refine go_iadd dL_law_1067 ?_
                                                              refine go_sld dL_law_1068 (fun v283 _ => ?_)
                                                              refine go_callV_I (as := [vi v283]) gk_RL_129 gmf_X11_chance (by decide) rfl (by omega) rfl rfl (Nat.le_of_ble_eq_true rfl) dL_law_1069 (fun _ _ h => cX11_chance_c (by omega) h) (fun r284 s285 _ => ?_)
                                                              refine go_aload_n 2 dL_law_1072 rfl rfl ?_
                                                              refine go_aload_n 0 dL_law_1073 rfl rfl ?_
                                                              refine go_iload_n 3 dL_law_1074 rfl rfl ?_
                                                              refine go_iconst (v := 1) dL_law_1075 (by decide) ?_
                                                              refine go_iadd dL_law_1076 ?_
                                                              refine go_sld dL_law_1077 (fun v286 _ => ?_)
                                                              refine go_callV_I (as := [vi v286]) gk_RL_132 gmf_X12_chance (by decide) rfl (by omega) rfl rfl (Nat.le_of_ble_eq_true rfl) dL_law_1078 (fun _ _ h => cX12_chance_c (by omega) h) (fun r287 s288 _ => ?_)
                                                              refine go_icmp_eq (tgt := 1145) dL_law_1081 (by decide) (fun h289 => ?_) (fun h289 => ?_)
                                                              · refine go_iinc (v := 6) (L' := [(3, vi (x3 + 6)), (0, vr 1), (1, vr a1), (2, vr a2)]) 3 dL_law_1145 rfl (by decide) (by decide) rfl ?_
                                                                refine go_goto (tgt := 18) dL_law_1148 (by decide) ?_
                                                                exact go_sub [1, 2, 3, 0] (ih (x3 + 6) s288) rfl
                                                              · refine go_iconst (v := 0) dL_law_1084 (by decide) ?_
                                                                exact go_ret rfl dL_law_1085
                                                            · refine go_ite (fun h290 => ?_) (fun h290 => ?_)
                                                              · refine go_tsIn (v := 28) (off := 1053) (tgt := 1086) dL_law_33 h290 (by decide) (by decide) (by decide) (by decide) ?_
                                                                refine go_aload_n 1 dL_law_1086 rfl rfl ?_
                                                                refine go_callV_I (as := []) gk_RL_133 gmf_X11_undo (by decide) rfl (by omega) rfl rfl (Nat.le_of_ble_eq_true rfl) dL_law_1087 (fun _ _ h => cX11_undo_c (by omega) h) (fun r291 s292 _ => ?_)
                                                                refine go_aload_n 2 dL_law_1090 rfl rfl ?_
                                                                refine go_callV_I (as := []) gk_RL_137 gmf_X12_undo (by decide) rfl (by omega) rfl rfl (Nat.le_of_ble_eq_true rfl) dL_law_1091 (fun _ _ h => cX12_undo_c (by omega) h) (fun r293 s294 _ => ?_)
                                                                refine go_icmp_eq (tgt := 1145) dL_law_1094 (by decide) (fun h295 => ?_) (fun h295 => ?_)
                                                                · refine go_iinc (v := 6) (L' := [(3, vi (x3 + 6)), (0, vr 1), (1, vr a1), (2, vr a2)]) 3 dL_law_1145 rfl (by decide) (by decide) rfl ?_
                                                                  refine go_goto (tgt := 18) dL_law_1148 (by decide) ?_
                                                                  exact go_sub [1, 2, 3, 0] (ih (x3 + 6) s294) rfl
                                                                · refine go_iconst (v := 0) dL_law_1097 (by decide) ?_
                                                                  exact go_ret rfl dL_law_1098
                                                              · refine go_ite (fun h296 => ?_) (fun h296 => ?_)
                                                                · refine go_tsIn (v := 29) (off := 1066) (tgt := 1099) dL_law_33 h296 (by decide) (by decide) (by decide) (by decide) ?_
                                                                  refine go_aload_n 1 dL_law_1099 rfl rfl ?_
                                                                  refine go_aload_n 0 dL_law_1100 rfl rfl ?_
                                                                  refine go_iload_n 3 dL_law_1101 rfl rfl ?_
                                                                  refine go_iconst (v := 1) dL_law_1102 (by decide) ?_
                                                                  refine go_iadd dL_law_1103 ?_
                                                                  refine go_sld dL_law_1104 (fun v297 _ => ?_)
                                                                  refine go_callV_I (as := [vi v297]) gk_RL_138 gmf_X11_seed (by decide) rfl (by omega) rfl rfl (Nat.le_of_ble_eq_true rfl) dL_law_1105 (fun _ _ h => cX11_seed_c (by omega) h) (fun r298 s299 _ => ?_)
                                                                  refine go_aload_n 2 dL_law_1108 rfl rfl ?_
                                                                  refine go_aload_n 0 dL_law_1109 rfl rfl ?_
                                                                  refine go_iload_n 3 dL_law_1110 rfl rfl ?_
                                                                  refine go_iconst (v := 1) dL_law_1111 (by decide) ?_
                                                                  refine go_iadd dL_law_1112 ?_
                                                                  refine go_sld dL_law_1113 (fun v300 _ => ?_)
                                                                  refine go_callV_I (as := [vi v300]) gk_RL_141 gmf_X12_seed (by decide) rfl (by omega) rfl rfl (Nat.le_of_ble_eq_true rfl) dL_law_1114 (fun _ _ h => cX12_seed_c (by omega) h) (fun r301 s302 _ => ?_)
                                                                  refine go_icmp_eq (tgt := 1145) dL_law_1117 (by decide) (fun h303 => ?_) (fun h303 => ?_)
                                                                  · refine go_iinc (v := 6) (L' := [(3, vi (x3 + 6)), (0, vr 1), (1, vr a1), (2, vr a2)]) 3 dL_law_1145 rfl (by decide) (by decide) rfl ?_
                                                                    refine go_goto (tgt := 18) dL_law_1148 (by decide) ?_
                                                                    exact go_sub [1, 2, 3, 0] (ih (x3 + 6) s302) rfl
                                                                  · refine go_iconst (v := 0) dL_law_1120 (by decide) ?_
                                                                    exact go_ret rfl dL_law_1121
                                                                · refine go_ite (fun h304 => ?_) (fun h304 => ?_)
                                                                  · refine go_tsIn (v := 30) (off := 1089) (tgt := 1122) dL_law_33 h304 (by decide) (by decide) (by decide) (by decide) ?_
                                                                    refine go_aload_n 1 dL_law_1122 rfl rfl ?_
                                                                    refine go_aload_n 0 dL_law_1123 rfl rfl ?_
                                                                    refine go_iload_n 3 dL_law_1124 rfl rfl ?_
                                                                    refine go_iconst (v := 1) dL_law_1125 (by decide) ?_
                                                                    refine go_iadd dL_law_1126 ?_
                                                                    refine go_sld dL_law_1127 (fun v305 _ => ?_)
                                                                    refine go_callV_I (as := [vi v305]) gk_RL_142 gmf_X11_status (by decide) rfl (by omega) rfl rfl (Nat.le_of_ble_eq_true rfl) dL_law_1128 (fun _ _ h => cX11_status_c (by omega) h) (fun r306 s307 _ => ?_)
                                                                    refine go_aload_n 2 dL_law_1131 rfl rfl ?_
                                                                    refine go_aload_n 0 dL_law_1132 rfl rfl ?_
                                                                    refine go_iload_n 3 dL_law_1133 rfl rfl ?_
                                                                    refine go_iconst (v := 1) dL_law_1134 (by decide) ?_
                                                                    refine go_iadd dL_law_1135 ?_
                                                                    refine go_sld dL_law_1136 (fun v308 _ => ?_)
                                                                    refine go_callV_I (as := [vi v308]) gk_RL_145 gmf_X12_status (by decide) rfl (by omega) rfl rfl (Nat.le_of_ble_eq_true rfl) dL_law_1137 (fun _ _ h => cX12_status_c (by omega) h) (fun r309 s310 _ => ?_)
                                                                    refine go_icmp_eq (tgt := 1145) dL_law_1140 (by decide) (fun h311 => ?_) (fun h311 => ?_)
                                                                    · refine go_iinc (v := 6) (L' := [(3, vi (x3 + 6)), (0, vr 1), (1, vr a1), (2, vr a2)]) 3 dL_law_1145 rfl (by decide) (by decide) rfl ?_
                                                                      refine go_goto (tgt := 18) dL_law_1148 (by decide) ?_
                                                                      exact go_sub [1, 2, 3, 0] (ih (x3 + 6) s310) rfl
                                                                    · refine go_iconst (v := 0) dL_law_1143 (by decide) ?_
                                                                      exact go_ret rfl dL_law_1144
                                                                  · refine go_tsOut (tgt := 1145) dL_law_33 (by have gh12 := gts h12 (n := 0) (by decide); have gh28 := gts h28 (n := 1) (by decide); have gh36 := gts h36 (n := 2) (by decide); have gh42 := gts h42 (n := 3) (by decide); have gh50 := gts h50 (n := 4) (by decide); have gh58 := gts h58 (n := 5) (by decide); have gh68 := gts h68 (n := 6) (by decide); have gh78 := gts h78 (n := 7) (by decide); have gh90 := gts h90 (n := 8) (by decide); have gh100 := gts h100 (n := 9) (by decide); have gh110 := gts h110 (n := 10) (by decide); have gh120 := gts h120 (n := 11) (by decide); have gh130 := gts h130 (n := 12) (by decide); have gh140 := gts h140 (n := 13) (by decide); have gh152 := gts h152 (n := 14) (by decide); have gh162 := gts h162 (n := 15) (by decide); have gh174 := gts h174 (n := 16) (by decide); have gh188 := gts h188 (n := 17) (by decide); have gh198 := gts h198 (n := 18) (by decide); have gh210 := gts h210 (n := 19) (by decide); have gh218 := gts h218 (n := 20) (by decide); have gh226 := gts h226 (n := 21) (by decide); have gh234 := gts h234 (n := 22) (by decide); have gh242 := gts h242 (n := 23) (by decide); have gh252 := gts h252 (n := 24) (by decide); have gh262 := gts h262 (n := 25) (by decide); have gh272 := gts h272 (n := 26) (by decide); have gh282 := gts h282 (n := 27) (by decide); have gh290 := gts h290 (n := 28) (by decide); have gh296 := gts h296 (n := 29) (by decide); have gh304 := gts h304 (n := 30) (by decide); omega) (by decide) ?_
                                                                    refine go_iinc (v := 6) (L' := [(3, vi (x3 + 6)), (0, vr 1), (1, vr a1), (2, vr a2)]) 3 dL_law_1145 rfl (by decide) (by decide) rfl ?_
                                                                    refine go_goto (tgt := 18) dL_law_1148 (by decide) ?_
                                                                    exact go_sub [1, 2, 3, 0] (ih (x3 + 6) s0) rfl
def gL_law  (s0 : gH) : Option (Int32 × gH) :=
  gmk s0 11 fun r1 s2 =>
  gb2 (fX11_init r1 s2) fun r3 s4 =>
  gmk s4 12 fun r5 s6 =>
  gb2 (fX12_init r5 s6) fun r7 s8 =>
  gL_law_L18
    r1 r5 20000 0 s8
def fL_law  (s0 : gH) : Option (Int32 × gH) := gzr (gL_law  s0)
set_option maxRecDepth 100000 in
set_option maxHeartbeats 4000000 in
theorem wL_law {d : Nat} (hd : 47 ≤ d)  {s0 : gH} : gGo rvI mL_law d 0 [(0, vr 1)] [] s0 (gL_law  s0) := by
  unfold gL_law
  refine go_mk gn_RL_7 gcf_11 gcd_11 dL_law_0 (fun r1 s2 hr1 => ?_)
  refine go_dup dL_law_3 rfl ?_
  refine go_callI_v (as := []) hr1 gk_RL_9 rfl gmf_X11_init (by omega) rfl rfl (Nat.le_of_ble_eq_true rfl) dL_law_4 (fun _ _ h => cX11_init_c (by omega) h) (fun r3 s4 _ => ?_)
  refine go_astore_n (L' := [(1, vr r1), (0, vr 1)]) dL_law_7 rfl (by decide) rfl ?_
  refine go_mk gn_RL_10 gcf_12 gcd_12 dL_law_8 (fun r5 s6 hr5 => ?_)
  refine go_dup dL_law_11 rfl ?_
  refine go_callI_v (as := []) hr5 gk_RL_12 rfl gmf_X12_init (by omega) rfl rfl (Nat.le_of_ble_eq_true rfl) dL_law_12 (fun _ _ h => cX12_init_c (by omega) h) (fun r7 s8 _ => ?_)
  refine go_astore_n (L' := [(2, vr r5), (1, vr r1), (0, vr 1)]) dL_law_15 rfl (by decide) rfl ?_
  refine go_iconst (v := 0) dL_law_16 (by decide) ?_
  refine go_istore_n (L' := [(3, vi 0), (2, vr r5), (1, vr r1), (0, vr 1)]) dL_law_17 rfl (by decide) rfl ?_
  refine go_sub [3, 2, 1, 0] (wL_law_L18 hd r1 r5 20000 0 s8) rfl
