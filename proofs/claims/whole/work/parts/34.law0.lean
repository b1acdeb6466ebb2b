def m_L_law_18 (xs : Nat → Int32) (L : Nat) : Nat → Int32 → ax_M → Option (Int32 × ax_M)
  | 0, _, _ => none
  | n + 1, x3, μ =>
    if ((Int32.ofNat L) - 7) < x3 then
      some (1, μ)
    else
      (ix L x3).bind fun j2 =>
      if ((xs j2) &&& 63) = 0 then
        (ix L (x3 + 1)).bind fun j5 =>
        (m_X9_count (xs j5) μ).bind fun v7 =>
        (ix L (x3 + 1)).bind fun j9 =>
        (m_X10_count (xs j9) μ).bind fun v11 =>
        if v7 = v11 then
          m_L_law_18 xs L n (x3 + 7) μ
        else
          some (0, μ)
      else
        if ((xs j2) &&& 63) = 1 then
          (ix L (x3 + 1)).bind fun j15 =>
          bind2 (m_X9_strikes (xs j15) μ) fun v17 μ19 =>
          (ix L (x3 + 1)).bind fun j20 =>
          bind2 (m_X10_strikes (xs j20) μ19) fun v22 μ24 =>
          if v17 = v22 then
            m_L_law_18 xs L n (x3 + 7) μ24
          else
            some (0, μ24)
        else
          if ((xs j2) &&& 63) = 2 then
            (ix L (x3 + 1)).bind fun j27 =>
            (ix L (x3 + 2)).bind fun j29 =>
            (ix L (x3 + 3)).bind fun j31 =>
            (ix L (x3 + 4)).bind fun j33 =>
            (ix L (x3 + 5)).bind fun j35 =>
            (ix L (x3 + 6)).bind fun j37 =>
            bind2 (m_X9_feed (xs j27) (xs j29) (xs j31) (xs j33) (xs j35) (xs j37) μ) fun v39 μ41 =>
            (ix L (x3 + 1)).bind fun j42 =>
            (ix L (x3 + 2)).bind fun j44 =>
            (ix L (x3 + 3)).bind fun j46 =>
            (ix L (x3 + 4)).bind fun j48 =>
            (ix L (x3 + 5)).bind fun j50 =>
            (ix L (x3 + 6)).bind fun j52 =>
            bind2 (m_X10_feed (xs j42) (xs j44) (xs j46) (xs j48) (xs j50) (xs j52) μ41) fun v54 μ56 =>
            if v39 = v54 then
              m_L_law_18 xs L n (x3 + 7) μ56
            else
              some (0, μ56)
          else
            if ((xs j2) &&& 63) = 3 then
              bind2 (m_X9_text μ) fun v59 μ61 =>
              bind2 (m_X10_text μ61) fun v62 μ64 =>
              if v59 = v62 then
                m_L_law_18 xs L n (x3 + 7) μ64
              else
                some (0, μ64)
            else
              if ((xs j2) &&& 63) = 4 then
                (ix L (x3 + 1)).bind fun j67 =>
                bind2 (m_X9_force (xs j67) μ) fun v69 μ71 =>
                (ix L (x3 + 1)).bind fun j72 =>
                bind2 (m_X10_force (xs j72) μ71) fun v74 μ76 =>
                if v69 = v74 then
                  m_L_law_18 xs L n (x3 + 7) μ76
                else
                  some (0, μ76)
              else
                if ((xs j2) &&& 63) = 5 then
                  (ix L (x3 + 1)).bind fun j79 =>
                  (ix L (x3 + 2)).bind fun j81 =>
                  (ix L (x3 + 3)).bind fun j83 =>
                  bind2 (m_X9_asks (xs j79) (xs j81) (xs j83) μ) fun v85 μ87 =>
                  (ix L (x3 + 1)).bind fun j88 =>
                  (ix L (x3 + 2)).bind fun j90 =>
                  (ix L (x3 + 3)).bind fun j92 =>
                  bind2 (m_X10_asks (xs j88) (xs j90) (xs j92) μ87) fun v94 μ96 =>
                  if v85 = v94 then
                    m_L_law_18 xs L n (x3 + 7) μ96
                  else
                    some (0, μ96)
                else
                  if ((xs j2) &&& 63) = 6 then
                    (ix L (x3 + 1)).bind fun j99 =>
                    (ix L (x3 + 2)).bind fun j101 =>
                    bind2 (m_X9_spread (xs j99) (xs j101) μ) fun v103 μ105 =>
                    (ix L (x3 + 1)).bind fun j106 =>
                    (ix L (x3 + 2)).bind fun j108 =>
                    bind2 (m_X10_spread (xs j106) (xs j108) μ105) fun v110 μ112 =>
                    if v103 = v110 then
                      m_L_law_18 xs L n (x3 + 7) μ112
                    else
                      some (0, μ112)
                  else
                    if ((xs j2) &&& 63) = 7 then
                      (ix L (x3 + 1)).bind fun j115 =>
                      (ix L (x3 + 2)).bind fun j117 =>
                      (ix L (x3 + 3)).bind fun j119 =>
                      bind2 (m_X9_put (xs j115) (xs j117) (xs j119) μ) fun v121 μ123 =>
                      (ix L (x3 + 1)).bind fun j124 =>
                      (ix L (x3 + 2)).bind fun j126 =>
                      (ix L (x3 + 3)).bind fun j128 =>
                      bind2 (m_X10_put (xs j124) (xs j126) (xs j128) μ123) fun v130 μ132 =>
                      if v121 = v130 then
                        m_L_law_18 xs L n (x3 + 7) μ132
                      else
                        some (0, μ132)
                    else
                      if ((xs j2) &&& 63) = 8 then
                        (ix L (x3 + 1)).bind fun j135 =>
                        (ix L (x3 + 2)).bind fun j137 =>
                        bind2 (m_X9_told (xs j135) (xs j137) μ) fun v139 μ141 =>
                        (ix L (x3 + 1)).bind fun j142 =>
                        (ix L (x3 + 2)).bind fun j144 =>
                        bind2 (m_X10_told (xs j142) (xs j144) μ141) fun v146 μ148 =>
                        if v139 = v146 then
                          m_L_law_18 xs L n (x3 + 7) μ148
                        else
                          some (0, μ148)
                      else
                        if ((xs j2) &&& 63) = 9 then
                          (ix L (x3 + 1)).bind fun j151 =>
                          (ix L (x3 + 2)).bind fun j153 =>
                          bind2 (m_X9_over (xs j151) (xs j153) μ) fun v155 μ157 =>
                          (ix L (x3 + 1)).bind fun j158 =>
                          (ix L (x3 + 2)).bind fun j160 =>
                          bind2 (m_X10_over (xs j158) (xs j160) μ157) fun v162 μ164 =>
                          if v155 = v162 then
                            m_L_law_18 xs L n (x3 + 7) μ164
                          else
                            some (0, μ164)
                        else
                          if ((xs j2) &&& 63) = 10 then
                            (ix L (x3 + 1)).bind fun j167 =>
                            bind2 (m_X9_rules (xs j167) μ) fun v169 μ171 =>
                            (ix L (x3 + 1)).bind fun j172 =>
                            bind2 (m_X10_rules (xs j172) μ171) fun v174 μ176 =>
                            if (lg_cmp v169 v174) = 0 then
                              m_L_law_18 xs L n (x3 + 7) μ176
                            else
                              some (0, μ176)
                          else
                            if ((xs j2) &&& 63) = 11 then
                              (ix L (x3 + 1)).bind fun j179 =>
                              (ix L (x3 + 2)).bind fun j181 =>
                              bind2 (m_X9_walk (xs j179) (xs j181) μ) fun v183 μ185 =>
                              (ix L (x3 + 1)).bind fun j186 =>
                              (ix L (x3 + 2)).bind fun j188 =>
                              bind2 (m_X10_walk (xs j186) (xs j188) μ185) fun v190 μ192 =>
                              if v183 = v190 then
                                m_L_law_18 xs L n (x3 + 7) μ192
                              else
                                some (0, μ192)
                            else
                              if ((xs j2) &&& 63) = 12 then
                                (ix L (x3 + 1)).bind fun j195 =>
                                bind2 (m_X9_visit (xs j195) μ) fun v197 μ199 =>
                                (ix L (x3 + 1)).bind fun j200 =>
                                bind2 (m_X10_visit (xs j200) μ199) fun v202 μ204 =>
                                if v197 = v202 then
                                  m_L_law_18 xs L n (x3 + 7) μ204
                                else
                                  some (0, μ204)
                              else
                                if ((xs j2) &&& 63) = 13 then
                                  (ix L (x3 + 1)).bind fun j207 =>
                                  (ix L (x3 + 2)).bind fun j209 =>
                                  (ix L (x3 + 3)).bind fun j211 =>
                                  bind2 (m_X9_ball (xs j207) (xs j209) (xs j211) μ) fun v213 μ215 =>
                                  (ix L (x3 + 1)).bind fun j216 =>
                                  (ix L (x3 + 2)).bind fun j218 =>
                                  (ix L (x3 + 3)).bind fun j220 =>
                                  bind2 (m_X10_ball (xs j216) (xs j218) (xs j220) μ215) fun v222 μ224 =>
                                  if v213 = v222 then
                                    m_L_law_18 xs L n (x3 + 7) μ224
                                  else
                                    some (0, μ224)
                                else
                                  if ((xs j2) &&& 63) = 14 then
                                    (ix L (x3 + 1)).bind fun j227 =>
                                    (ix L (x3 + 2)).bind fun j229 =>
                                    bind2 (m_X9_way (xs j227) (xs j229) μ) fun v231 μ233 =>
                                    (ix L (x3 + 1)).bind fun j234 =>
                                    (ix L (x3 + 2)).bind fun j236 =>
                                    bind2 (m_X10_way (xs j234) (xs j236) μ233) fun v238 μ240 =>
                                    if v231 = v238 then
                                      m_L_law_18 xs L n (x3 + 7) μ240
                                    else
                                      some (0, μ240)
                                  else
                                    if ((xs j2) &&& 63) = 15 then
                                      (ix L (x3 + 1)).bind fun j243 =>
                                      bind2 (m_X9_borders (xs j243) μ) fun v245 μ247 =>
                                      (ix L (x3 + 1)).bind fun j248 =>
                                      bind2 (m_X10_borders (xs j248) μ247) fun v250 μ252 =>
                                      if v245 = v250 then
                                        m_L_law_18 xs L n (x3 + 7) μ252
                                      else
                                        some (0, μ252)
                                    else
                                      if ((xs j2) &&& 63) = 16 then
                                        (ix L (x3 + 1)).bind fun j255 =>
                                        (ix L (x3 + 2)).bind fun j257 =>
                                        bind2 (m_X9_league (xs j255) (xs j257) μ) fun v259 μ261 =>
                                        (ix L (x3 + 1)).bind fun j262 =>
                                        (ix L (x3 + 2)).bind fun j264 =>
                                        bind2 (m_X10_league (xs j262) (xs j264) μ261) fun v266 μ268 =>
                                        if v259 = v266 then
                                          m_L_law_18 xs L n (x3 + 7) μ268
                                        else
                                          some (0, μ268)
                                      else
                                        if ((xs j2) &&& 63) = 17 then
                                          (ix L (x3 + 1)).bind fun j271 =>
                                          (ix L (x3 + 2)).bind fun j273 =>
                                          bind2 (m_X9_place (xs j271) (xs j273) μ) fun v275 μ277 =>
                                          (ix L (x3 + 1)).bind fun j278 =>
                                          (ix L (x3 + 2)).bind fun j280 =>
                                          bind2 (m_X10_place (xs j278) (xs j280) μ277) fun v282 μ284 =>
                                          if v275 = v282 then
                                            m_L_law_18 xs L n (x3 + 7) μ284
                                          else
                                            some (0, μ284)
                                        else
                                          if ((xs j2) &&& 63) = 18 then
                                            (ix L (x3 + 1)).bind fun j287 =>
                                            bind2 (m_X9_freest (xs j287) μ) fun v289 μ291 =>
                                            (ix L (x3 + 1)).bind fun j292 =>
                                            bind2 (m_X10_freest (xs j292) μ291) fun v294 μ296 =>
                                            if v289 = v294 then
                                              m_L_law_18 xs L n (x3 + 7) μ296
                                            else
                                              some (0, μ296)
                                          else
                                            if ((xs j2) &&& 63) = 19 then
                                              (ix L (x3 + 1)).bind fun j299 =>
                                              bind2 (m_X9_fold (xs j299) μ) fun v301 μ303 =>
                                              (ix L (x3 + 1)).bind fun j304 =>
                                              bind2 (m_X10_fold (xs j304) μ303) fun v306 μ308 =>
                                              if v301 = v306 then
                                                m_L_law_18 xs L n (x3 + 7) μ308
                                              else
                                                some (0, μ308)
                                            else
                                              if ((xs j2) &&& 63) = 20 then
                                                (ix L (x3 + 1)).bind fun j311 =>
                                                (ix L (x3 + 2)).bind fun j313 =>
                                                bind2 (m_X9_share (xs j311) (xs j313) μ) fun v315 μ317 =>
                                                (ix L (x3 + 1)).bind fun j318 =>
                                                (ix L (x3 + 2)).bind fun j320 =>
                                                bind2 (m_X10_share (xs j318) (xs j320) μ317) fun v322 μ324 =>
                                                if (lg_cmp v315 v322) = 0 then
                                                  m_L_law_18 xs L n (x3 + 7) μ324
                                                else
                                                  some (0, μ324)
                                              else
                                                if ((xs j2) &&& 63) = 21 then
                                                  (ix L (x3 + 1)).bind fun j327 =>
                                                  (ix L (x3 + 2)).bind fun j329 =>
                                                  bind2 (m_X9_mean (xs j327) (xs j329) μ) fun v331 μ333 =>
                                                  (ix L (x3 + 1)).bind fun j334 =>
                                                  (ix L (x3 + 2)).bind fun j336 =>
                                                  bind2 (m_X10_mean (xs j334) (xs j336) μ333) fun v338 μ340 =>
                                                  if (lg_cmp v331 v338) = 0 then
                                                    m_L_law_18 xs L n (x3 + 7) μ340
                                                  else
                                                    some (0, μ340)
                                                else
                                                  if ((xs j2) &&& 63) = 22 then
                                                    (ix L (x3 + 1)).bind fun j343 =>
                                                    (ix L (x3 + 2)).bind fun j345 =>
                                                    bind2 (m_X9_judge (xs j343) (xs j345) μ) fun v347 μ349 =>
                                                    (ix L (x3 + 1)).bind fun j350 =>
                                                    (ix L (x3 + 2)).bind fun j352 =>
                                                    bind2 (m_X10_judge (xs j350) (xs j352) μ349) fun v354 μ356 =>
                                                    if v347 = v354 then
                                                      m_L_law_18 xs L n (x3 + 7) μ356
                                                    else
                                                      some (0, μ356)
                                                  else
                                                    if ((xs j2) &&& 63) = 23 then
                                                      (ix L (x3 + 1)).bind fun j359 =>
                                                      (ix L (x3 + 2)).bind fun j361 =>
                                                      (ix L (x3 + 3)).bind fun j363 =>
                                                      (ix L (x3 + 4)).bind fun j365 =>
                                                      bind2 (m_X9_kinds (xs j359) (xs j361) (xs j363) (xs j365) μ) fun v367 μ369 =>
                                                      (ix L (x3 + 1)).bind fun j370 =>
                                                      (ix L (x3 + 2)).bind fun j372 =>
                                                      (ix L (x3 + 3)).bind fun j374 =>
                                                      (ix L (x3 + 4)).bind fun j376 =>
                                                      bind2 (m_X10_kinds (xs j370) (xs j372) (xs j374) (xs j376) μ369) fun v378 μ380 =>
                                                      if v367 = v378 then
                                                        m_L_law_18 xs L n (x3 + 7) μ380
                                                      else
                                                        some (0, μ380)
                                                    else
                                                      if ((xs j2) &&& 63) = 24 then
                                                        (ix L (x3 + 1)).bind fun j383 =>
                                                        (ix L (x3 + 2)).bind fun j385 =>
                                                        (ix L (x3 + 3)).bind fun j387 =>
                                                        (ix L (x3 + 4)).bind fun j389 =>
                                                        bind2 (m_X9_crowds (xs j383) (xs j385) (xs j387) (xs j389) μ) fun v391 μ393 =>
                                                        (ix L (x3 + 1)).bind fun j394 =>
                                                        (ix L (x3 + 2)).bind fun j396 =>
                                                        (ix L (x3 + 3)).bind fun j398 =>
                                                        (ix L (x3 + 4)).bind fun j400 =>
                                                        bind2 (m_X10_crowds (xs j394) (xs j396) (xs j398) (xs j400) μ393) fun v402 μ404 =>
                                                        if v391 = v402 then
                                                          m_L_law_18 xs L n (x3 + 7) μ404
                                                        else
                                                          some (0, μ404)
                                                      else
                                                        if ((xs j2) &&& 63) = 25 then
                                                          (ix L (x3 + 1)).bind fun j407 =>
                                                          bind2 (m_X9_where (xs j407) μ) fun v409 μ411 =>
                                                          (ix L (x3 + 1)).bind fun j412 =>
                                                          bind2 (m_X10_where (xs j412) μ411) fun v414 μ416 =>
                                                          if (lg_cmp v409 v414) = 0 then
                                                            m_L_law_18 xs L n (x3 + 7) μ416
                                                          else
                                                            some (0, μ416)
                                                        else
                                                          if ((xs j2) &&& 63) = 26 then
                                                            (ix L (x3 + 1)).bind fun j419 =>
                                                            (ix L (x3 + 2)).bind fun j421 =>
                                                            bind2 (m_X9_laws (xs j419) (xs j421) μ) fun v423 μ425 =>
                                                            (ix L (x3 + 1)).bind fun j426 =>
                                                            (ix L (x3 + 2)).bind fun j428 =>
                                                            bind2 (m_X10_laws (xs j426) (xs j428) μ425) fun v430 μ432 =>
                                                            if v423 = v430 then
                                                              m_L_law_18 xs L n (x3 + 7) μ432
                                                            else
                                                              some (0, μ432)
                                                          else
                                                            if ((xs j2) &&& 63) = 27 then
                                                              (ix L (x3 + 1)).bind fun j435 =>
                                                              (ix L (x3 + 2)).bind fun j437 =>
                                                              (ix L (x3 + 3)).bind fun j439 =>
                                                              bind2 (m_X9_film (xs j435) (xs j437) (xs j439) μ) fun v441 μ443 =>
                                                              (ix L (x3 + 1)).bind fun j444 =>
                                                              (ix L (x3 + 2)).bind fun j446 =>
                                                              (ix L (x3 + 3)).bind fun j448 =>
                                                              bind2 (m_X10_film (xs j444) (xs j446) (xs j448) μ443) fun v450 μ452 =>
                                                              if v441 = v450 then
                                                                m_L_law_18 xs L n (x3 + 7) μ452
                                                              else
                                                                some (0, μ452)
                                                            else
                                                              if ((xs j2) &&& 63) = 28 then
                                                                (ix L (x3 + 1)).bind fun j455 =>
                                                                (ix L (x3 + 2)).bind fun j457 =>
                                                                (ix L (x3 + 3)).bind fun j459 =>
                                                                bind2 (m_X9_drawn (xs j455) (xs j457) (xs j459) μ) fun v461 μ463 =>
                                                                (ix L (x3 + 1)).bind fun j464 =>
                                                                (ix L (x3 + 2)).bind fun j466 =>
                                                                (ix L (x3 + 3)).bind fun j468 =>
                                                                bind2 (m_X10_drawn (xs j464) (xs j466) (xs j468) μ463) fun v470 μ472 =>
                                                                if v461 = v470 then
                                                                  m_L_law_18 xs L n (x3 + 7) μ472
                                                                else
                                                                  some (0, μ472)
                                                              else
                                                                if ((xs j2) &&& 63) = 29 then
                                                                  (ix L (x3 + 1)).bind fun j475 =>
                                                                  (ix L (x3 + 2)).bind fun j477 =>
                                                                  (ix L (x3 + 3)).bind fun j479 =>
                                                                  (ix L (x3 + 4)).bind fun j481 =>
                                                                  (ix L (x3 + 5)).bind fun j483 =>
                                                                  bind2 (m_X9_odds (xs j475) (xs j477) (xs j479) (xs j481) (xs j483) μ) fun v485 μ487 =>
                                                                  (ix L (x3 + 1)).bind fun j488 =>
                                                                  (ix L (x3 + 2)).bind fun j490 =>
                                                                  (ix L (x3 + 3)).bind fun j492 =>
                                                                  (ix L (x3 + 4)).bind fun j494 =>
                                                                  (ix L (x3 + 5)).bind fun j496 =>
                                                                  bind2 (m_X10_odds (xs j488) (xs j490) (xs j492) (xs j494) (xs j496) μ487) fun v498 μ500 =>
                                                                  if (lg_cmp v485 v498) = 0 then
                                                                    m_L_law_18 xs L n (x3 + 7) μ500
                                                                  else
                                                                    some (0, μ500)
                                                                else
                                                                  if ((xs j2) &&& 63) = 30 then
                                                                    bind2 (m_X9_image μ) fun v503 μ505 =>
                                                                    bind2 (m_X10_image μ505) fun v506 μ508 =>
                                                                    if v503 = v506 then
                                                                      m_L_law_18 xs L n (x3 + 7) μ508
                                                                    else
                                                                      some (0, μ508)
                                                                  else
                                                                    if ((xs j2) &&& 63) = 31 then
                                                                      bind2 (m_X9_back μ) fun v511 μ513 =>
                                                                      bind2 (m_X10_back μ513) fun v514 μ516 =>
                                                                      if v511 = v514 then
                                                                        m_L_law_18 xs L n (x3 + 7) μ516
                                                                      else
                                                                        some (0, μ516)
                                                                    else
                                                                      if ((xs j2) &&& 63) = 32 then
                                                                        (ix L (x3 + 1)).bind fun j519 =>
                                                                        (ix L (x3 + 2)).bind fun j521 =>
                                                                        (ix L (x3 + 3)).bind fun j523 =>
                                                                        bind2 (m_X9_sheet (xs j519) (xs j521) (xs j523) μ) fun v525 μ527 =>
                                                                        (ix L (x3 + 1)).bind fun j528 =>
                                                                        (ix L (x3 + 2)).bind fun j530 =>
                                                                        (ix L (x3 + 3)).bind fun j532 =>
                                                                        bind2 (m_X10_sheet (xs j528) (xs j530) (xs j532) μ527) fun v534 μ536 =>
                                                                        if v525 = v534 then
                                                                          m_L_law_18 xs L n (x3 + 7) μ536
                                                                        else
                                                                          some (0, μ536)
                                                                      else
                                                                        if ((xs j2) &&& 63) = 33 then
                                                                          (ix L (x3 + 1)).bind fun j539 =>
                                                                          (ix L (x3 + 2)).bind fun j541 =>
                                                                          (ix L (x3 + 3)).bind fun j543 =>
                                                                          bind2 (m_X9_cell (xs j539) (xs j541) (xs j543) μ) fun v545 μ547 =>
                                                                          (ix L (x3 + 1)).bind fun j548 =>
                                                                          (ix L (x3 + 2)).bind fun j550 =>
                                                                          (ix L (x3 + 3)).bind fun j552 =>
                                                                          bind2 (m_X10_cell (xs j548) (xs j550) (xs j552) μ547) fun v554 μ556 =>
                                                                          if v545 = v554 then
                                                                            m_L_law_18 xs L n (x3 + 7) μ556
                                                                          else
                                                                            some (0, μ556)
                                                                        else
                                                                          if ((xs j2) &&& 63) = 34 then
                                                                            (ix L (x3 + 1)).bind fun j559 =>
                                                                            (ix L (x3 + 2)).bind fun j561 =>
                                                                            (ix L (x3 + 3)).bind fun j563 =>
                                                                            (ix L (x3 + 4)).bind fun j565 =>
                                                                            (ix L (x3 + 5)).bind fun j567 =>
                                                                            bind2 (m_X9_copy (xs j559) (xs j561) (xs j563) (xs j565) (xs j567) μ) fun v569 μ571 =>
                                                                            (ix L (x3 + 1)).bind fun j572 =>
                                                                            (ix L (x3 + 2)).bind fun j574 =>
                                                                            (ix L (x3 + 3)).bind fun j576 =>
                                                                            (ix L (x3 + 4)).bind fun j578 =>
                                                                            (ix L (x3 + 5)).bind fun j580 =>
                                                                            bind2 (m_X10_copy (xs j572) (xs j574) (xs j576) (xs j578) (xs j580) μ571) fun v582 μ584 =>
                                                                            if v569 = v582 then
                                                                              m_L_law_18 xs L n (x3 + 7) μ584
                                                                            else
                                                                              some (0, μ584)
                                                                          else
                                                                            if ((xs j2) &&& 63) = 35 then
                                                                              (ix L (x3 + 1)).bind fun j587 =>
                                                                              (ix L (x3 + 2)).bind fun j589 =>
                                                                              (ix L (x3 + 3)).bind fun j591 =>
                                                                              (ix L (x3 + 4)).bind fun j593 =>
                                                                              bind2 (m_X9_rugsBy (xs j587) (xs j589) (xs j591) (xs j593) μ) fun v595 μ597 =>
                                                                              (ix L (x3 + 1)).bind fun j598 =>
                                                                              (ix L (x3 + 2)).bind fun j600 =>
                                                                              (ix L (x3 + 3)).bind fun j602 =>
                                                                              (ix L (x3 + 4)).bind fun j604 =>
                                                                              bind2 (m_X10_rugsBy (xs j598) (xs j600) (xs j602) (xs j604) μ597) fun v606 μ608 =>
                                                                              if v595 = v606 then
                                                                                m_L_law_18 xs L n (x3 + 7) μ608
                                                                              else
                                                                                some (0, μ608)
                                                                            else
                                                                              if ((xs j2) &&& 63) = 36 then
                                                                                (ix L (x3 + 1)).bind fun j611 =>
                                                                                (ix L (x3 + 2)).bind fun j613 =>
                                                                                (m_X9_taken (xs j611) (xs j613) μ).bind fun v615 =>
                                                                                (ix L (x3 + 1)).bind fun j617 =>
                                                                                (ix L (x3 + 2)).bind fun j619 =>
                                                                                (m_X10_taken (xs j617) (xs j619) μ).bind fun v621 =>
                                                                                if v615 = v621 then
                                                                                  m_L_law_18 xs L n (x3 + 7) μ
                                                                                else
                                                                                  some (0, μ)
                                                                              else
                                                                                m_L_law_18 xs L n (x3 + 7) μ
set_option maxRecDepth 100000 in
set_option maxHeartbeats 8000000 in
theorem a_L_law_18 {G : ax_G} {l : Launch} {xs : Nat → Int32} {L : Nat} (hxs : G.2.2.2.2.2.2.1 = L ∧ G.2.2.2.2.2.2.2 = xs) : ∀ (n : Nat) (x3 : Int32) (μ : ax_M) (v : Int32 × ax_M), m_L_law_18 xs L n x3 μ = some v → ax_X G l RL code 4 ret false 124 (some (.int v.1), SHF, v.2) 18 [(0, .ref G.2.2.2.2.2.1), (1, .ref (G.1 + 0)), (2, .ref (G.1 + 51)), (3, .int x3)] [] SHF μ := by
  intro n
  induction n with
  | zero =>
    intro x3 μ v h
    rw [m_L_law_18] at h
    cases h
  | succ n ih =>
    intro x3 μ v h
    rw [m_L_law_18] at h
    refine ax_iload_n (pc := 18) (i := 3) (q := 3) (ax_dd KL_law_0 10 rfl) rfl rfl ?_
    refine ax_aload_n (pc := 19) (i := 0) (q := 0) (ax_dd KL_law_0 11 rfl) rfl rfl ?_
    refine ax_scn (pc := 20) (L := L) (ax_dd KL_law_0 12 rfl) hxs ?_
    refine ax_bipush (pc := 21) (v := 7) (ax_dd KL_law_0 13 rfl) (by decide) ?_
    refine ax_isub (pc := 23) (ax_dd KL_law_0 14 rfl) ?_
    by_cases c1 : ((Int32.ofNat L) - 7) < x3
    · rw [if_pos c1] at h
      refine ax_icmp_gt_t (pc := 24) (tgt := 1510) (ax_dd KL_law_0 15 rfl) (by decide) c1 ?_
      refine ax_iconst (pc := 1510) (v := 1) (ax_dd KL_law_44 8 rfl) (by decide) ?_
      obtain rfl := Option.some.inj h
      exact ax_ireti (pc := 1511) (ax_dd KL_law_44 9 rfl) ⟨_, rfl, rfl⟩ rfl
    · rw [if_neg c1] at h
      refine ax_icmp_gt_f (pc := 24) (tgt := 1510) (ax_dd KL_law_0 15 rfl) (by decide) c1 ?_
      refine ax_aload_n (pc := 27) (i := 0) (q := 0) (ax_dd KL_law_0 16 rfl) rfl rfl ?_
      refine ax_iload_n (pc := 28) (i := 3) (q := 3) (ax_dd KL_law_0 17 rfl) rfl rfl ?_
      obtain ⟨j2, b3, h⟩ := ob_bind h
      refine ax_scl (pc := 29) (j := j2) (xs := xs) (ax_dd KL_law_0 18 rfl) hxs b3 ?_
      refine ax_bipush (pc := 30) (v := 63) (ax_dd KL_law_0 19 rfl) (by decide) ?_
      refine ax_iand (pc := 32) (ax_dd KL_law_0 20 rfl) ?_
      by_cases c4 : ((xs j2) &&& 63) = 0
      · rw [if_pos c4] at h
        refine ax_tab (pc := 33) (off := 163) (tgt := 196) (ax_dd KL_law_0 21 rfl) (by rw [c4]; decide) (by rw [c4]; decide) (by rw [c4]; rfl) (by decide) ?_
        refine ax_aload_n (pc := 196) (i := 1) (q := 1) (ax_dd KL_law_0 22 rfl) rfl rfl ?_
        refine ax_aload_n (pc := 197) (i := 0) (q := 0) (ax_dd KL_law_0 23 rfl) rfl rfl ?_
        refine ax_iload_n (pc := 198) (i := 3) (q := 3) (ax_dd KL_law_0 24 rfl) rfl rfl ?_
        refine ax_iconst (pc := 199) (v := 1) (ax_dd KL_law_1 0 rfl) (by decide) ?_
        refine ax_iadd (pc := 200) (ax_dd KL_law_1 1 rfl) ?_
        obtain ⟨j5, b6, h⟩ := ob_bind h
        refine ax_scl (pc := 201) (j := j5) (xs := xs) (ax_dd KL_law_1 2 rfl) hxs b6 ?_
        obtain ⟨v7, b8, h⟩ := ob_bind h
        refine ax_kV (pc := 202) (ci := 9) (k := 0) (As := [.int (xs j5)]) (rest := []) (st1 := [.int v7]) (μ1 := μ) (ax_dd KL_law_1 3 rfl) (c_X9_count shp_F b8) kV_L_13 e_X9_count rfl cl_X9 (by decide) rfl rfl (by decide) (by decide) (Nat.le_of_ble_eq_true rfl) rfl ?_
        refine ax_aload_n (pc := 205) (i := 2) (q := 2) (ax_dd KL_law_1 4 rfl) rfl rfl ?_
        refine ax_aload_n (pc := 206) (i := 0) (q := 0) (ax_dd KL_law_1 5 rfl) rfl rfl ?_
        refine ax_iload_n (pc := 207) (i := 3) (q := 3) (ax_dd KL_law_1 6 rfl) rfl rfl ?_
        refine ax_iconst (pc := 208) (v := 1) (ax_dd KL_law_1 7 rfl) (by decide) ?_
        refine ax_iadd (pc := 209) (ax_dd KL_law_1 8 rfl) ?_
        obtain ⟨j9, b10, h⟩ := ob_bind h
        refine ax_scl (pc := 210) (j := j9) (xs := xs) (ax_dd KL_law_1 9 rfl) hxs b10 ?_
        obtain ⟨v11, b12, h⟩ := ob_bind h
        refine ax_kV (pc := 211) (ci := 10) (k := 51) (As := [.int (xs j9)]) (rest := [.int v7]) (st1 := [.int v11, .int v7]) (μ1 := μ) (ax_dd KL_law_1 10 rfl) (c_X10_count (fun _ _ h => h) b12) kV_L_17 e_X10_count rfl cl_X10 (by decide) rfl rfl (by decide) (by decide) (Nat.le_of_ble_eq_true rfl) rfl ?_
        by_cases c13 : v7 = v11
        · rw [if_pos c13] at h
          refine ax_icmp_eq_t (pc := 214) (tgt := 1504) (ax_dd KL_law_1 11 rfl) (by decide) c13 ?_
          refine ax_iinc (pc := 1504) (q := 3) (v := (x3 + 7)) (lv' := [(3, .int (x3 + 7)), (0, .ref G.2.2.2.2.2.1), (1, .ref (G.1 + 0)), (2, .ref (G.1 + 51))]) (ax_dd KL_law_44 6 rfl) rfl rfl (by decide) rfl ?_
          refine ax_goto (pc := 1507) (tgt := 18) (ax_dd KL_law_44 7 rfl) (by decide) ?_
          refine ax_sub (lv' := [(0, .ref G.2.2.2.2.2.1), (1, .ref (G.1 + 0)), (2, .ref (G.1 + 51)), (3, .int (x3 + 7))]) [1, 2, 3, 0] rfl ?_
          exact ih _ _ _ h
        · rw [if_neg c13] at h
          refine ax_icmp_eq_f (pc := 214) (tgt := 1504) (ax_dd KL_law_1 11 rfl) (by decide) c13 ?_
          refine ax_iconst (pc := 217) (v := 0) (ax_dd KL_law_1 12 rfl) (by decide) ?_
          obtain rfl := Option.some.inj h
          exact ax_ireti (pc := 218) (ax_dd KL_law_1 13 rfl) ⟨_, rfl, rfl⟩ rfl
      · rw [if_neg c4] at h
        by_cases c14 : ((xs j2) &&& 63) = 1
        · rw [if_pos c14] at h
          refine ax_tab (pc := 33) (off := 186) (tgt := 219) (ax_dd KL_law_0 21 rfl) (by rw [c14]; decide) (by rw [c14]; decide) (by rw [c14]; rfl) (by decide) ?_
          refine ax_aload_n (pc := 219) (i := 1) (q := 1) (ax_dd KL_law_1 14 rfl) rfl rfl ?_
          refine ax_aload_n (pc := 220) (i := 0) (q := 0) (ax_dd KL_law_1 15 rfl) rfl rfl ?_
          refine ax_iload_n (pc := 221) (i := 3) (q := 3) (ax_dd KL_law_1 16 rfl) rfl rfl ?_
          refine ax_iconst (pc := 222) (v := 1) (ax_dd KL_law_1 17 rfl) (by decide) ?_
          refine ax_iadd (pc := 223) (ax_dd KL_law_1 18 rfl) ?_
          obtain ⟨j15, b16, h⟩ := ob_bind h
          refine ax_scl (pc := 224) (j := j15) (xs := xs) (ax_dd KL_law_1 19 rfl) hxs b16 ?_
          obtain ⟨v17, μ19, b18, h⟩ := ob_bind2 h
          refine ax_kV (pc := 225) (ci := 9) (k := 0) (As := [.int (xs j15)]) (rest := []) (st1 := [.int v17]) (μ1 := μ19) (ax_dd KL_law_1 20 rfl) (c_X9_strikes shp_F b18) kV_L_18 e_X9_strikes rfl cl_X9 (by decide) rfl rfl (by decide) (by decide) (Nat.le_of_ble_eq_true rfl) rfl ?_
          refine ax_aload_n (pc := 228) (i := 2) (q := 2) (ax_dd KL_law_1 21 rfl) rfl rfl ?_
          refine ax_aload_n (pc := 229) (i := 0) (q := 0) (ax_dd KL_law_1 22 rfl) rfl rfl ?_
          refine ax_iload_n (pc := 230) (i := 3) (q := 3) (ax_dd KL_law_1 23 rfl) rfl rfl ?_
          refine ax_iconst (pc := 231) (v := 1) (ax_dd KL_law_1 24 rfl) (by decide) ?_
          refine ax_iadd (pc := 232) (ax_dd KL_law_2 0 rfl) ?_
          obtain ⟨j20, b21, h⟩ := ob_bind h
          refine ax_scl (pc := 233) (j := j20) (xs := xs) (ax_dd KL_law_2 1 rfl) hxs b21 ?_
          obtain ⟨v22, μ24, b23, h⟩ := ob_bind2 h
          refine ax_kV (pc := 234) (ci := 10) (k := 51) (As := [.int (xs j20)]) (rest := [.int v17]) (st1 := [.int v22, .int v17]) (μ1 := μ24) (ax_dd KL_law_2 2 rfl) (c_X10_strikes (fun _ _ h => h) b23) kV_L_21 e_X10_strikes rfl cl_X10 (by decide) rfl rfl (by decide) (by decide) (Nat.le_of_ble_eq_true rfl) rfl ?_
          by_cases c25 : v17 = v22
          · rw [if_pos c25] at h
            refine ax_icmp_eq_t (pc := 237) (tgt := 1504) (ax_dd KL_law_2 3 rfl) (by decide) c25 ?_
            refine ax_iinc (pc := 1504) (q := 3) (v := (x3 + 7)) (lv' := [(3, .int (x3 + 7)), (0, .ref G.2.2.2.2.2.1), (1, .ref (G.1 + 0)), (2, .ref (G.1 + 51))]) (ax_dd KL_law_44 6 rfl) rfl rfl (by decide) rfl ?_
            refine ax_goto (pc := 1507) (tgt := 18) (ax_dd KL_law_44 7 rfl) (by decide) ?_
            refine ax_sub (lv' := [(0, .ref G.2.2.2.2.2.1), (1, .ref (G.1 + 0)), (2, .ref (G.1 + 51)), (3, .int (x3 + 7))]) [1, 2, 3, 0] rfl ?_
            exact ih _ _ _ h
          · rw [if_neg c25] at h
            refine ax_icmp_eq_f (pc := 237) (tgt := 1504) (ax_dd KL_law_2 3 rfl) (by decide) c25 ?_
            refine ax_iconst (pc := 240) (v := 0) (ax_dd KL_law_2 4 rfl) (by decide) ?_
            obtain rfl := Option.some.inj h
            exact ax_ireti (pc := 241) (ax_dd KL_law_2 5 rfl) ⟨_, rfl, rfl⟩ rfl
        · rw [if_neg c14] at h
          by_cases c26 : ((xs j2) &&& 63) = 2
          · rw [if_pos c26] at h
            refine ax_tab (pc := 33) (off := 209) (tgt := 242) (ax_dd KL_law_0 21 rfl) (by rw [c26]; decide) (by rw [c26]; decide) (by rw [c26]; rfl) (by decide) ?_
            refine ax_aload_n (pc := 242) (i := 1) (q := 1) (ax_dd KL_law_2 6 rfl) rfl rfl ?_
            refine ax_aload_n (pc := 243) (i := 0) (q := 0) (ax_dd KL_law_2 7 rfl) rfl rfl ?_
            refine ax_iload_n (pc := 244) (i := 3) (q := 3) (ax_dd KL_law_2 8 rfl) rfl rfl ?_
            refine ax_iconst (pc := 245) (v := 1) (ax_dd KL_law_2 9 rfl) (by decide) ?_
            refine ax_iadd (pc := 246) (ax_dd KL_law_2 10 rfl) ?_
            obtain ⟨j27, b28, h⟩ := ob_bind h
            refine ax_scl (pc := 247) (j := j27) (xs := xs) (ax_dd KL_law_2 11 rfl) hxs b28 ?_
            refine ax_aload_n (pc := 248) (i := 0) (q := 0) (ax_dd KL_law_2 12 rfl) rfl rfl ?_
            refine ax_iload_n (pc := 249) (i := 3) (q := 3) (ax_dd KL_law_2 13 rfl) rfl rfl ?_
            refine ax_iconst (pc := 250) (v := 2) (ax_dd KL_law_2 14 rfl) (by decide) ?_
            refine ax_iadd (pc := 251) (ax_dd KL_law_2 15 rfl) ?_
            obtain ⟨j29, b30, h⟩ := ob_bind h
            refine ax_scl (pc := 252) (j := j29) (xs := xs) (ax_dd KL_law_2 16 rfl) hxs b30 ?_
            refine ax_aload_n (pc := 253) (i := 0) (q := 0) (ax_dd KL_law_2 17 rfl) rfl rfl ?_
            refine ax_iload_n (pc := 254) (i := 3) (q := 3) (ax_dd KL_law_2 18 rfl) rfl rfl ?_
            refine ax_iconst (pc := 255) (v := 3) (ax_dd KL_law_2 19 rfl) (by decide) ?_
            refine ax_iadd (pc := 256) (ax_dd KL_law_2 20 rfl) ?_
            obtain ⟨j31, b32, h⟩ := ob_bind h
            refine ax_scl (pc := 257) (j := j31) (xs := xs) (ax_dd KL_law_2 21 rfl) hxs b32 ?_
            refine ax_aload_n (pc := 258) (i := 0) (q := 0) (ax_dd KL_law_2 22 rfl) rfl rfl ?_
            refine ax_iload_n (pc := 259) (i := 3) (q := 3) (ax_dd KL_law_2 23 rfl) rfl rfl ?_
            refine ax_iconst (pc := 260) (v := 4) (ax_dd KL_law_2 24 rfl) (by decide) ?_
            refine ax_iadd (pc := 261) (ax_dd KL_law_3 0 rfl) ?_
            obtain ⟨j33, b34, h⟩ := ob_bind h
            refine ax_scl (pc := 262) (j := j33) (xs := xs) (ax_dd KL_law_3 1 rfl) hxs b34 ?_
            refine ax_aload_n (pc := 263) (i := 0) (q := 0) (ax_dd KL_law_3 2 rfl) rfl rfl ?_
            refine ax_iload_n (pc := 264) (i := 3) (q := 3) (ax_dd KL_law_3 3 rfl) rfl rfl ?_
            refine ax_iconst (pc := 265) (v := 5) (ax_dd KL_law_3 4 rfl) (by decide) ?_
            refine ax_iadd (pc := 266) (ax_dd KL_law_3 5 rfl) ?_
            obtain ⟨j35, b36, h⟩ := ob_bind h
            refine ax_scl (pc := 267) (j := j35) (xs := xs) (ax_dd KL_law_3 6 rfl) hxs b36 ?_
            refine ax_aload_n (pc := 268) (i := 0) (q := 0) (ax_dd KL_law_3 7 rfl) rfl rfl ?_
            refine ax_iload_n (pc := 269) (i := 3) (q := 3) (ax_dd KL_law_3 8 rfl) rfl rfl ?_
            refine ax_bipush (pc := 270) (v := 6) (ax_dd KL_law_3 9 rfl) (by decide) ?_
            refine ax_iadd (pc := 272) (ax_dd KL_law_3 10 rfl) ?_
            obtain ⟨j37, b38, h⟩ := ob_bind h
            refine ax_scl (pc := 273) (j := j37) (xs := xs) (ax_dd KL_law_3 11 rfl) hxs b38 ?_
            obtain ⟨v39, μ41, b40, h⟩ := ob_bind2 h
            refine ax_kV (pc := 274) (ci := 9) (k := 0) (As := [.int (xs j27), .int (xs j29), .int (xs j31), .int (xs j33), .int (xs j35), .int (xs j37)]) (rest := []) (st1 := [.int v39]) (μ1 := μ41) (ax_dd KL_law_3 12 rfl) (c_X9_feed shp_F b40) kV_L_22 e_X9_feed rfl cl_X9 (by decide) rfl rfl (by decide) (by decide) (Nat.le_of_ble_eq_true rfl) rfl ?_
            refine ax_aload_n (pc := 277) (i := 2) (q := 2) (ax_dd KL_law_3 13 rfl) rfl rfl ?_
            refine ax_aload_n (pc := 278) (i := 0) (q := 0) (ax_dd KL_law_3 14 rfl) rfl rfl ?_
            refine ax_iload_n (pc := 279) (i := 3) (q := 3) (ax_dd KL_law_3 15 rfl) rfl rfl ?_
            refine ax_iconst (pc := 280) (v := 1) (ax_dd KL_law_3 16 rfl) (by decide) ?_
            refine ax_iadd (pc := 281) (ax_dd KL_law_3 17 rfl) ?_
            obtain ⟨j42, b43, h⟩ := ob_bind h
            refine ax_scl (pc := 282) (j := j42) (xs := xs) (ax_dd KL_law_3 18 rfl) hxs b43 ?_
            refine ax_aload_n (pc := 283) (i := 0) (q := 0) (ax_dd KL_law_3 19 rfl) rfl rfl ?_
            refine ax_iload_n (pc := 284) (i := 3) (q := 3) (ax_dd KL_law_3 20 rfl) rfl rfl ?_
            refine ax_iconst (pc := 285) (v := 2) (ax_dd KL_law_3 21 rfl) (by decide) ?_
            refine ax_iadd (pc := 286) (ax_dd KL_law_3 22 rfl) ?_
            obtain ⟨j44, b45, h⟩ := ob_bind h
            refine ax_scl (pc := 287) (j := j44) (xs := xs) (ax_dd KL_law_3 23 rfl) hxs b45 ?_
            refine ax_aload_n (pc := 288) (i := 0) (q := 0) (ax_dd KL_law_3 24 rfl) rfl rfl ?_
            refine ax_iload_n (pc := 289) (i := 3) (q := 3) (ax_dd KL_law_4 0 rfl) rfl rfl ?_
            refine ax_iconst (pc := 290) (v := 3) (ax_dd KL_law_4 1 rfl) (by decide) ?_
            refine ax_iadd (pc := 291) (ax_dd KL_law_4 2 rfl) ?_
            obtain ⟨j46, b47, h⟩ := ob_bind h
            refine ax_scl (pc := 292) (j := j46) (xs := xs) (ax_dd KL_law_4 3 rfl) hxs b47 ?_
            refine ax_aload_n (pc := 293) (i := 0) (q := 0) (ax_dd KL_law_4 4 rfl) rfl rfl ?_
            refine ax_iload_n (pc := 294) (i := 3) (q := 3) (ax_dd KL_law_4 5 rfl) rfl rfl ?_
            refine ax_iconst (pc := 295) (v := 4) (ax_dd KL_law_4 6 rfl) (by decide) ?_
            refine ax_iadd (pc := 296) (ax_dd KL_law_4 7 rfl) ?_
            obtain ⟨j48, b49, h⟩ := ob_bind h
            refine ax_scl (pc := 297) (j := j48) (xs := xs) (ax_dd KL_law_4 8 rfl) hxs b49 ?_
            refine ax_aload_n (pc := 298) (i := 0) (q := 0) (ax_dd KL_law_4 9 rfl) rfl rfl ?_
            refine ax_iload_n (pc := 299) (i := 3) (q := 3) (ax_dd KL_law_4 10 rfl) rfl rfl ?_
            refine ax_iconst (pc := 300) (v := 5) (ax_dd KL_law_4 11 rfl) (by decide) ?_
            refine ax_iadd (pc := 301) (ax_dd KL_law_4 12 rfl) ?_
            obtain ⟨j50, b51, h⟩ := ob_bind h
            refine ax_scl (pc := 302) (j := j50) (xs := xs) (ax_dd KL_law_4 13 rfl) hxs b51 ?_
            refine ax_aload_n (pc := 303) (i := 0) (q := 0) (ax_dd KL_law_4 14 rfl) rfl rfl ?_
            refine ax_iload_n (pc := 304) (i := 3) (q := 3) (ax_dd KL_law_4 15 rfl) rfl rfl ?_
            refine ax_bipush (pc := 305) (v := 6) (ax_dd KL_law_4 16 rfl) (by decide) ?_
            refine ax_iadd (pc := 307) (ax_dd KL_law_4 17 rfl) ?_
            obtain ⟨j52, b53, h⟩ := ob_bind h
            refine ax_scl (pc := 308) (j := j52) (xs := xs) (ax_dd KL_law_4 18 rfl) hxs b53 ?_
            obtain ⟨v54, μ56, b55, h⟩ := ob_bind2 h
            refine ax_kV (pc := 309) (ci := 10) (k := 51) (As := [.int (xs j42), .int (xs j44), .int (xs j46), .int (xs j48), .int (xs j50), .int (xs j52)]) (rest := [.int v39]) (st1 := [.int v54, .int v39]) (μ1 := μ56) (ax_dd KL_law_4 19 rfl) (c_X10_feed (fun _ _ h => h) b55) kV_L_26 e_X10_feed rfl cl_X10 (by decide) rfl rfl (by decide) (by decide) (Nat.le_of_ble_eq_true rfl) rfl ?_
            by_cases c57 : v39 = v54
            · rw [if_pos c57] at h
              refine ax_icmp_eq_t (pc := 312) (tgt := 1504) (ax_dd KL_law_4 20 rfl) (by decide) c57 ?_
              refine ax_iinc (pc := 1504) (q := 3) (v := (x3 + 7)) (lv' := [(3, .int (x3 + 7)), (0, .ref G.2.2.2.2.2.1), (1, .ref (G.1 + 0)), (2, .ref (G.1 + 51))]) (ax_dd KL_law_44 6 rfl) rfl rfl (by decide) rfl ?_
              refine ax_goto (pc := 1507) (tgt := 18) (ax_dd KL_law_44 7 rfl) (by decide) ?_
              refine ax_sub (lv' := [(0, .ref G.2.2.2.2.2.1), (1, .ref (G.1 + 0)), (2, .ref (G.1 + 51)), (3, .int (x3 + 7))]) [1, 2, 3, 0] rfl ?_
              exact ih _ _ _ h
            · rw [if_neg c57] at h
              refine ax_icmp_eq_f (pc := 312) (tgt := 1504) (ax_dd KL_law_4 20 rfl) (by decide) c57 ?_
              refine ax_iconst (pc := 315) (v := 0) (ax_dd KL_law_4 21 rfl) (by decide) ?_
              obtain rfl := Option.some.inj h
              exact ax_ireti (pc := 316) (ax_dd KL_law_4 22 rfl) ⟨_, rfl, rfl⟩ rfl
          · rw [if_neg c26] at h
            by_cases c58 : ((xs j2) &&& 63) = 3
            · rw [if_pos c58] at h
              refine ax_tab (pc := 33) (off := 284) (tgt := 317) (ax_dd KL_law_0 21 rfl) (by rw [c58]; decide) (by rw [c58]; decide) (by rw [c58]; rfl) (by decide) ?_
              refine ax_aload_n (pc := 317) (i := 1) (q := 1) (ax_dd KL_law_4 23 rfl) rfl rfl ?_
              obtain ⟨v59, μ61, b60, h⟩ := ob_bind2 h
              refine ax_kV (pc := 318) (ci := 9) (k := 0) (As := []) (rest := []) (st1 := [.int v59]) (μ1 := μ61) (ax_dd KL_law_4 24 rfl) (c_X9_text shp_F b60) kV_L_27 e_X9_text rfl cl_X9 (by decide) rfl rfl (by decide) (by decide) (Nat.le_of_ble_eq_true rfl) rfl ?_
              refine ax_aload_n (pc := 321) (i := 2) (q := 2) (ax_dd KL_law_5 0 rfl) rfl rfl ?_
              obtain ⟨v62, μ64, b63, h⟩ := ob_bind2 h
              refine ax_kV (pc := 322) (ci := 10) (k := 51) (As := []) (rest := [.int v59]) (st1 := [.int v62, .int v59]) (μ1 := μ64) (ax_dd KL_law_5 1 rfl) (c_X10_text (fun _ _ h => h) b63) kV_L_31 e_X10_text rfl cl_X10 (by decide) rfl rfl (by decide) (by decide) (Nat.le_of_ble_eq_true rfl) rfl ?_
              by_cases c65 : v59 = v62
              · rw [if_pos c65] at h
                refine ax_icmp_eq_t (pc := 325) (tgt := 1504) (ax_dd KL_law_5 2 rfl) (by decide) c65 ?_
                refine ax_iinc (pc := 1504) (q := 3) (v := (x3 + 7)) (lv' := [(3, .int (x3 + 7)), (0, .ref G.2.2.2.2.2.1), (1, .ref (G.1 + 0)), (2, .ref (G.1 + 51))]) (ax_dd KL_law_44 6 rfl) rfl rfl (by decide) rfl ?_
                refine ax_goto (pc := 1507) (tgt := 18) (ax_dd KL_law_44 7 rfl) (by decide) ?_
                refine ax_sub (lv' := [(0, .ref G.2.2.2.2.2.1), (1, .ref (G.1 + 0)), (2, .ref (G.1 + 51)), (3, .int (x3 + 7))]) [1, 2, 3, 0] rfl ?_
                exact ih _ _ _ h
              · rw [if_neg c65] at h
                refine ax_icmp_eq_f (pc := 325) (tgt := 1504) (ax_dd KL_law_5 2 rfl) (by decide) c65 ?_
                refine ax_iconst (pc := 328) (v := 0) (ax_dd KL_law_5 3 rfl) (by decide) ?_
                obtain rfl := Option.some.inj h
                exact ax_ireti (pc := 329) (ax_dd KL_law_5 4 rfl) ⟨_, rfl, rfl⟩ rfl
            · rw [if_neg c58] at h
              by_cases c66 : ((xs j2) &&& 63) = 4
              · rw [if_pos c66] at h
                refine ax_tab (pc := 33) (off := 297) (tgt := 330) (ax_dd KL_law_0 21 rfl) (by rw [c66]; decide) (by rw [c66]; decide) (by rw [c66]; rfl) (by decide) ?_
                refine ax_aload_n (pc := 330) (i := 1) (q := 1) (ax_dd KL_law_5 5 rfl) rfl rfl ?_
                refine ax_aload_n (pc := 331) (i := 0) (q := 0) (ax_dd KL_law_5 6 rfl) rfl rfl ?_
                refine ax_iload_n (pc := 332) (i := 3) (q := 3) (ax_dd KL_law_5 7 rfl) rfl rfl ?_
                refine ax_iconst (pc := 333) (v := 1) (ax_dd KL_law_5 8 rfl) (by decide) ?_
                refine ax_iadd (pc := 334) (ax_dd KL_law_5 9 rfl) ?_
                obtain ⟨j67, b68, h⟩ := ob_bind h
                refine ax_scl (pc := 335) (j := j67) (xs := xs) (ax_dd KL_law_5 10 rfl) hxs b68 ?_
                obtain ⟨v69, μ71, b70, h⟩ := ob_bind2 h
                refine ax_kV (pc := 336) (ci := 9) (k := 0) (As := [.int (xs j67)]) (rest := []) (st1 := [.int v69]) (μ1 := μ71) (ax_dd KL_law_5 11 rfl) (c_X9_force shp_F b70) kV_L_32 e_X9_force rfl cl_X9 (by decide) rfl rfl (by decide) (by decide) (Nat.le_of_ble_eq_true rfl) rfl ?_
                refine ax_aload_n (pc := 339) (i := 2) (q := 2) (ax_dd KL_law_5 12 rfl) rfl rfl ?_
                refine ax_aload_n (pc := 340) (i := 0) (q := 0) (ax_dd KL_law_5 13 rfl) rfl rfl ?_
                refine ax_iload_n (pc := 341) (i := 3) (q := 3) (ax_dd KL_law_5 14 rfl) rfl rfl ?_
                refine ax_iconst (pc := 342) (v := 1) (ax_dd KL_law_5 15 rfl) (by decide) ?_
                refine ax_iadd (pc := 343) (ax_dd KL_law_5 16 rfl) ?_
                obtain ⟨j72, b73, h⟩ := ob_bind h
                refine ax_scl (pc := 344) (j := j72) (xs := xs) (ax_dd KL_law_5 17 rfl) hxs b73 ?_
                obtain ⟨v74, μ76, b75, h⟩ := ob_bind2 h
                refine ax_kV (pc := 345) (ci := 10) (k := 51) (As := [.int (xs j72)]) (rest := [.int v69]) (st1 := [.int v74, .int v69]) (μ1 := μ76) (ax_dd KL_law_5 18 rfl) (c_X10_force (fun _ _ h => h) b75) kV_L_35 e_X10_force rfl cl_X10 (by decide) rfl rfl (by decide) (by decide) (Nat.le_of_ble_eq_true rfl) rfl ?_
                by_cases c77 : v69 = v74
                · rw [if_pos c77] at h
                  refine ax_icmp_eq_t (pc := 348) (tgt := 1504) (ax_dd KL_law_5 19 rfl) (by decide) c77 ?_
                  refine ax_iinc (pc := 1504) (q := 3) (v := (x3 + 7)) (lv' := [(3, .int (x3 + 7)), (0, .ref G.2.2.2.2.2.1), (1, .ref (G.1 + 0)), (2, .ref (G.1 + 51))]) (ax_dd KL_law_44 6 rfl) rfl rfl (by decide) rfl ?_
                  refine ax_goto (pc := 1507) (tgt := 18) (ax_dd KL_law_44 7 rfl) (by decide) ?_
                  refine ax_sub (lv' := [(0, .ref G.2.2.2.2.2.1), (1, .ref (G.1 + 0)), (2, .ref (G.1 + 51)), (3, .int (x3 + 7))]) [1, 2, 3, 0] rfl ?_
                  exact ih _ _ _ h
                · rw [if_neg c77] at h
                  refine ax_icmp_eq_f (pc := 348) (tgt := 1504) (ax_dd KL_law_5 19 rfl) (by decide) c77 ?_
                  refine ax_iconst (pc := 351) (v := 0) (ax_dd KL_law_5 20 rfl) (by decide) ?_
                  obtain rfl := Option.some.inj h
                  exact ax_ireti (pc := 352) (ax_dd KL_law_5 21 rfl) ⟨_, rfl, rfl⟩ rfl
              · rw [if_neg c66] at h
                by_cases c78 : ((xs j2) &&& 63) = 5
                · rw [if_pos c78] at h
                  refine ax_tab (pc := 33) (off := 320) (tgt := 353) (ax_dd KL_law_0 21 rfl) (by rw [c78]; decide) (by rw [c78]; decide) (by rw [c78]; rfl) (by decide) ?_
                  refine ax_aload_n (pc := 353) (i := 1) (q := 1) (ax_dd KL_law_5 22 rfl) rfl rfl ?_
                  refine ax_aload_n (pc := 354) (i := 0) (q := 0) (ax_dd KL_law_5 23 rfl) rfl rfl ?_
                  refine ax_iload_n (pc := 355) (i := 3) (q := 3) (ax_dd KL_law_5 24 rfl) rfl rfl ?_
                  refine ax_iconst (pc := 356) (v := 1) (ax_dd KL_law_6 0 rfl) (by decide) ?_
                  refine ax_iadd (pc := 357) (ax_dd KL_law_6 1 rfl) ?_
                  obtain ⟨j79, b80, h⟩ := ob_bind h
                  refine ax_scl (pc := 358) (j := j79) (xs := xs) (ax_dd KL_law_6 2 rfl) hxs b80 ?_
                  refine ax_aload_n (pc := 359) (i := 0) (q := 0) (ax_dd KL_law_6 3 rfl) rfl rfl ?_
                  refine ax_iload_n (pc := 360) (i := 3) (q := 3) (ax_dd KL_law_6 4 rfl) rfl rfl ?_
                  refine ax_iconst (pc := 361) (v := 2) (ax_dd KL_law_6 5 rfl) (by decide) ?_
                  refine ax_iadd (pc := 362) (ax_dd KL_law_6 6 rfl) ?_
                  obtain ⟨j81, b82, h⟩ := ob_bind h
                  refine ax_scl (pc := 363) (j := j81) (xs := xs) (ax_dd KL_law_6 7 rfl) hxs b82 ?_
                  refine ax_aload_n (pc := 364) (i := 0) (q := 0) (ax_dd KL_law_6 8 rfl) rfl rfl ?_
                  refine ax_iload_n (pc := 365) (i := 3) (q := 3) (ax_dd KL_law_6 9 rfl) rfl rfl ?_
                  refine ax_iconst (pc := 366) (v := 3) (ax_dd KL_law_6 10 rfl) (by decide) ?_
                  refine ax_iadd (pc := 367) (ax_dd KL_law_6 11 rfl) ?_
                  obtain ⟨j83, b84, h⟩ := ob_bind h
                  refine ax_scl (pc := 368) (j := j83) (xs := xs) (ax_dd KL_law_6 12 rfl) hxs b84 ?_
                  obtain ⟨v85, μ87, b86, h⟩ := ob_bind2 h
                  refine ax_kV (pc := 369) (ci := 9) (k := 0) (As := [.int (xs j79), .int (xs j81), .int (xs j83)]) (rest := []) (st1 := [.int v85]) (μ1 := μ87) (ax_dd KL_law_6 13 rfl) (c_X9_asks shp_F b86) kV_L_36 e_X9_asks rfl cl_X9 (by decide) rfl rfl (by decide) (by decide) (Nat.le_of_ble_eq_true rfl) rfl ?_
                  refine ax_aload_n (pc := 372) (i := 2) (q := 2) (ax_dd KL_law_6 14 rfl) rfl rfl ?_
                  refine ax_aload_n (pc := 373) (i := 0) (q := 0) (ax_dd KL_law_6 15 rfl) rfl rfl ?_
                  refine ax_iload_n (pc := 374) (i := 3) (q := 3) (ax_dd KL_law_6 16 rfl) rfl rfl ?_
                  refine ax_iconst (pc := 375) (v := 1) (ax_dd KL_law_6 17 rfl) (by decide) ?_
                  refine ax_iadd (pc := 376) (ax_dd KL_law_6 18 rfl) ?_
                  obtain ⟨j88, b89, h⟩ := ob_bind h
                  refine ax_scl (pc := 377) (j := j88) (xs := xs) (ax_dd KL_law_6 19 rfl) hxs b89 ?_
                  refine ax_aload_n (pc := 378) (i := 0) (q := 0) (ax_dd KL_law_6 20 rfl) rfl rfl ?_
                  refine ax_iload_n (pc := 379) (i := 3) (q := 3) (ax_dd KL_law_6 21 rfl) rfl rfl ?_
                  refine ax_iconst (pc := 380) (v := 2) (ax_dd KL_law_6 22 rfl) (by decide) ?_
                  refine ax_iadd (pc := 381) (ax_dd KL_law_6 23 rfl) ?_
                  obtain ⟨j90, b91, h⟩ := ob_bind h
                  refine ax_scl (pc := 382) (j := j90) (xs := xs) (ax_dd KL_law_6 24 rfl) hxs b91 ?_
                  refine ax_aload_n (pc := 383) (i := 0) (q := 0) (ax_dd KL_law_7 0 rfl) rfl rfl ?_
                  refine ax_iload_n (pc := 384) (i := 3) (q := 3) (ax_dd KL_law_7 1 rfl) rfl rfl ?_
                  refine ax_iconst (pc := 385) (v := 3) (ax_dd KL_law_7 2 rfl) (by decide) ?_
                  refine ax_iadd (pc := 386) (ax_dd KL_law_7 3 rfl) ?_
                  obtain ⟨j92, b93, h⟩ := ob_bind h
                  refine ax_scl (pc := 387) (j := j92) (xs := xs) (ax_dd KL_law_7 4 rfl) hxs b93 ?_
                  obtain ⟨v94, μ96, b95, h⟩ := ob_bind2 h
                  refine ax_kV (pc := 388) (ci := 10) (k := 51) (As := [.int (xs j88), .int (xs j90), .int (xs j92)]) (rest := [.int v85]) (st1 := [.int v94, .int v85]) (μ1 := μ96) (ax_dd KL_law_7 5 rfl) (c_X10_asks (fun _ _ h => h) b95) kV_L_40 e_X10_asks rfl cl_X10 (by decide) rfl rfl (by decide) (by decide) (Nat.le_of_ble_eq_true rfl) rfl ?_
                  by_cases c97 : v85 = v94
                  · rw [if_pos c97] at h
                    refine ax_icmp_eq_t (pc := 391) (tgt := 1504) (ax_dd KL_law_7 6 rfl) (by decide) c97 ?_
                    refine ax_iinc (pc := 1504) (q := 3) (v := (x3 + 7)) (lv' := [(3, .int (x3 + 7)), (0, .ref G.2.2.2.2.2.1), (1, .ref (G.1 + 0)), (2, .ref (G.1 + 51))]) (ax_dd KL_law_44 6 rfl) rfl rfl (by decide) rfl ?_
                    refine ax_goto (pc := 1507) (tgt := 18) (ax_dd KL_law_44 7 rfl) (by decide) ?_
                    refine ax_sub (lv' := [(0, .ref G.2.2.2.2.2.1), (1, .ref (G.1 + 0)), (2, .ref (G.1 + 51)), (3, .int (x3 + 7))]) [1, 2, 3, 0] rfl ?_
                    exact ih _ _ _ h
                  · rw [if_neg c97] at h
                    refine ax_icmp_eq_f (pc := 391) (tgt := 1504) (ax_dd KL_law_7 6 rfl) (by decide) c97 ?_
                    refine ax_iconst (pc := 394) (v := 0) (ax_dd KL_law_7 7 rfl) (by decide) ?_
                    obtain rfl := Option.some.inj h
                    exact ax_ireti (pc := 395) (ax_dd KL_law_7 8 rfl) ⟨_, rfl, rfl⟩ rfl
                · rw [if_neg c78] at h
                  by_cases c98 : ((xs j2) &&& 63) = 6
                  · rw [if_pos c98] at h
                    refine ax_tab (pc := 33) (off := 363) (tgt := 396) (ax_dd KL_law_0 21 rfl) (by rw [c98]; decide) (by rw [c98]; decide) (by rw [c98]; rfl) (by decide) ?_
                    refine ax_aload_n (pc := 396) (i := 1) (q := 1) (ax_dd KL_law_7 9 rfl) rfl rfl ?_
                    refine ax_aload_n (pc := 397) (i := 0) (q := 0) (ax_dd KL_law_7 10 rfl) rfl rfl ?_
                    refine ax_iload_n (pc := 398) (i := 3) (q := 3) (ax_dd KL_law_7 11 rfl) rfl rfl ?_
                    refine ax_iconst (pc := 399) (v := 1) (ax_dd KL_law_7 12 rfl) (by decide) ?_
                    refine ax_iadd (pc := 400) (ax_dd KL_law_7 13 rfl) ?_
                    obtain ⟨j99, b100, h⟩ := ob_bind h
                    refine ax_scl (pc := 401) (j := j99) (xs := xs) (ax_dd KL_law_7 14 rfl) hxs b100 ?_
                    refine ax_aload_n (pc := 402) (i := 0) (q := 0) (ax_dd KL_law_7 15 rfl) rfl rfl ?_
                    refine ax_iload_n (pc := 403) (i := 3) (q := 3) (ax_dd KL_law_7 16 rfl) rfl rfl ?_
                    refine ax_iconst (pc := 404) (v := 2) (ax_dd KL_law_7 17 rfl) (by decide) ?_
                    refine ax_iadd (pc := 405) (ax_dd KL_law_7 18 rfl) ?_
                    obtain ⟨j101, b102, h⟩ := ob_bind h
                    refine ax_scl (pc := 406) (j := j101) (xs := xs) (ax_dd KL_law_7 19 rfl) hxs b102 ?_
                    obtain ⟨v103, μ105, b104, h⟩ := ob_bind2 h
                    refine ax_kV (pc := 407) (ci := 9) (k := 0) (As := [.int (xs j99), .int (xs j101)]) (rest := []) (st1 := [.int v103]) (μ1 := μ105) (ax_dd KL_law_7 20 rfl) (c_X9_spread shp_F b104) kV_L_41 e_X9_spread rfl cl_X9 (by decide) rfl rfl (by decide) (by decide) (Nat.le_of_ble_eq_true rfl) rfl ?_
                    refine ax_aload_n (pc := 410) (i := 2) (q := 2) (ax_dd KL_law_7 21 rfl) rfl rfl ?_
                    refine ax_aload_n (pc := 411) (i := 0) (q := 0) (ax_dd KL_law_7 22 rfl) rfl rfl ?_
                    refine ax_iload_n (pc := 412) (i := 3) (q := 3) (ax_dd KL_law_7 23 rfl) rfl rfl ?_
                    refine ax_iconst (pc := 413) (v := 1) (ax_dd KL_law_7 24 rfl) (by decide) ?_
                    refine ax_iadd (pc := 414) (ax_dd KL_law_8 0 rfl) ?_
                    obtain ⟨j106, b107, h⟩ := ob_bind h
                    refine ax_scl (pc := 415) (j := j106) (xs := xs) (ax_dd KL_law_8 1 rfl) hxs b107 ?_
                    refine ax_aload_n (pc := 416) (i := 0) (q := 0) (ax_dd KL_law_8 2 rfl) rfl rfl ?_
                    refine ax_iload_n (pc := 417) (i := 3) (q := 3) (ax_dd KL_law_8 3 rfl) rfl rfl ?_
                    refine ax_iconst (pc := 418) (v := 2) (ax_dd KL_law_8 4 rfl) (by decide) ?_
                    refine ax_iadd (pc := 419) (ax_dd KL_law_8 5 rfl) ?_
                    obtain ⟨j108, b109, h⟩ := ob_bind h
                    refine ax_scl (pc := 420) (j := j108) (xs := xs) (ax_dd KL_law_8 6 rfl) hxs b109 ?_
                    obtain ⟨v110, μ112, b111, h⟩ := ob_bind2 h
                    refine ax_kV (pc := 421) (ci := 10) (k := 51) (As := [.int (xs j106), .int (xs j108)]) (rest := [.int v103]) (st1 := [.int v110, .int v103]) (μ1 := μ112) (ax_dd KL_law_8 7 rfl) (c_X10_spread (fun _ _ h => h) b111) kV_L_45 e_X10_spread rfl cl_X10 (by decide) rfl rfl (by decide) (by decide) (Nat.le_of_ble_eq_true rfl) rfl ?_
                    by_cases c113 : v103 = v110
                    · rw [if_pos c113] at h
                      refine ax_icmp_eq_t (pc := 424) (tgt := 1504) (ax_dd KL_law_8 8 rfl) (by decide) c113 ?_
                      refine ax_iinc (pc := 1504) (q := 3) (v := (x3 + 7)) (lv' := [(3, .int (x3 + 7)), (0, .ref G.2.2.2.2.2.1), (1, .ref (G.1 + 0)), (2, .ref (G.1 + 51))]) (ax_dd KL_law_44 6 rfl) rfl rfl (by decide) rfl ?_
                      refine ax_goto (pc := 1507) (tgt := 18) (ax_dd KL_law_44 7 rfl) (by decide) ?_
                      refine ax_sub (lv' := [(0, .ref G.2.2.2.2.2.1), (1, .ref (G.1 + 0)), (2, .ref (G.1 + 51)), (3, .int (x3 + 7))]) [1, 2, 3, 0] rfl ?_
                      exact ih _ _ _ h
                    · rw [if_neg c113] at h
                      refine ax_icmp_eq_f (pc := 424) (tgt := 1504) (ax_dd KL_law_8 8 rfl) (by decide) c113 ?_
                      refine ax_iconst (pc := 427) (v := 0) (ax_dd KL_law_8 9 rfl) (by decide) ?_
                      obtain rfl := Option.some.inj h
                      exact ax_ireti (pc := 428) (ax_dd KL_law_8 10 rfl) ⟨_, rfl, rfl⟩ rfl
                  · rw [if_neg c98] at h
                    by_cases c114 : ((xs j2) &&& 63) = 7
                    · rw [if_pos c114] at h
                      refine ax_tab (pc := 33) (off := 396) (tgt := 429) (ax_dd KL_law_0 21 rfl) (by rw [c114]; decide) (by rw [c114]; decide) (by rw [c114]; rfl) (by decide) ?_
                      refine ax_aload_n (pc := 429) (i := 1) (q := 1) (ax_dd KL_law_8 11 rfl) rfl rfl ?_
                      refine ax_aload_n (pc := 430) (i := 0) (q := 0) (ax_dd KL_law_8 12 rfl) rfl rfl ?_
                      refine ax_iload_n (pc := 431) (i := 3) (q := 3) (ax_dd KL_law_8 13 rfl) rfl rfl ?_
                      refine ax_iconst (pc := 432) (v := 1) (ax_dd KL_law_8 14 rfl) (by decide) ?_
                      refine ax_iadd (pc := 433) (ax_dd KL_law_8 15 rfl) ?_
                      obtain ⟨j115, b116, h⟩ := ob_bind h
                      refine ax_scl (pc := 434) (j := j115) (xs := xs) (ax_dd KL_law_8 16 rfl) hxs b116 ?_
                      refine ax_aload_n (pc := 435) (i := 0) (q := 0) (ax_dd KL_law_8 17 rfl) rfl rfl ?_
                      refine ax_iload_n (pc := 436) (i := 3) (q := 3) (ax_dd KL_law_8 18 rfl) rfl rfl ?_
                      refine ax_iconst (pc := 437) (v := 2) (ax_dd KL_law_8 19 rfl) (by decide) ?_
                      refine ax_iadd (pc := 438) (ax_dd KL_law_8 20 rfl) ?_
                      obtain ⟨j117, b118, h⟩ := ob_bind h
                      refine ax_scl (pc := 439) (j := j117) (xs := xs) (ax_dd KL_law_8 21 rfl) hxs b118 ?_
                      refine ax_aload_n (pc := 440) (i := 0) (q := 0) (ax_dd KL_law_8 22 rfl) rfl rfl ?_
                      refine ax_iload_n (pc := 441) (i := 3) (q := 3) (ax_dd KL_law_8 23 rfl) rfl rfl ?_
                      refine ax_iconst (pc := 442) (v := 3) (ax_dd KL_law_8 24 rfl) (by decide) ?_
                      refine ax_iadd (pc := 443) (ax_dd KL_law_9 0 rfl) ?_
                      obtain ⟨j119, b120, h⟩ := ob_bind h
                      refine ax_scl (pc := 444) (j := j119) (xs := xs) (ax_dd KL_law_9 1 rfl) hxs b120 ?_
                      obtain ⟨v121, μ123, b122, h⟩ := ob_bind2 h
                      refine ax_kV (pc := 445) (ci := 9) (k := 0) (As := [.int (xs j115), .int (xs j117), .int (xs j119)]) (rest := []) (st1 := [.int v121]) (μ1 := μ123) (ax_dd KL_law_9 2 rfl) (c_X9_put shp_F b122) kV_L_46 e_X9_put rfl cl_X9 (by decide) rfl rfl (by decide) (by decide) (Nat.le_of_ble_eq_true rfl) rfl ?_
                      refine ax_aload_n (pc := 448) (i := 2) (q := 2) (ax_dd KL_law_9 3 rfl) rfl rfl ?_
                      refine ax_aload_n (pc := 449) (i := 0) (q := 0) (ax_dd KL_law_9 4 rfl) rfl rfl ?_
                      refine ax_iload_n (pc := 450) (i := 3) (q := 3) (ax_dd KL_law_9 5 rfl) rfl rfl ?_
                      refine ax_iconst (pc := 451) (v := 1) (ax_dd KL_law_9 6 rfl) (by decide) ?_
                      refine ax_iadd (pc := 452) (ax_dd KL_law_9 7 rfl) ?_
                      obtain ⟨j124, b125, h⟩ := ob_bind h
                      refine ax_scl (pc := 453) (j := j124) (xs := xs) (ax_dd KL_law_9 8 rfl) hxs b125 ?_
                      refine ax_aload_n (pc := 454) (i := 0) (q := 0) (ax_dd KL_law_9 9 rfl) rfl rfl ?_
                      refine ax_iload_n (pc := 455) (i := 3) (q := 3) (ax_dd KL_law_9 10 rfl) rfl rfl ?_
                      refine ax_iconst (pc := 456) (v := 2) (ax_dd KL_law_9 11 rfl) (by decide) ?_
                      refine ax_iadd (pc := 457) (ax_dd KL_law_9 12 rfl) ?_
                      obtain ⟨j126, b127, h⟩ := ob_bind h
                      refine ax_scl (pc := 458) (j := j126) (xs := xs) (ax_dd KL_law_9 13 rfl) hxs b127 ?_
                      refine ax_aload_n (pc := 459) (i := 0) (q := 0) (ax_dd KL_law_9 14 rfl) rfl rfl ?_
                      refine ax_iload_n (pc := 460) (i := 3) (q := 3) (ax_dd KL_law_9 15 rfl) rfl rfl ?_
                      refine ax_iconst (pc := 461) (v := 3) (ax_dd KL_law_9 16 rfl) (by decide) ?_
                      refine ax_iadd (pc := 462) (ax_dd KL_law_9 17 rfl) ?_
                      obtain ⟨j128, b129, h⟩ := ob_bind h
                      refine ax_scl (pc := 463) (j := j128) (xs := xs) (ax_dd KL_law_9 18 rfl) hxs b129 ?_
                      obtain ⟨v130, μ132, b131, h⟩ := ob_bind2 h
                      refine ax_kV (pc := 464) (ci := 10) (k := 51) (As := [.int (xs j124), .int (xs j126), .int (xs j128)]) (rest := [.int v121]) (st1 := [.int v130, .int v121]) (μ1 := μ132) (ax_dd KL_law_9 19 rfl) (c_X10_put (fun _ _ h => h) b131) kV_L_49 e_X10_put rfl cl_X10 (by decide) rfl rfl (by decide) (by decide) (Nat.le_of_ble_eq_true rfl) rfl ?_
                      by_cases c133 : v121 = v130
                      · rw [if_pos c133] at h
                        refine ax_icmp_eq_t (pc := 467) (tgt := 1504) (ax_dd KL_law_9 20 rfl) (by decide) c133 ?_
                        refine ax_iinc (pc := 1504) (q := 3) (v := (x3 + 7)) (lv' := [(3, .int (x3 + 7)), (0, .ref G.2.2.2.2.2.1), (1, .ref (G.1 + 0)), (2, .ref (G.1 + 51))]) (ax_dd KL_law_44 6 rfl) rfl rfl (by decide) rfl ?_
                        refine ax_goto (pc := 1507) (tgt := 18) (ax_dd KL_law_44 7 rfl) (by decide) ?_
                        refine ax_sub (lv' := [(0, .ref G.2.2.2.2.2.1), (1, .ref (G.1 + 0)), (2, .ref (G.1 + 51)), (3, .int (x3 + 7))]) [1, 2, 3, 0] rfl ?_
                        exact ih _ _ _ h
                      · rw [if_neg c133] at h
                        refine ax_icmp_eq_f (pc := 467) (tgt := 1504) (ax_dd KL_law_9 20 rfl) (by decide) c133 ?_
                        refine ax_iconst (pc := 470) (v := 0) (ax_dd KL_law_9 21 rfl) (by decide) ?_
                        obtain rfl := Option.some.inj h
                        exact ax_ireti (pc := 471) (ax_dd KL_law_9 22 rfl) ⟨_, rfl, rfl⟩ rfl
                    · rw [if_neg c114] at h
                      by_cases c134 : ((xs j2) &&& 63) = 8
                      · rw [if_pos c134] at h
                        refine ax_tab (pc := 33) (off := 439) (tgt := 472) (ax_dd KL_law_0 21 rfl) (by rw [c134]; decide) (by rw [c134]; decide) (by rw [c134]; rfl) (by decide) ?_
                        refine ax_aload_n (pc := 472) (i := 1) (q := 1) (ax_dd KL_law_9 23 rfl) rfl rfl ?_
                        refine ax_aload_n (pc := 473) (i := 0) (q := 0) (ax_dd KL_law_9 24 rfl) rfl rfl ?_
                        refine ax_iload_n (pc := 474) (i := 3) (q := 3) (ax_dd KL_law_10 0 rfl) rfl rfl ?_
                        refine ax_iconst (pc := 475) (v := 1) (ax_dd KL_law_10 1 rfl) (by decide) ?_
                        refine ax_iadd (pc := 476) (ax_dd KL_law_10 2 rfl) ?_
                        obtain ⟨j135, b136, h⟩ := ob_bind h
                        refine ax_scl (pc := 477) (j := j135) (xs := xs) (ax_dd KL_law_10 3 rfl) hxs b136 ?_
                        refine ax_aload_n (pc := 478) (i := 0) (q := 0) (ax_dd KL_law_10 4 rfl) rfl rfl ?_
                        refine ax_iload_n (pc := 479) (i := 3) (q := 3) (ax_dd KL_law_10 5 rfl) rfl rfl ?_
                        refine ax_iconst (pc := 480) (v := 2) (ax_dd KL_law_10 6 rfl) (by decide) ?_
                        refine ax_iadd (pc := 481) (ax_dd KL_law_10 7 rfl) ?_
                        obtain ⟨j137, b138, h⟩ := ob_bind h
                        refine ax_scl (pc := 482) (j := j137) (xs := xs) (ax_dd KL_law_10 8 rfl) hxs b138 ?_
                        obtain ⟨v139, μ141, b140, h⟩ := ob_bind2 h
                        refine ax_kV (pc := 483) (ci := 9) (k := 0) (As := [.int (xs j135), .int (xs j137)]) (rest := []) (st1 := [.int v139]) (μ1 := μ141) (ax_dd KL_law_10 9 rfl) (c_X9_told shp_F b140) kV_L_50 e_X9_told rfl cl_X9 (by decide) rfl rfl (by decide) (by decide) (Nat.le_of_ble_eq_true rfl) rfl ?_
                        refine ax_aload_n (pc := 486) (i := 2) (q := 2) (ax_dd KL_law_10 10 rfl) rfl rfl ?_
                        refine ax_aload_n (pc := 487) (i := 0) (q := 0) (ax_dd KL_law_10 11 rfl) rfl rfl ?_
                        refine ax_iload_n (pc := 488) (i := 3) (q := 3) (ax_dd KL_law_10 12 rfl) rfl rfl ?_
                        refine ax_iconst (pc := 489) (v := 1) (ax_dd KL_law_10 13 rfl) (by decide) ?_
                        refine ax_iadd (pc := 490) (ax_dd KL_law_10 14 rfl) ?_
                        obtain ⟨j142, b143, h⟩ := ob_bind h
                        refine ax_scl (pc := 491) (j := j142) (xs := xs) (ax_dd KL_law_10 15 rfl) hxs b143 ?_
                        refine ax_aload_n (pc := 492) (i := 0) (q := 0) (ax_dd KL_law_10 16 rfl) rfl rfl ?_
                        refine ax_iload_n (pc := 493) (i := 3) (q := 3) (ax_dd KL_law_10 17 rfl) rfl rfl ?_
                        refine ax_iconst (pc := 494) (v := 2) (ax_dd KL_law_10 18 rfl) (by decide) ?_
                        refine ax_iadd (pc := 495) (ax_dd KL_law_10 19 rfl) ?_
                        obtain ⟨j144, b145, h⟩ := ob_bind h
                        refine ax_scl (pc := 496) (j := j144) (xs := xs) (ax_dd KL_law_10 20 rfl) hxs b145 ?_
                        obtain ⟨v146, μ148, b147, h⟩ := ob_bind2 h
                        refine ax_kV (pc := 497) (ci := 10) (k := 51) (As := [.int (xs j142), .int (xs j144)]) (rest := [.int v139]) (st1 := [.int v146, .int v139]) (μ1 := μ148) (ax_dd KL_law_10 21 rfl) (c_X10_told (fun _ _ h => h) b147) kV_L_53 e_X10_told rfl cl_X10 (by decide) rfl rfl (by decide) (by decide) (Nat.le_of_ble_eq_true rfl) rfl ?_
                        by_cases c149 : v139 = v146
                        · rw [if_pos c149] at h
                          refine ax_icmp_eq_t (pc := 500) (tgt := 1504) (ax_dd KL_law_10 22 rfl) (by decide) c149 ?_
                          refine ax_iinc (pc := 1504) (q := 3) (v := (x3 + 7)) (lv' := [(3, .int (x3 + 7)), (0, .ref G.2.2.2.2.2.1), (1, .ref (G.1 + 0)), (2, .ref (G.1 + 51))]) (ax_dd KL_law_44 6 rfl) rfl rfl (by decide) rfl ?_
                          refine ax_goto (pc := 1507) (tgt := 18) (ax_dd KL_law_44 7 rfl) (by decide) ?_
                          refine ax_sub (lv' := [(0, .ref G.2.2.2.2.2.1), (1, .ref (G.1 + 0)), (2, .ref (G.1 + 51)), (3, .int (x3 + 7))]) [1, 2, 3, 0] rfl ?_
                          exact ih _ _ _ h
                        · rw [if_neg c149] at h
                          refine ax_icmp_eq_f (pc := 500) (tgt := 1504) (ax_dd KL_law_10 22 rfl) (by decide) c149 ?_
                          refine ax_iconst (pc := 503) (v := 0) (ax_dd KL_law_10 23 rfl) (by decide) ?_
                          obtain rfl := Option.some.inj h
                          exact ax_ireti (pc := 504) (ax_dd KL_law_10 24 rfl) ⟨_, rfl, rfl⟩ rfl
                      · rw [if_neg c134] at h
                        by_cases c150 : ((xs j2) &&& 63) = 9
                        · rw [if_pos c150] at h
                          refine ax_tab (pc := 33) (off := 472) (tgt := 505) (ax_dd KL_law_0 21 rfl) (by rw [c150]; decide) (by rw [c150]; decide) (by rw [c150]; rfl) (by decide) ?_
                          refine ax_aload_n (pc := 505) (i := 1) (q := 1) (ax_dd KL_law_11 0 rfl) rfl rfl ?_
                          refine ax_aload_n (pc := 506) (i := 0) (q := 0) (ax_dd KL_law_11 1 rfl) rfl rfl ?_
                          refine ax_iload_n (pc := 507) (i := 3) (q := 3) (ax_dd KL_law_11 2 rfl) rfl rfl ?_
                          refine ax_iconst (pc := 508) (v := 1) (ax_dd KL_law_11 3 rfl) (by decide) ?_
                          refine ax_iadd (pc := 509) (ax_dd KL_law_11 4 rfl) ?_
                          obtain ⟨j151, b152, h⟩ := ob_bind h
                          refine ax_scl (pc := 510) (j := j151) (xs := xs) (ax_dd KL_law_11 5 rfl) hxs b152 ?_
                          refine ax_aload_n (pc := 511) (i := 0) (q := 0) (ax_dd KL_law_11 6 rfl) rfl rfl ?_
                          refine ax_iload_n (pc := 512) (i := 3) (q := 3) (ax_dd KL_law_11 7 rfl) rfl rfl ?_
                          refine ax_iconst (pc := 513) (v := 2) (ax_dd KL_law_11 8 rfl) (by decide) ?_
                          refine ax_iadd (pc := 514) (ax_dd KL_law_11 9 rfl) ?_
                          obtain ⟨j153, b154, h⟩ := ob_bind h
                          refine ax_scl (pc := 515) (j := j153) (xs := xs) (ax_dd KL_law_11 10 rfl) hxs b154 ?_
                          obtain ⟨v155, μ157, b156, h⟩ := ob_bind2 h
                          refine ax_kV (pc := 516) (ci := 9) (k := 0) (As := [.int (xs j151), .int (xs j153)]) (rest := []) (st1 := [.int v155]) (μ1 := μ157) (ax_dd KL_law_11 11 rfl) (c_X9_over shp_F b156) kV_L_54 e_X9_over rfl cl_X9 (by decide) rfl rfl (by decide) (by decide) (Nat.le_of_ble_eq_true rfl) rfl ?_
                          refine ax_aload_n (pc := 519) (i := 2) (q := 2) (ax_dd KL_law_11 12 rfl) rfl rfl ?_
                          refine ax_aload_n (pc := 520) (i := 0) (q := 0) (ax_dd KL_law_11 13 rfl) rfl rfl ?_
                          refine ax_iload_n (pc := 521) (i := 3) (q := 3) (ax_dd KL_law_11 14 rfl) rfl rfl ?_
                          refine ax_iconst (pc := 522) (v := 1) (ax_dd KL_law_11 15 rfl) (by decide) ?_
                          refine ax_iadd (pc := 523) (ax_dd KL_law_11 16 rfl) ?_
                          obtain ⟨j158, b159, h⟩ := ob_bind h
                          refine ax_scl (pc := 524) (j := j158) (xs := xs) (ax_dd KL_law_11 17 rfl) hxs b159 ?_
                          refine ax_aload_n (pc := 525) (i := 0) (q := 0) (ax_dd KL_law_11 18 rfl) rfl rfl ?_
                          refine ax_iload_n (pc := 526) (i := 3) (q := 3) (ax_dd KL_law_11 19 rfl) rfl rfl ?_
                          refine ax_iconst (pc := 527) (v := 2) (ax_dd KL_law_11 20 rfl) (by decide) ?_
                          refine ax_iadd (pc := 528) (ax_dd KL_law_11 21 rfl) ?_
                          obtain ⟨j160, b161, h⟩ := ob_bind h
                          refine ax_scl (pc := 529) (j := j160) (xs := xs) (ax_dd KL_law_11 22 rfl) hxs b161 ?_
                          obtain ⟨v162, μ164, b163, h⟩ := ob_bind2 h
                          refine ax_kV (pc := 530) (ci := 10) (k := 51) (As := [.int (xs j158), .int (xs j160)]) (rest := [.int v155]) (st1 := [.int v162, .int v155]) (μ1 := μ164) (ax_dd KL_law_11 23 rfl) (c_X10_over (fun _ _ h => h) b163) kV_L_57 e_X10_over rfl cl_X10 (by decide) rfl rfl (by decide) (by decide) (Nat.le_of_ble_eq_true rfl) rfl ?_
                          by_cases c165 : v155 = v162
                          · rw [if_pos c165] at h
                            refine ax_icmp_eq_t (pc := 533) (tgt := 1504) (ax_dd KL_law_11 24 rfl) (by decide) c165 ?_
                            refine ax_iinc (pc := 1504) (q := 3) (v := (x3 + 7)) (lv' := [(3, .int (x3 + 7)), (0, .ref G.2.2.2.2.2.1), (1, .ref (G.1 + 0)), (2, .ref (G.1 + 51))]) (ax_dd KL_law_44 6 rfl) rfl rfl (by decide) rfl ?_
                            refine ax_goto (pc := 1507) (tgt := 18) (ax_dd KL_law_44 7 rfl) (by decide) ?_
                            refine ax_sub (lv' := [(0, .ref G.2.2.2.2.2.1), (1, .ref (G.1 + 0)), (2, .ref (G.1 + 51)), (3, .int (x3 + 7))]) [1, 2, 3, 0] rfl ?_
                            exact ih _ _ _ h
                          · rw [if_neg c165] at h
                            refine ax_icmp_eq_f (pc := 533) (tgt := 1504) (ax_dd KL_law_11 24 rfl) (by decide) c165 ?_
                            refine ax_iconst (pc := 536) (v := 0) (ax_dd KL_law_12 0 rfl) (by decide) ?_
                            obtain rfl := Option.some.inj h
                            exact ax_ireti (pc := 537) (ax_dd KL_law_12 1 rfl) ⟨_, rfl, rfl⟩ rfl
                        · rw [if_neg c150] at h
                          by_cases c166 : ((xs j2) &&& 63) = 10
                          · rw [if_pos c166] at h
                            refine ax_tab (pc := 33) (off := 505) (tgt := 538) (ax_dd KL_law_0 21 rfl) (by rw [c166]; decide) (by rw [c166]; decide) (by rw [c166]; rfl) (by decide) ?_
                            refine ax_aload_n (pc := 538) (i := 1) (q := 1) (ax_dd KL_law_12 2 rfl) rfl rfl ?_
                            refine ax_aload_n (pc := 539) (i := 0) (q := 0) (ax_dd KL_law_12 3 rfl) rfl rfl ?_
                            refine ax_iload_n (pc := 540) (i := 3) (q := 3) (ax_dd KL_law_12 4 rfl) rfl rfl ?_
                            refine ax_iconst (pc := 541) (v := 1) (ax_dd KL_law_12 5 rfl) (by decide) ?_
                            refine ax_iadd (pc := 542) (ax_dd KL_law_12 6 rfl) ?_
                            obtain ⟨j167, b168, h⟩ := ob_bind h
                            refine ax_scl (pc := 543) (j := j167) (xs := xs) (ax_dd KL_law_12 7 rfl) hxs b168 ?_
                            obtain ⟨v169, μ171, b170, h⟩ := ob_bind2 h
                            refine ax_kV (pc := 544) (ci := 9) (k := 0) (As := [.int (xs j167)]) (rest := []) (st1 := [.long v169]) (μ1 := μ171) (ax_dd KL_law_12 8 rfl) (c_X9_rules shp_F b170) kV_L_58 e_X9_rules rfl cl_X9 (by decide) rfl rfl (by decide) (by decide) (Nat.le_of_ble_eq_true rfl) rfl ?_
                            refine ax_aload_n (pc := 547) (i := 2) (q := 2) (ax_dd KL_law_12 9 rfl) rfl rfl ?_
                            refine ax_aload_n (pc := 548) (i := 0) (q := 0) (ax_dd KL_law_12 10 rfl) rfl rfl ?_
                            refine ax_iload_n (pc := 549) (i := 3) (q := 3) (ax_dd KL_law_12 11 rfl) rfl rfl ?_
                            refine ax_iconst (pc := 550) (v := 1) (ax_dd KL_law_12 12 rfl) (by decide) ?_
                            refine ax_iadd (pc := 551) (ax_dd KL_law_12 13 rfl) ?_
                            obtain ⟨j172, b173, h⟩ := ob_bind h
                            refine ax_scl (pc := 552) (j := j172) (xs := xs) (ax_dd KL_law_12 14 rfl) hxs b173 ?_
                            obtain ⟨v174, μ176, b175, h⟩ := ob_bind2 h
                            refine ax_kV (pc := 553) (ci := 10) (k := 51) (As := [.int (xs j172)]) (rest := [.long v169]) (st1 := [.long v174, .long v169]) (μ1 := μ176) (ax_dd KL_law_12 15 rfl) (c_X10_rules (fun _ _ h => h) b175) kV_L_62 e_X10_rules rfl cl_X10 (by decide) rfl rfl (by decide) (by decide) (Nat.le_of_ble_eq_true rfl) rfl ?_
                            refine ax_lcmp (pc := 556) (ax_dd KL_law_12 16 rfl) ?_
                            by_cases c177 : (lg_cmp v169 v174) = 0
                            · rw [if_pos c177] at h
                              refine ax_if_eq_t (pc := 557) (tgt := 1504) (ax_dd KL_law_12 17 rfl) (by decide) c177 ?_
                              refine ax_iinc (pc := 1504) (q := 3) (v := (x3 + 7)) (lv' := [(3, .int (x3 + 7)), (0, .ref G.2.2.2.2.2.1), (1, .ref (G.1 + 0)), (2, .ref (G.1 + 51))]) (ax_dd KL_law_44 6 rfl) rfl rfl (by decide) rfl ?_
                              refine ax_goto (pc := 1507) (tgt := 18) (ax_dd KL_law_44 7 rfl) (by decide) ?_
                              refine ax_sub (lv' := [(0, .ref G.2.2.2.2.2.1), (1, .ref (G.1 + 0)), (2, .ref (G.1 + 51)), (3, .int (x3 + 7))]) [1, 2, 3, 0] rfl ?_
                              exact ih _ _ _ h
                            · rw [if_neg c177] at h
                              refine ax_if_eq_f (pc := 557) (tgt := 1504) (ax_dd KL_law_12 17 rfl) (by decide) c177 ?_
                              refine ax_iconst (pc := 560) (v := 0) (ax_dd KL_law_12 18 rfl) (by decide) ?_
                              obtain rfl := Option.some.inj h
                              exact ax_ireti (pc := 561) (ax_dd KL_law_12 19 rfl) ⟨_, rfl, rfl⟩ rfl
                          · rw [if_neg c166] at h
                            by_cases c178 : ((xs j2) &&& 63) = 11
                            · rw [if_pos c178] at h
                              refine ax_tab (pc := 33) (off := 529) (tgt := 562) (ax_dd KL_law_0 21 rfl) (by rw [c178]; decide) (by rw [c178]; decide) (by rw [c178]; rfl) (by decide) ?_
                              refine ax_aload_n (pc := 562) (i := 1) (q := 1) (ax_dd KL_law_12 20 rfl) rfl rfl ?_
                              refine ax_aload_n (pc := 563) (i := 0) (q := 0) (ax_dd KL_law_12 21 rfl) rfl rfl ?_
                              refine ax_iload_n (pc := 564) (i := 3) (q := 3) (ax_dd KL_law_12 22 rfl) rfl rfl ?_
                              refine ax_iconst (pc := 565) (v := 1) (ax_dd KL_law_12 23 rfl) (by decide) ?_
                              refine ax_iadd (pc := 566) (ax_dd KL_law_12 24 rfl) ?_
                              obtain ⟨j179, b180, h⟩ := ob_bind h
                              refine ax_scl (pc := 567) (j := j179) (xs := xs) (ax_dd KL_law_13 0 rfl) hxs b180 ?_
                              refine ax_aload_n (pc := 568) (i := 0) (q := 0) (ax_dd KL_law_13 1 rfl) rfl rfl ?_
                              refine ax_iload_n (pc := 569) (i := 3) (q := 3) (ax_dd KL_law_13 2 rfl) rfl rfl ?_
                              refine ax_iconst (pc := 570) (v := 2) (ax_dd KL_law_13 3 rfl) (by decide) ?_
                              refine ax_iadd (pc := 571) (ax_dd KL_law_13 4 rfl) ?_
                              obtain ⟨j181, b182, h⟩ := ob_bind h
                              refine ax_scl (pc := 572) (j := j181) (xs := xs) (ax_dd KL_law_13 5 rfl) hxs b182 ?_
                              obtain ⟨v183, μ185, b184, h⟩ := ob_bind2 h
                              refine ax_kV (pc := 573) (ci := 9) (k := 0) (As := [.int (xs j179), .int (xs j181)]) (rest := []) (st1 := [.int v183]) (μ1 := μ185) (ax_dd KL_law_13 6 rfl) (c_X9_walk shp_F b184) kV_L_63 e_X9_walk rfl cl_X9 (by decide) rfl rfl (by decide) (by decide) (Nat.le_of_ble_eq_true rfl) rfl ?_
                              refine ax_aload_n (pc := 576) (i := 2) (q := 2) (ax_dd KL_law_13 7 rfl) rfl rfl ?_
                              refine ax_aload_n (pc := 577) (i := 0) (q := 0) (ax_dd KL_law_13 8 rfl) rfl rfl ?_
                              refine ax_iload_n (pc := 578) (i := 3) (q := 3) (ax_dd KL_law_13 9 rfl) rfl rfl ?_
                              refine ax_iconst (pc := 579) (v := 1) (ax_dd KL_law_13 10 rfl) (by decide) ?_
                              refine ax_iadd (pc := 580) (ax_dd KL_law_13 11 rfl) ?_
                              obtain ⟨j186, b187, h⟩ := ob_bind h
                              refine ax_scl (pc := 581) (j := j186) (xs := xs) (ax_dd KL_law_13 12 rfl) hxs b187 ?_
                              refine ax_aload_n (pc := 582) (i := 0) (q := 0) (ax_dd KL_law_13 13 rfl) rfl rfl ?_
                              refine ax_iload_n (pc := 583) (i := 3) (q := 3) (ax_dd KL_law_13 14 rfl) rfl rfl ?_
                              refine ax_iconst (pc := 584) (v := 2) (ax_dd KL_law_13 15 rfl) (by decide) ?_
                              refine ax_iadd (pc := 585) (ax_dd KL_law_13 16 rfl) ?_
                              obtain ⟨j188, b189, h⟩ := ob_bind h
                              refine ax_scl (pc := 586) (j := j188) (xs := xs) (ax_dd KL_law_13 17 rfl) hxs b189 ?_
                              obtain ⟨v190, μ192, b191, h⟩ := ob_bind2 h
                              refine ax_kV (pc := 587) (ci := 10) (k := 51) (As := [.int (xs j186), .int (xs j188)]) (rest := [.int v183]) (st1 := [.int v190, .int v183]) (μ1 := μ192) (ax_dd KL_law_13 18 rfl) (c_X10_walk (fun _ _ h => h) b191) kV_L_66 e_X10_walk rfl cl_X10 (by decide) rfl rfl (by decide) (by decide) (Nat.le_of_ble_eq_true rfl) rfl ?_
                              by_cases c193 : v183 = v190
                              · rw [if_pos c193] at h
                                refine ax_icmp_eq_t (pc := 590) (tgt := 1504) (ax_dd KL_law_13 19 rfl) (by decide) c193 ?_
                                refine ax_iinc (pc := 1504) (q := 3) (v := (x3 + 7)) (lv' := [(3, .int (x3 + 7)), (0, .ref G.2.2.2.2.2.1), (1, .ref (G.1 + 0)), (2, .ref (G.1 + 51))]) (ax_dd KL_law_44 6 rfl) rfl rfl (by decide) rfl ?_
                                refine ax_goto (pc := 1507) (tgt := 18) (ax_dd KL_law_44 7 rfl) (by decide) ?_
                                refine ax_sub (lv' := [(0, .ref G.2.2.2.2.2.1), (1, .ref (G.1 + 0)), (2, .ref (G.1 + 51)), (3, .int (x3 + 7))]) [1, 2, 3, 0] rfl ?_
                                exact ih _ _ _ h
                              · rw [if_neg c193] at h
                                refine ax_icmp_eq_f (pc := 590) (tgt := 1504) (ax_dd KL_law_13 19 rfl) (by decide) c193 ?_
                                refine ax_iconst (pc := 593) (v := 0) (ax_dd KL_law_13 20 rfl) (by decide) ?_
                                obtain rfl := Option.some.inj h
                                exact ax_ireti (pc := 594) (ax_dd KL_law_13 21 rfl) ⟨_, rfl, rfl⟩ rfl
                            · rw [if_neg c178] at h
                              by_cases c194 : ((xs j2) &&& 63) = 12
                              · rw [if_pos c194] at h
                                refine ax_tab (pc := 33) (off := 562) (tgt := 595) (ax_dd KL_law_0 21 rfl) (by rw [c194]; decide) (by rw [c194]; decide) (by rw [c194]; rfl) (by decide) ?_
                                refine ax_aload_n (pc := 595) (i := 1) (q := 1) (ax_dd KL_law_13 22 rfl) rfl rfl ?_
                                refine ax_aload_n (pc := 596) (i := 0) (q := 0) (ax_dd KL_law_13 23 rfl) rfl rfl ?_
                                refine ax_iload_n (pc := 597) (i := 3) (q := 3) (ax_dd KL_law_13 24 rfl) rfl rfl ?_
                                refine ax_iconst (pc := 598) (v := 1) (ax_dd KL_law_14 0 rfl) (by decide) ?_
                                refine ax_iadd (pc := 599) (ax_dd KL_law_14 1 rfl) ?_
                                obtain ⟨j195, b196, h⟩ := ob_bind h
                                refine ax_scl (pc := 600) (j := j195) (xs := xs) (ax_dd KL_law_14 2 rfl) hxs b196 ?_
                                obtain ⟨v197, μ199, b198, h⟩ := ob_bind2 h
                                refine ax_kV (pc := 601) (ci := 9) (k := 0) (As := [.int (xs j195)]) (rest := []) (st1 := [.int v197]) (μ1 := μ199) (ax_dd KL_law_14 3 rfl) (c_X9_visit shp_F b198) kV_L_67 e_X9_visit rfl cl_X9 (by decide) rfl rfl (by decide) (by decide) (Nat.le_of_ble_eq_true rfl) rfl ?_
                                refine ax_aload_n (pc := 604) (i := 2) (q := 2) (ax_dd KL_law_14 4 rfl) rfl rfl ?_
                                refine ax_aload_n (pc := 605) (i := 0) (q := 0) (ax_dd KL_law_14 5 rfl) rfl rfl ?_
                                refine ax_iload_n (pc := 606) (i := 3) (q := 3) (ax_dd KL_law_14 6 rfl) rfl rfl ?_
                                refine ax_iconst (pc := 607) (v := 1) (ax_dd KL_law_14 7 rfl) (by decide) ?_
                                refine ax_iadd (pc := 608) (ax_dd KL_law_14 8 rfl) ?_
                                obtain ⟨j200, b201, h⟩ := ob_bind h
                                refine ax_scl (pc := 609) (j := j200) (xs := xs) (ax_dd KL_law_14 9 rfl) hxs b201 ?_
                                obtain ⟨v202, μ204, b203, h⟩ := ob_bind2 h
                                refine ax_kV (pc := 610) (ci := 10) (k := 51) (As := [.int (xs j200)]) (rest := [.int v197]) (st1 := [.int v202, .int v197]) (μ1 := μ204) (ax_dd KL_law_14 10 rfl) (c_X10_visit (fun _ _ h => h) b203) kV_L_70 e_X10_visit rfl cl_X10 (by decide) rfl rfl (by decide) (by decide) (Nat.le_of_ble_eq_true rfl) rfl ?_
                                by_cases c205 : v197 = v202
                                · rw [if_pos c205] at h
                                  refine ax_icmp_eq_t (pc := 613) (tgt := 1504) (ax_dd KL_law_14 11 rfl) (by decide) c205 ?_
                                  refine ax_iinc (pc := 1504) (q := 3) (v := (x3 + 7)) (lv' := [(3, .int (x3 + 7)), (0, .ref G.2.2.2.2.2.1), (1, .ref (G.1 + 0)), (2, .ref (G.1 + 51))]) (ax_dd KL_law_44 6 rfl) rfl rfl (by decide) rfl ?_
                                  refine ax_goto (pc := 1507) (tgt := 18) (ax_dd KL_law_44 7 rfl) (by decide) ?_
                                  refine ax_sub (lv' := [(0, .ref G.2.2.2.2.2.1), (1, .ref (G.1 + 0)), (2, .ref (G.1 + 51)), (3, .int (x3 + 7))]) [1, 2, 3, 0] rfl ?_
                                  exact ih _ _ _ h
                                · rw [if_neg c205] at h
                                  refine ax_icmp_eq_f (pc := 613) (tgt := 1504) (ax_dd KL_law_14 11 rfl) (by decide) c205 ?_
                                  refine ax_iconst (pc := 616) (v := 0) (ax_dd KL_law_14 12 rfl) (by decide) ?_
                                  obtain rfl := Option.some.inj h
                                  exact ax_ireti (pc := 617) (ax_dd KL_law_14 13 rfl) ⟨_, rfl, rfl⟩ rfl
                              · rw [if_neg c194] at h
                                by_cases c206 : ((xs j2) &&& 63) = 13
                                · rw [if_pos c206] at h
                                  refine ax_tab (pc := 33) (off := 585) (tgt := 618) (ax_dd KL_law_0 21 rfl) (by rw [c206]; decide) (by rw [c206]; decide) (by rw [c206]; rfl) (by decide) ?_
                                  refine ax_aload_n (pc := 618) (i := 1) (q := 1) (ax_dd KL_law_14 14 rfl) rfl rfl ?_
                                  refine ax_aload_n (pc := 619) (i := 0) (q := 0) (ax_dd KL_law_14 15 rfl) rfl rfl ?_
                                  refine ax_iload_n (pc := 620) (i := 3) (q := 3) (ax_dd KL_law_14 16 rfl) rfl rfl ?_
                                  refine ax_iconst (pc := 621) (v := 1) (ax_dd KL_law_14 17 rfl) (by decide) ?_
                                  refine ax_iadd (pc := 622) (ax_dd KL_law_14 18 rfl) ?_
                                  obtain ⟨j207, b208, h⟩ := ob_bind h
                                  refine ax_scl (pc := 623) (j := j207) (xs := xs) (ax_dd KL_law_14 19 rfl) hxs b208 ?_
                                  refine ax_aload_n (pc := 624) (i := 0) (q := 0) (ax_dd KL_law_14 20 rfl) rfl rfl ?_
                                  refine ax_iload_n (pc := 625) (i := 3) (q := 3) (ax_dd KL_law_14 21 rfl) rfl rfl ?_
                                  refine ax_iconst (pc := 626) (v := 2) (ax_dd KL_law_14 22 rfl) (by decide) ?_
                                  refine ax_iadd (pc := 627) (ax_dd KL_law_14 23 rfl) ?_
                                  obtain ⟨j209, b210, h⟩ := ob_bind h
                                  refine ax_scl (pc := 628) (j := j209) (xs := xs) (ax_dd KL_law_14 24 rfl) hxs b210 ?_
                                  refine ax_aload_n (pc := 629) (i := 0) (q := 0) (ax_dd KL_law_15 0 rfl) rfl rfl ?_
                                  refine ax_iload_n (pc := 630) (i := 3) (q := 3) (ax_dd KL_law_15 1 rfl) rfl rfl ?_
                                  refine ax_iconst (pc := 631) (v := 3) (ax_dd KL_law_15 2 rfl) (by decide) ?_
                                  refine ax_iadd (pc := 632) (ax_dd KL_law_15 3 rfl) ?_
                                  obtain ⟨j211, b212, h⟩ := ob_bind h
                                  refine ax_scl (pc := 633) (j := j211) (xs := xs) (ax_dd KL_law_15 4 rfl) hxs b212 ?_
                                  obtain ⟨v213, μ215, b214, h⟩ := ob_bind2 h
                                  refine ax_kV (pc := 634) (ci := 9) (k := 0) (As := [.int (xs j207), .int (xs j209), .int (xs j211)]) (rest := []) (st1 := [.int v213]) (μ1 := μ215) (ax_dd KL_law_15 5 rfl) (c_X9_ball shp_F b214) kV_L_71 e_X9_ball rfl cl_X9 (by decide) rfl rfl (by decide) (by decide) (Nat.le_of_ble_eq_true rfl) rfl ?_
                                  refine ax_aload_n (pc := 637) (i := 2) (q := 2) (ax_dd KL_law_15 6 rfl) rfl rfl ?_
                                  refine ax_aload_n (pc := 638) (i := 0) (q := 0) (ax_dd KL_law_15 7 rfl) rfl rfl ?_
                                  refine ax_iload_n (pc := 639) (i := 3) (q := 3) (ax_dd KL_law_15 8 rfl) rfl rfl ?_
                                  refine ax_iconst (pc := 640) (v := 1) (ax_dd KL_law_15 9 rfl) (by decide) ?_
                                  refine ax_iadd (pc := 641) (ax_dd KL_law_15 10 rfl) ?_
                                  obtain ⟨j216, b217, h⟩ := ob_bind h
                                  refine ax_scl (pc := 642) (j := j216) (xs := xs) (ax_dd KL_law_15 11 rfl) hxs b217 ?_
                                  refine ax_aload_n (pc := 643) (i := 0) (q := 0) (ax_dd KL_law_15 12 rfl) rfl rfl ?_
                                  refine ax_iload_n (pc := 644) (i := 3) (q := 3) (ax_dd KL_law_15 13 rfl) rfl rfl ?_
                                  refine ax_iconst (pc := 645) (v := 2) (ax_dd KL_law_15 14 rfl) (by decide) ?_
                                  refine ax_iadd (pc := 646) (ax_dd KL_law_15 15 rfl) ?_
                                  obtain ⟨j218, b219, h⟩ := ob_bind h
                                  refine ax_scl (pc := 647) (j := j218) (xs := xs) (ax_dd KL_law_15 16 rfl) hxs b219 ?_
                                  refine ax_aload_n (pc := 648) (i := 0) (q := 0) (ax_dd KL_law_15 17 rfl) rfl rfl ?_
                                  refine ax_iload_n (pc := 649) (i := 3) (q := 3) (ax_dd KL_law_15 18 rfl) rfl rfl ?_
                                  refine ax_iconst (pc := 650) (v := 3) (ax_dd KL_law_15 19 rfl) (by decide) ?_
                                  refine ax_iadd (pc := 651) (ax_dd KL_law_15 20 rfl) ?_
                                  obtain ⟨j220, b221, h⟩ := ob_bind h
                                  refine ax_scl (pc := 652) (j := j220) (xs := xs) (ax_dd KL_law_15 21 rfl) hxs b221 ?_
                                  obtain ⟨v222, μ224, b223, h⟩ := ob_bind2 h
                                  refine ax_kV (pc := 653) (ci := 10) (k := 51) (As := [.int (xs j216), .int (xs j218), .int (xs j220)]) (rest := [.int v213]) (st1 := [.int v222, .int v213]) (μ1 := μ224) (ax_dd KL_law_15 22 rfl) (c_X10_ball (fun _ _ h => h) b223) kV_L_74 e_X10_ball rfl cl_X10 (by decide) rfl rfl (by decide) (by decide) (Nat.le_of_ble_eq_true rfl) rfl ?_
                                  by_cases c225 : v213 = v222
                                  · rw [if_pos c225] at h
                                    refine ax_icmp_eq_t (pc := 656) (tgt := 1504) (ax_dd KL_law_15 23 rfl) (by decide) c225 ?_
                                    refine ax_iinc (pc := 1504) (q := 3) (v := (x3 + 7)) (lv' := [(3, .int (x3 + 7)), (0, .ref G.2.2.2.2.2.1), (1, .ref (G.1 + 0)), (2, .ref (G.1 + 51))]) (ax_dd KL_law_44 6 rfl) rfl rfl (by decide) rfl ?_
                                    refine ax_goto (pc := 1507) (tgt := 18) (ax_dd KL_law_44 7 rfl) (by decide) ?_
                                    refine ax_sub (lv' := [(0, .ref G.2.2.2.2.2.1), (1, .ref (G.1 + 0)), (2, .ref (G.1 + 51)), (3, .int (x3 + 7))]) [1, 2, 3, 0] rfl ?_
                                    exact ih _ _ _ h
                                  · rw [if_neg c225] at h
                                    refine ax_icmp_eq_f (pc := 656) (tgt := 1504) (ax_dd KL_law_15 23 rfl) (by decide) c225 ?_
                                    refine ax_iconst (pc := 659) (v := 0) (ax_dd KL_law_15 24 rfl) (by decide) ?_
                                    obtain rfl := Option.some.inj h
                                    exact ax_ireti (pc := 660) (ax_dd KL_law_16 0 rfl) ⟨_, rfl, rfl⟩ rfl
                                · rw [if_neg c206] at h
                                  by_cases c226 : ((xs j2) &&& 63) = 14
                                  · rw [if_pos c226] at h
                                    refine ax_tab (pc := 33) (off := 628) (tgt := 661) (ax_dd KL_law_0 21 rfl) (by rw [c226]; decide) (by rw [c226]; decide) (by rw [c226]; rfl) (by decide) ?_
                                    refine ax_aload_n (pc := 661) (i := 1) (q := 1) (ax_dd KL_law_16 1 rfl) rfl rfl ?_
                                    refine ax_aload_n (pc := 662) (i := 0) (q := 0) (ax_dd KL_law_16 2 rfl) rfl rfl ?_
                                    refine ax_iload_n (pc := 663) (i := 3) (q := 3) (ax_dd KL_law_16 3 rfl) rfl rfl ?_
                                    refine ax_iconst (pc := 664) (v := 1) (ax_dd KL_law_16 4 rfl) (by decide) ?_
                                    refine ax_iadd (pc := 665) (ax_dd KL_law_16 5 rfl) ?_
                                    obtain ⟨j227, b228, h⟩ := ob_bind h
                                    refine ax_scl (pc := 666) (j := j227) (xs := xs) (ax_dd KL_law_16 6 rfl) hxs b228 ?_
                                    refine ax_aload_n (pc := 667) (i := 0) (q := 0) (ax_dd KL_law_16 7 rfl) rfl rfl ?_
                                    refine ax_iload_n (pc := 668) (i := 3) (q := 3) (ax_dd KL_law_16 8 rfl) rfl rfl ?_
                                    refine ax_iconst (pc := 669) (v := 2) (ax_dd KL_law_16 9 rfl) (by decide) ?_
                                    refine ax_iadd (pc := 670) (ax_dd KL_law_16 10 rfl) ?_
                                    obtain ⟨j229, b230, h⟩ := ob_bind h
                                    refine ax_scl (pc := 671) (j := j229) (xs := xs) (ax_dd KL_law_16 11 rfl) hxs b230 ?_
                                    obtain ⟨v231, μ233, b232, h⟩ := ob_bind2 h
                                    refine ax_kV (pc := 672) (ci := 9) (k := 0) (As := [.int (xs j227), .int (xs j229)]) (rest := []) (st1 := [.int v231]) (μ1 := μ233) (ax_dd KL_law_16 12 rfl) (c_X9_way shp_F b232) kV_L_75 e_X9_way rfl cl_X9 (by decide) rfl rfl (by decide) (by decide) (Nat.le_of_ble_eq_true rfl) rfl ?_
                                    refine ax_aload_n (pc := 675) (i := 2) (q := 2) (ax_dd KL_law_16 13 rfl) rfl rfl ?_
                                    refine ax_aload_n (pc := 676) (i := 0) (q := 0) (ax_dd KL_law_16 14 rfl) rfl rfl ?_
                                    refine ax_iload_n (pc := 677) (i := 3) (q := 3) (ax_dd KL_law_16 15 rfl) rfl rfl ?_
                                    refine ax_iconst (pc := 678) (v := 1) (ax_dd KL_law_16 16 rfl) (by decide) ?_
                                    refine ax_iadd (pc := 679) (ax_dd KL_law_16 17 rfl) ?_
                                    obtain ⟨j234, b235, h⟩ := ob_bind h
                                    refine ax_scl (pc := 680) (j := j234) (xs := xs) (ax_dd KL_law_16 18 rfl) hxs b235 ?_
                                    refine ax_aload_n (pc := 681) (i := 0) (q := 0) (ax_dd KL_law_16 19 rfl) rfl rfl ?_
                                    refine ax_iload_n (pc := 682) (i := 3) (q := 3) (ax_dd KL_law_16 20 rfl) rfl rfl ?_
                                    refine ax_iconst (pc := 683) (v := 2) (ax_dd KL_law_16 21 rfl) (by decide) ?_
                                    refine ax_iadd (pc := 684) (ax_dd KL_law_16 22 rfl) ?_
                                    obtain ⟨j236, b237, h⟩ := ob_bind h
                                    refine ax_scl (pc := 685) (j := j236) (xs := xs) (ax_dd KL_law_16 23 rfl) hxs b237 ?_
                                    obtain ⟨v238, μ240, b239, h⟩ := ob_bind2 h
                                    refine ax_kV (pc := 686) (ci := 10) (k := 51) (As := [.int (xs j234), .int (xs j236)]) (rest := [.int v231]) (st1 := [.int v238, .int v231]) (μ1 := μ240) (ax_dd KL_law_16 24 rfl) (c_X10_way (fun _ _ h => h) b239) kV_L_78 e_X10_way rfl cl_X10 (by decide) rfl rfl (by decide) (by decide) (Nat.le_of_ble_eq_true rfl) rfl ?_
                                    by_cases c241 : v231 = v238
                                    · rw [if_pos c241] at h
                                      refine ax_icmp_eq_t (pc := 689) (tgt := 1504) (ax_dd KL_law_17 0 rfl) (by decide) c241 ?_
                                      refine ax_iinc (pc := 1504) (q := 3) (v := (x3 + 7)) (lv' := [(3, .int (x3 + 7)), (0, .ref G.2.2.2.2.2.1), (1, .ref (G.1 + 0)), (2, .ref (G.1 + 51))]) (ax_dd KL_law_44 6 rfl) rfl rfl (by decide) rfl ?_
                                      refine ax_goto (pc := 1507) (tgt := 18) (ax_dd KL_law_44 7 rfl) (by decide) ?_
                                      refine ax_sub (lv' := [(0, .ref G.2.2.2.2.2.1), (1, .ref (G.1 + 0)), (2, .ref (G.1 + 51)), (3, .int (x3 + 7))]) [1, 2, 3, 0] rfl ?_
                                      exact ih _ _ _ h
                                    · rw [if_neg c241] at h
                                      refine ax_icmp_eq_f (pc := 689) (tgt := 1504) (ax_dd KL_law_17 0 rfl) (by decide) c241 ?_
                                      refine ax_iconst (pc := 692) (v := 0) (ax_dd KL_law_17 1 rfl) (by decide) ?_
                                      obtain rfl := Option.some.inj h
                                      exact ax_ireti (pc := 693) (ax_dd KL_law_17 2 rfl) ⟨_, rfl, rfl⟩ rfl
                                  · rw [if_neg c226] at h
                                    by_cases c242 : ((xs j2) &&& 63) = 15
                                    · rw [if_pos c242] at h
                                      refine ax_tab (pc := 33) (off := 661) (tgt := 694) (ax_dd KL_law_0 21 rfl) (by rw [c242]; decide) (by rw [c242]; decide) (by rw [c242]; rfl) (by decide) ?_
                                      refine ax_aload_n (pc := 694) (i := 1) (q := 1) (ax_dd KL_law_17 3 rfl) rfl rfl ?_
                                      refine ax_aload_n (pc := 695) (i := 0) (q := 0) (ax_dd KL_law_17 4 rfl) rfl rfl ?_
                                      refine ax_iload_n (pc := 696) (i := 3) (q := 3) (ax_dd KL_law_17 5 rfl) rfl rfl ?_
                                      refine ax_iconst (pc := 697) (v := 1) (ax_dd KL_law_17 6 rfl) (by decide) ?_
                                      refine ax_iadd (pc := 698) (ax_dd KL_law_17 7 rfl) ?_
                                      obtain ⟨j243, b244, h⟩ := ob_bind h
                                      refine ax_scl (pc := 699) (j := j243) (xs := xs) (ax_dd KL_law_17 8 rfl) hxs b244 ?_
                                      obtain ⟨v245, μ247, b246, h⟩ := ob_bind2 h
                                      refine ax_kV (pc := 700) (ci := 9) (k := 0) (As := [.int (xs j243)]) (rest := []) (st1 := [.int v245]) (μ1 := μ247) (ax_dd KL_law_17 9 rfl) (c_X9_borders shp_F b246) kV_L_79 e_X9_borders rfl cl_X9 (by decide) rfl rfl (by decide) (by decide) (Nat.le_of_ble_eq_true rfl) rfl ?_
                                      refine ax_aload_n (pc := 703) (i := 2) (q := 2) (ax_dd KL_law_17 10 rfl) rfl rfl ?_
                                      refine ax_aload_n (pc := 704) (i := 0) (q := 0) (ax_dd KL_law_17 11 rfl) rfl rfl ?_
                                      refine ax_iload_n (pc := 705) (i := 3) (q := 3) (ax_dd KL_law_17 12 rfl) rfl rfl ?_
                                      refine ax_iconst (pc := 706) (v := 1) (ax_dd KL_law_17 13 rfl) (by decide) ?_
                                      refine ax_iadd (pc := 707) (ax_dd KL_law_17 14 rfl) ?_
                                      obtain ⟨j248, b249, h⟩ := ob_bind h
                                      refine ax_scl (pc := 708) (j := j248) (xs := xs) (ax_dd KL_law_17 15 rfl) hxs b249 ?_
                                      obtain ⟨v250, μ252, b251, h⟩ := ob_bind2 h
                                      refine ax_kV (pc := 709) (ci := 10) (k := 51) (As := [.int (xs j248)]) (rest := [.int v245]) (st1 := [.int v250, .int v245]) (μ1 := μ252) (ax_dd KL_law_17 16 rfl) (c_X10_borders (fun _ _ h => h) b251) kV_L_82 e_X10_borders rfl cl_X10 (by decide) rfl rfl (by decide) (by decide) (Nat.le_of_ble_eq_true rfl) rfl ?_
                                      by_cases c253 : v245 = v250
                                      · rw [if_pos c253] at h
                                        refine ax_icmp_eq_t (pc := 712) (tgt := 1504) (ax_dd KL_law_17 17 rfl) (by decide) c253 ?_
                                        refine ax_iinc (pc := 1504) (q := 3) (v := (x3 + 7)) (lv' := [(3, .int (x3 + 7)), (0, .ref G.2.2.2.2.2.1), (1, .ref (G.1 + 0)), (2, .ref (G.1 + 51))]) (ax_dd KL_law_44 6 rfl) rfl rfl (by decide) rfl ?_
                                        refine ax_goto (pc := 1507) (tgt := 18) (ax_dd KL_law_44 7 rfl) (by decide) ?_
                                        refine ax_sub (lv' := [(0, .ref G.2.2.2.2.2.1), (1, .ref (G.1 + 0)), (2, .ref (G.1 + 51)), (3, .int (x3 + 7))]) [1, 2, 3, 0] rfl ?_
                                        exact ih _ _ _ h
                                      · rw [if_neg c253] at h
                                        refine ax_icmp_eq_f (pc := 712) (tgt := 1504) (ax_dd KL_law_17 17 rfl) (by decide) c253 ?_
                                        refine ax_iconst (pc := 715) (v := 0) (ax_dd KL_law_17 18 rfl) (by decide) ?_
                                        obtain rfl := Option.some.inj h
                                        exact ax_ireti (pc := 716) (ax_dd KL_law_17 19 rfl) ⟨_, rfl, rfl⟩ rfl
                                    · rw [if_neg c242] at h
                                      by_cases c254 : ((xs j2) &&& 63) = 16
                                      · rw [if_pos c254] at h
                                        refine ax_tab (pc := 33) (off := 684) (tgt := 717) (ax_dd KL_law_0 21 rfl) (by rw [c254]; decide) (by rw [c254]; decide) (by rw [c254]; rfl) (by decide) ?_
                                        refine ax_aload_n (pc := 717) (i := 1) (q := 1) (ax_dd KL_law_17 20 rfl) rfl rfl ?_
                                        refine ax_aload_n (pc := 718) (i := 0) (q := 0) (ax_dd KL_law_17 21 rfl) rfl rfl ?_
                                        refine ax_iload_n (pc := 719) (i := 3) (q := 3) (ax_dd KL_law_17 22 rfl) rfl rfl ?_
                                        refine ax_iconst (pc := 720) (v := 1) (ax_dd KL_law_17 23 rfl) (by decide) ?_
                                        refine ax_iadd (pc := 721) (ax_dd KL_law_17 24 rfl) ?_
                                        obtain ⟨j255, b256, h⟩ := ob_bind h
                                        refine ax_scl (pc := 722) (j := j255) (xs := xs) (ax_dd KL_law_18 0 rfl) hxs b256 ?_
                                        refine ax_aload_n (pc := 723) (i := 0) (q := 0) (ax_dd KL_law_18 1 rfl) rfl rfl ?_
                                        refine ax_iload_n (pc := 724) (i := 3) (q := 3) (ax_dd KL_law_18 2 rfl) rfl rfl ?_
                                        refine ax_iconst (pc := 725) (v := 2) (ax_dd KL_law_18 3 rfl) (by decide) ?_
                                        refine ax_iadd (pc := 726) (ax_dd KL_law_18 4 rfl) ?_
                                        obtain ⟨j257, b258, h⟩ := ob_bind h
                                        refine ax_scl (pc := 727) (j := j257) (xs := xs) (ax_dd KL_law_18 5 rfl) hxs b258 ?_
                                        obtain ⟨v259, μ261, b260, h⟩ := ob_bind2 h
                                        refine ax_kV (pc := 728) (ci := 9) (k := 0) (As := [.int (xs j255), .int (xs j257)]) (rest := []) (st1 := [.int v259]) (μ1 := μ261) (ax_dd KL_law_18 6 rfl) (c_X9_league shp_F b260) kV_L_83 e_X9_league rfl cl_X9 (by decide) rfl rfl (by decide) (by decide) (Nat.le_of_ble_eq_true rfl) rfl ?_
                                        refine ax_aload_n (pc := 731) (i := 2) (q := 2) (ax_dd KL_law_18 7 rfl) rfl rfl ?_
                                        refine ax_aload_n (pc := 732) (i := 0) (q := 0) (ax_dd KL_law_18 8 rfl) rfl rfl ?_
                                        refine ax_iload_n (pc := 733) (i := 3) (q := 3) (ax_dd KL_law_18 9 rfl) rfl rfl ?_
                                        refine ax_iconst (pc := 734) (v := 1) (ax_dd KL_law_18 10 rfl) (by decide) ?_
                                        refine ax_iadd (pc := 735) (ax_dd KL_law_18 11 rfl) ?_
                                        obtain ⟨j262, b263, h⟩ := ob_bind h
                                        refine ax_scl (pc := 736) (j := j262) (xs := xs) (ax_dd KL_law_18 12 rfl) hxs b263 ?_
                                        refine ax_aload_n (pc := 737) (i := 0) (q := 0) (ax_dd KL_law_18 13 rfl) rfl rfl ?_
                                        refine ax_iload_n (pc := 738) (i := 3) (q := 3) (ax_dd KL_law_18 14 rfl) rfl rfl ?_
                                        refine ax_iconst (pc := 739) (v := 2) (ax_dd KL_law_18 15 rfl) (by decide) ?_
                                        refine ax_iadd (pc := 740) (ax_dd KL_law_18 16 rfl) ?_
                                        obtain ⟨j264, b265, h⟩ := ob_bind h
                                        refine ax_scl (pc := 741) (j := j264) (xs := xs) (ax_dd KL_law_18 17 rfl) hxs b265 ?_
                                        obtain ⟨v266, μ268, b267, h⟩ := ob_bind2 h
                                        refine ax_kV (pc := 742) (ci := 10) (k := 51) (As := [.int (xs j262), .int (xs j264)]) (rest := [.int v259]) (st1 := [.int v266, .int v259]) (μ1 := μ268) (ax_dd KL_law_18 18 rfl) (c_X10_league (fun _ _ h => h) b267) kV_L_86 e_X10_league rfl cl_X10 (by decide) rfl rfl (by decide) (by decide) (Nat.le_of_ble_eq_true rfl) rfl ?_
                                        by_cases c269 : v259 = v266
                                        · rw [if_pos c269] at h
                                          refine ax_icmp_eq_t (pc := 745) (tgt := 1504) (ax_dd KL_law_18 19 rfl) (by decide) c269 ?_
                                          refine ax_iinc (pc := 1504) (q := 3) (v := (x3 + 7)) (lv' := [(3, .int (x3 + 7)), (0, .ref G.2.2.2.2.2.1), (1, .ref (G.1 + 0)), (2, .ref (G.1 + 51))]) (ax_dd KL_law_44 6 rfl) rfl rfl (by decide) rfl ?_
                                          refine ax_goto (pc := 1507) (tgt := 18) (ax_dd KL_law_44 7 rfl) (by decide) ?_
                                          refine ax_sub (lv' := [(0, .ref G.2.2.2.2.2.1), (1, .ref (G.1 + 0)), (2, .ref (G.1 + 51)), (3, .int (x3 + 7))]) [1, 2, 3, 0] rfl ?_
                                          exact ih _ _ _ h
                                        · rw [if_neg c269] at h
                                          refine ax_icmp_eq_f (pc := 745) (tgt := 1504) (ax_dd KL_law_18 19 rfl) (by decide) c269 ?_
                                          refine ax_iconst (pc := 748) (v := 0) (ax_dd KL_law_18 20 rfl) (by decide) ?_
                                          obtain rfl := Option.some.inj h
                                          exact ax_ireti (pc := 749) (ax_dd KL_law_18 21 rfl) ⟨_, rfl, rfl⟩ rfl
                                      · rw [if_neg c254] at h
                                        by_cases c270 : ((xs j2) &&& 63) = 17
                                        · rw [if_pos c270] at h
                                          refine ax_tab (pc := 33) (off := 717) (tgt := 750) (ax_dd KL_law_0 21 rfl) (by rw [c270]; decide) (by rw [c270]; decide) (by rw [c270]; rfl) (by decide) ?_
                                          refine ax_aload_n (pc := 750) (i := 1) (q := 1) (ax_dd KL_law_18 22 rfl) rfl rfl ?_
                                          refine ax_aload_n (pc := 751) (i := 0) (q := 0) (ax_dd KL_law_18 23 rfl) rfl rfl ?_
                                          refine ax_iload_n (pc := 752) (i := 3) (q := 3) (ax_dd KL_law_18 24 rfl) rfl rfl ?_
                                          refine ax_iconst (pc := 753) (v := 1) (ax_dd KL_law_19 0 rfl) (by decide) ?_
                                          refine ax_iadd (pc := 754) (ax_dd KL_law_19 1 rfl) ?_
                                          obtain ⟨j271, b272, h⟩ := ob_bind h
                                          refine ax_scl (pc := 755) (j := j271) (xs := xs) (ax_dd KL_law_19 2 rfl) hxs b272 ?_
                                          refine ax_aload_n (pc := 756) (i := 0) (q := 0) (ax_dd KL_law_19 3 rfl) rfl rfl ?_
                                          refine ax_iload_n (pc := 757) (i := 3) (q := 3) (ax_dd KL_law_19 4 rfl) rfl rfl ?_
                                          refine ax_iconst (pc := 758) (v := 2) (ax_dd KL_law_19 5 rfl) (by decide) ?_
                                          refine ax_iadd (pc := 759) (ax_dd KL_law_19 6 rfl) ?_
                                          obtain ⟨j273, b274, h⟩ := ob_bind h
                                          refine ax_scl (pc := 760) (j := j273) (xs := xs) (ax_dd KL_law_19 7 rfl) hxs b274 ?_
                                          obtain ⟨v275, μ277, b276, h⟩ := ob_bind2 h
                                          refine ax_kV (pc := 761) (ci := 9) (k := 0) (As := [.int (xs j271), .int (xs j273)]) (rest := []) (st1 := [.int v275]) (μ1 := μ277) (ax_dd KL_law_19 8 rfl) (c_X9_place shp_F b276) kV_L_87 e_X9_place rfl cl_X9 (by decide) rfl rfl (by decide) (by decide) (Nat.le_of_ble_eq_true rfl) rfl ?_
                                          refine ax_aload_n (pc := 764) (i := 2) (q := 2) (ax_dd KL_law_19 9 rfl) rfl rfl ?_
                                          refine ax_aload_n (pc := 765) (i := 0) (q := 0) (ax_dd KL_law_19 10 rfl) rfl rfl ?_
                                          refine ax_iload_n (pc := 766) (i := 3) (q := 3) (ax_dd KL_law_19 11 rfl) rfl rfl ?_
                                          refine ax_iconst (pc := 767) (v := 1) (ax_dd KL_law_19 12 rfl) (by decide) ?_
                                          refine ax_iadd (pc := 768) (ax_dd KL_law_19 13 rfl) ?_
                                          obtain ⟨j278, b279, h⟩ := ob_bind h
                                          refine ax_scl (pc := 769) (j := j278) (xs := xs) (ax_dd KL_law_19 14 rfl) hxs b279 ?_
                                          refine ax_aload_n (pc := 770) (i := 0) (q := 0) (ax_dd KL_law_19 15 rfl) rfl rfl ?_
                                          refine ax_iload_n (pc := 771) (i := 3) (q := 3) (ax_dd KL_law_19 16 rfl) rfl rfl ?_
                                          refine ax_iconst (pc := 772) (v := 2) (ax_dd KL_law_19 17 rfl) (by decide) ?_
                                          refine ax_iadd (pc := 773) (ax_dd KL_law_19 18 rfl) ?_
                                          obtain ⟨j280, b281, h⟩ := ob_bind h
                                          refine ax_scl (pc := 774) (j := j280) (xs := xs) (ax_dd KL_law_19 19 rfl) hxs b281 ?_
                                          obtain ⟨v282, μ284, b283, h⟩ := ob_bind2 h
                                          refine ax_kV (pc := 775) (ci := 10) (k := 51) (As := [.int (xs j278), .int (xs j280)]) (rest := [.int v275]) (st1 := [.int v282, .int v275]) (μ1 := μ284) (ax_dd KL_law_19 20 rfl) (c_X10_place (fun _ _ h => h) b283) kV_L_90 e_X10_place rfl cl_X10 (by decide) rfl rfl (by decide) (by decide) (Nat.le_of_ble_eq_true rfl) rfl ?_
                                          by_cases c285 : v275 = v282
                                          · rw [if_pos c285] at h
                                            refine ax_icmp_eq_t (pc := 778) (tgt := 1504) (ax_dd KL_law_19 21 rfl) (by decide) c285 ?_
                                            refine ax_iinc (pc := 1504) (q := 3) (v := (x3 + 7)) (lv' := [(3, .int (x3 + 7)), (0, .ref G.2.2.2.2.2.1), (1, .ref (G.1 + 0)), (2, .ref (G.1 + 51))]) (ax_dd KL_law_44 6 rfl) rfl rfl (by decide) rfl ?_
                                            refine ax_goto (pc := 1507) (tgt := 18) (ax_dd KL_law_44 7 rfl) (by decide) ?_
                                            refine ax_sub (lv' := [(0, .ref G.2.2.2.2.2.1), (1, .ref (G.1 + 0)), (2, .ref (G.1 + 51)), (3, .int (x3 + 7))]) [1, 2, 3, 0] rfl ?_
                                            exact ih _ _ _ h
                                          · rw [if_neg c285] at h
                                            refine ax_icmp_eq_f (pc := 778) (tgt := 1504) (ax_dd KL_law_19 21 rfl) (by decide) c285 ?_
                                            refine ax_iconst (pc := 781) (v := 0) (ax_dd KL_law_19 22 rfl) (by decide) ?_
                                            obtain rfl := Option.some.inj h
                                            exact ax_ireti (pc := 782) (ax_dd KL_law_19 23 rfl) ⟨_, rfl, rfl⟩ rfl
                                        · rw [if_neg c270] at h
                                          by_cases c286 : ((xs j2) &&& 63) = 18
                                          · rw [if_pos c286] at h
                                            refine ax_tab (pc := 33) (off := 750) (tgt := 783) (ax_dd KL_law_0 21 rfl) (by rw [c286]; decide) (by rw [c286]; decide) (by rw [c286]; rfl) (by decide) ?_
                                            refine ax_aload_n (pc := 783) (i := 1) (q := 1) (ax_dd KL_law_19 24 rfl) rfl rfl ?_
                                            refine ax_aload_n (pc := 784) (i := 0) (q := 0) (ax_dd KL_law_20 0 rfl) rfl rfl ?_
                                            refine ax_iload_n (pc := 785) (i := 3) (q := 3) (ax_dd KL_law_20 1 rfl) rfl rfl ?_
                                            refine ax_iconst (pc := 786) (v := 1) (ax_dd KL_law_20 2 rfl) (by decide) ?_
                                            refine ax_iadd (pc := 787) (ax_dd KL_law_20 3 rfl) ?_
                                            obtain ⟨j287, b288, h⟩ := ob_bind h
                                            refine ax_scl (pc := 788) (j := j287) (xs := xs) (ax_dd KL_law_20 4 rfl) hxs b288 ?_
                                            obtain ⟨v289, μ291, b290, h⟩ := ob_bind2 h
                                            refine ax_kV (pc := 789) (ci := 9) (k := 0) (As := [.int (xs j287)]) (rest := []) (st1 := [.int v289]) (μ1 := μ291) (ax_dd KL_law_20 5 rfl) (c_X9_freest shp_F b290) kV_L_91 e_X9_freest rfl cl_X9 (by decide) rfl rfl (by decide) (by decide) (Nat.le_of_ble_eq_true rfl) rfl ?_
                                            refine ax_aload_n (pc := 792) (i := 2) (q := 2) (ax_dd KL_law_20 6 rfl) rfl rfl ?_
                                            refine ax_aload_n (pc := 793) (i := 0) (q := 0) (ax_dd KL_law_20 7 rfl) rfl rfl ?_
                                            refine ax_iload_n (pc := 794) (i := 3) (q := 3) (ax_dd KL_law_20 8 rfl) rfl rfl ?_
                                            refine ax_iconst (pc := 795) (v := 1) (ax_dd KL_law_20 9 rfl) (by decide) ?_
                                            refine ax_iadd (pc := 796) (ax_dd KL_law_20 10 rfl) ?_
                                            obtain ⟨j292, b293, h⟩ := ob_bind h
                                            refine ax_scl (pc := 797) (j := j292) (xs := xs) (ax_dd KL_law_20 11 rfl) hxs b293 ?_
                                            obtain ⟨v294, μ296, b295, h⟩ := ob_bind2 h
                                            refine ax_kV (pc := 798) (ci := 10) (k := 51) (As := [.int (xs j292)]) (rest := [.int v289]) (st1 := [.int v294, .int v289]) (μ1 := μ296) (ax_dd KL_law_20 12 rfl) (c_X10_freest (fun _ _ h => h) b295) kV_L_94 e_X10_freest rfl cl_X10 (by decide) rfl rfl (by decide) (by decide) (Nat.le_of_ble_eq_true rfl) rfl ?_
                                            by_cases c297 : v289 = v294
                                            · rw [if_pos c297] at h
                                              refine ax_icmp_eq_t (pc := 801) (tgt := 1504) (ax_dd KL_law_20 13 rfl) (by decide) c297 ?_
                                              refine ax_iinc (pc := 1504) (q := 3) (v := (x3 + 7)) (lv' := [(3, .int (x3 + 7)), (0, .ref G.2.2.2.2.2.1), (1, .ref (G.1 + 0)), (2, .ref (G.1 + 51))]) (ax_dd KL_law_44 6 rfl) rfl rfl (by decide) rfl ?_
                                              refine ax_goto (pc := 1507) (tgt := 18) (ax_dd KL_law_44 7 rfl) (by decide) ?_
                                              refine ax_sub (lv' := [(0, .ref G.2.2.2.2.2.1), (1, .ref (G.1 + 0)), (2, .ref (G.1 + 51)), (3, .int (x3 + 7))]) [1, 2, 3, 0] rfl ?_
                                              exact ih _ _ _ h
                                            · rw [if_neg c297] at h
                                              refine ax_icmp_eq_f (pc := 801) (tgt := 1504) (ax_dd KL_law_20 13 rfl) (by decide) c297 ?_
                                              refine ax_iconst (pc := 804) (v := 0) (ax_dd KL_law_20 14 rfl) (by decide) ?_
                                              obtain rfl := Option.some.inj h
                                              exact ax_ireti (pc := 805) (ax_dd KL_law_20 15 rfl) ⟨_, rfl, rfl⟩ rfl
                                          · rw [if_neg c286] at h
                                            by_cases c298 : ((xs j2) &&& 63) = 19
                                            · rw [if_pos c298] at h
                                              refine ax_tab (pc := 33) (off := 773) (tgt := 806) (ax_dd KL_law_0 21 rfl) (by rw [c298]; decide) (by rw [c298]; decide) (by rw [c298]; rfl) (by decide) ?_
                                              refine ax_aload_n (pc := 806) (i := 1) (q := 1) (ax_dd KL_law_20 16 rfl) rfl rfl ?_
                                              refine ax_aload_n (pc := 807) (i := 0) (q := 0) (ax_dd KL_law_20 17 rfl) rfl rfl ?_
                                              refine ax_iload_n (pc := 808) (i := 3) (q := 3) (ax_dd KL_law_20 18 rfl) rfl rfl ?_
                                              refine ax_iconst (pc := 809) (v := 1) (ax_dd KL_law_20 19 rfl) (by decide) ?_
                                              refine ax_iadd (pc := 810) (ax_dd KL_law_20 20 rfl) ?_
                                              obtain ⟨j299, b300, h⟩ := ob_bind h
                                              refine ax_scl (pc := 811) (j := j299) (xs := xs) (ax_dd KL_law_20 21 rfl) hxs b300 ?_
                                              obtain ⟨v301, μ303, b302, h⟩ := ob_bind2 h
                                              refine ax_kV (pc := 812) (ci := 9) (k := 0) (As := [.int (xs j299)]) (rest := []) (st1 := [.int v301]) (μ1 := μ303) (ax_dd KL_law_20 22 rfl) (c_X9_fold shp_F b302) kV_L_95 e_X9_fold rfl cl_X9 (by decide) rfl rfl (by decide) (by decide) (Nat.le_of_ble_eq_true rfl) rfl ?_
                                              refine ax_aload_n (pc := 815) (i := 2) (q := 2) (ax_dd KL_law_20 23 rfl) rfl rfl ?_
                                              refine ax_aload_n (pc := 816) (i := 0) (q := 0) (ax_dd KL_law_20 24 rfl) rfl rfl ?_
                                              refine ax_iload_n (pc := 817) (i := 3) (q := 3) (ax_dd KL_law_21 0 rfl) rfl rfl ?_
                                              refine ax_iconst (pc := 818) (v := 1) (ax_dd KL_law_21 1 rfl) (by decide) ?_
                                              refine ax_iadd (pc := 819) (ax_dd KL_law_21 2 rfl) ?_
                                              obtain ⟨j304, b305, h⟩ := ob_bind h
                                              refine ax_scl (pc := 820) (j := j304) (xs := xs) (ax_dd KL_law_21 3 rfl) hxs b305 ?_
                                              obtain ⟨v306, μ308, b307, h⟩ := ob_bind2 h
                                              refine ax_kV (pc := 821) (ci := 10) (k := 51) (As := [.int (xs j304)]) (rest := [.int v301]) (st1 := [.int v306, .int v301]) (μ1 := μ308) (ax_dd KL_law_21 4 rfl) (c_X10_fold (fun _ _ h => h) b307) kV_L_98 e_X10_fold rfl cl_X10 (by decide) rfl rfl (by decide) (by decide) (Nat.le_of_ble_eq_true rfl) rfl ?_
                                              by_cases c309 : v301 = v306
                                              · rw [if_pos c309] at h
                                                refine ax_icmp_eq_t (pc := 824) (tgt := 1504) (ax_dd KL_law_21 5 rfl) (by decide) c309 ?_
                                                refine ax_iinc (pc := 1504) (q := 3) (v := (x3 + 7)) (lv' := [(3, .int (x3 + 7)), (0, .ref G.2.2.2.2.2.1), (1, .ref (G.1 + 0)), (2, .ref (G.1 + 51))]) (ax_dd KL_law_44 6 rfl) rfl rfl (by decide) rfl ?_
                                                refine ax_goto (pc := 1507) (tgt := 18) (ax_dd KL_law_44 7 rfl) (by decide) ?_
                                                refine ax_sub (lv' := [(0, .ref G.2.2.2.2.2.1), (1, .ref (G.1 + 0)), (2, .ref (G.1 + 51)), (3, .int (x3 + 7))]) [1, 2, 3, 0] rfl ?_
                                                exact ih _ _ _ h
                                              · rw [if_neg c309] at h
                                                refine ax_icmp_eq_f (pc := 824) (tgt := 1504) (ax_dd KL_law_21 5 rfl) (by decide) c309 ?_
                                                refine ax_iconst (pc := 827) (v := 0) (ax_dd KL_law_21 6 rfl) (by decide) ?_
                                                obtain rfl := Option.some.inj h
                                                exact ax_ireti (pc := 828) (ax_dd KL_law_21 7 rfl) ⟨_, rfl, rfl⟩ rfl
                                            · rw [if_neg c298] at h
                                              by_cases c310 : ((xs j2) &&& 63) = 20
                                              · rw [if_pos c310] at h
                                                refine ax_tab (pc := 33) (off := 796) (tgt := 829) (ax_dd KL_law_0 21 rfl) (by rw [c310]; decide) (by rw [c310]; decide) (by rw [c310]; rfl) (by decide) ?_
                                                refine ax_aload_n (pc := 829) (i := 1) (q := 1) (ax_dd KL_law_21 8 rfl) rfl rfl ?_
                                                refine ax_aload_n (pc := 830) (i := 0) (q := 0) (ax_dd KL_law_21 9 rfl) rfl rfl ?_
                                                refine ax_iload_n (pc := 831) (i := 3) (q := 3) (ax_dd KL_law_21 10 rfl) rfl rfl ?_
                                                refine ax_iconst (pc := 832) (v := 1) (ax_dd KL_law_21 11 rfl) (by decide) ?_
                                                refine ax_iadd (pc := 833) (ax_dd KL_law_21 12 rfl) ?_
                                                obtain ⟨j311, b312, h⟩ := ob_bind h
                                                refine ax_scl (pc := 834) (j := j311) (xs := xs) (ax_dd KL_law_21 13 rfl) hxs b312 ?_
                                                refine ax_aload_n (pc := 835) (i := 0) (q := 0) (ax_dd KL_law_21 14 rfl) rfl rfl ?_
                                                refine ax_iload_n (pc := 836) (i := 3) (q := 3) (ax_dd KL_law_21 15 rfl) rfl rfl ?_
                                                refine ax_iconst (pc := 837) (v := 2) (ax_dd KL_law_21 16 rfl) (by decide) ?_
                                                refine ax_iadd (pc := 838) (ax_dd KL_law_21 17 rfl) ?_
                                                obtain ⟨j313, b314, h⟩ := ob_bind h
                                                refine ax_scl (pc := 839) (j := j313) (xs := xs) (ax_dd KL_law_21 18 rfl) hxs b314 ?_
                                                obtain ⟨v315, μ317, b316, h⟩ := ob_bind2 h
                                                refine ax_kV (pc := 840) (ci := 9) (k := 0) (As := [.int (xs j311), .int (xs j313)]) (rest := []) (st1 := [.long v315]) (μ1 := μ317) (ax_dd KL_law_21 19 rfl) (c_X9_share shp_F b316) kV_L_99 e_X9_share rfl cl_X9 (by decide) rfl rfl (by decide) (by decide) (Nat.le_of_ble_eq_true rfl) rfl ?_
                                                refine ax_aload_n (pc := 843) (i := 2) (q := 2) (ax_dd KL_law_21 20 rfl) rfl rfl ?_
                                                refine ax_aload_n (pc := 844) (i := 0) (q := 0) (ax_dd KL_law_21 21 rfl) rfl rfl ?_
                                                refine ax_iload_n (pc := 845) (i := 3) (q := 3) (ax_dd KL_law_21 22 rfl) rfl rfl ?_
                                                refine ax_iconst (pc := 846) (v := 1) (ax_dd KL_law_21 23 rfl) (by decide) ?_
                                                refine ax_iadd (pc := 847) (ax_dd KL_law_21 24 rfl) ?_
                                                obtain ⟨j318, b319, h⟩ := ob_bind h
                                                refine ax_scl (pc := 848) (j := j318) (xs := xs) (ax_dd KL_law_22 0 rfl) hxs b319 ?_
                                                refine ax_aload_n (pc := 849) (i := 0) (q := 0) (ax_dd KL_law_22 1 rfl) rfl rfl ?_
                                                refine ax_iload_n (pc := 850) (i := 3) (q := 3) (ax_dd KL_law_22 2 rfl) rfl rfl ?_
                                                refine ax_iconst (pc := 851) (v := 2) (ax_dd KL_law_22 3 rfl) (by decide) ?_
                                                refine ax_iadd (pc := 852) (ax_dd KL_law_22 4 rfl) ?_
                                                obtain ⟨j320, b321, h⟩ := ob_bind h
                                                refine ax_scl (pc := 853) (j := j320) (xs := xs) (ax_dd KL_law_22 5 rfl) hxs b321 ?_
                                                obtain ⟨v322, μ324, b323, h⟩ := ob_bind2 h
                                                refine ax_kV (pc := 854) (ci := 10) (k := 51) (As := [.int (xs j318), .int (xs j320)]) (rest := [.long v315]) (st1 := [.long v322, .long v315]) (μ1 := μ324) (ax_dd KL_law_22 6 rfl) (c_X10_share (fun _ _ h => h) b323) kV_L_103 e_X10_share rfl cl_X10 (by decide) rfl rfl (by decide) (by decide) (Nat.le_of_ble_eq_true rfl) rfl ?_
                                                refine ax_lcmp (pc := 857) (ax_dd KL_law_22 7 rfl) ?_
                                                by_cases c325 : (lg_cmp v315 v322) = 0
                                                · rw [if_pos c325] at h
                                                  refine ax_if_eq_t (pc := 858) (tgt := 1504) (ax_dd KL_law_22 8 rfl) (by decide) c325 ?_
                                                  refine ax_iinc (pc := 1504) (q := 3) (v := (x3 + 7)) (lv' := [(3, .int (x3 + 7)), (0, .ref G.2.2.2.2.2.1), (1, .ref (G.1 + 0)), (2, .ref (G.1 + 51))]) (ax_dd KL_law_44 6 rfl) rfl rfl (by decide) rfl ?_
                                                  refine ax_goto (pc := 1507) (tgt := 18) (ax_dd KL_law_44 7 rfl) (by decide) ?_
                                                  refine ax_sub (lv' := [(0, .ref G.2.2.2.2.2.1), (1, .ref (G.1 + 0)), (2, .ref (G.1 + 51)), (3, .int (x3 + 7))]) [1, 2, 3, 0] rfl ?_
                                                  exact ih _ _ _ h
                                                · rw [if_neg c325] at h
                                                  refine ax_if_eq_f (pc := 858) (tgt := 1504) (ax_dd KL_law_22 8 rfl) (by decide) c325 ?_
                                                  refine ax_iconst (pc := 861) (v := 0) (ax_dd KL_law_22 9 rfl) (by decide) ?_
                                                  obtain rfl := Option.some.inj h
                                                  exact ax_ireti (pc := 862) (ax_dd KL_law_22 10 rfl) ⟨_, rfl, rfl⟩ rfl
                                              · rw [if_neg c310] at h
                                                by_cases c326 : ((xs j2) &&& 63) = 21
                                                · rw [if_pos c326] at h
                                                  refine ax_tab (pc := 33) (off := 830) (tgt := 863) (ax_dd KL_law_0 21 rfl) (by rw [c326]; decide) (by rw [c326]; decide) (by rw [c326]; rfl) (by decide) ?_
                                                  refine ax_aload_n (pc := 863) (i := 1) (q := 1) (ax_dd KL_law_22 11 rfl) rfl rfl ?_
                                                  refine ax_aload_n (pc := 864) (i := 0) (q := 0) (ax_dd KL_law_22 12 rfl) rfl rfl ?_
                                                  refine ax_iload_n (pc := 865) (i := 3) (q := 3) (ax_dd KL_law_22 13 rfl) rfl rfl ?_
                                                  refine ax_iconst (pc := 866) (v := 1) (ax_dd KL_law_22 14 rfl) (by decide) ?_
                                                  refine ax_iadd (pc := 867) (ax_dd KL_law_22 15 rfl) ?_
                                                  obtain ⟨j327, b328, h⟩ := ob_bind h
                                                  refine ax_scl (pc := 868) (j := j327) (xs := xs) (ax_dd KL_law_22 16 rfl) hxs b328 ?_
                                                  refine ax_aload_n (pc := 869) (i := 0) (q := 0) (ax_dd KL_law_22 17 rfl) rfl rfl ?_
                                                  refine ax_iload_n (pc := 870) (i := 3) (q := 3) (ax_dd KL_law_22 18 rfl) rfl rfl ?_
                                                  refine ax_iconst (pc := 871) (v := 2) (ax_dd KL_law_22 19 rfl) (by decide) ?_
                                                  refine ax_iadd (pc := 872) (ax_dd KL_law_22 20 rfl) ?_
                                                  obtain ⟨j329, b330, h⟩ := ob_bind h
                                                  refine ax_scl (pc := 873) (j := j329) (xs := xs) (ax_dd KL_law_22 21 rfl) hxs b330 ?_
                                                  obtain ⟨v331, μ333, b332, h⟩ := ob_bind2 h
                                                  refine ax_kV (pc := 874) (ci := 9) (k := 0) (As := [.int (xs j327), .int (xs j329)]) (rest := []) (st1 := [.long v331]) (μ1 := μ333) (ax_dd KL_law_22 22 rfl) (c_X9_mean shp_F b332) kV_L_104 e_X9_mean rfl cl_X9 (by decide) rfl rfl (by decide) (by decide) (Nat.le_of_ble_eq_true rfl) rfl ?_
                                                  refine ax_aload_n (pc := 877) (i := 2) (q := 2) (ax_dd KL_law_22 23 rfl) rfl rfl ?_
                                                  refine ax_aload_n (pc := 878) (i := 0) (q := 0) (ax_dd KL_law_22 24 rfl) rfl rfl ?_
                                                  refine ax_iload_n (pc := 879) (i := 3) (q := 3) (ax_dd KL_law_23 0 rfl) rfl rfl ?_
                                                  refine ax_iconst (pc := 880) (v := 1) (ax_dd KL_law_23 1 rfl) (by decide) ?_
                                                  refine ax_iadd (pc := 881) (ax_dd KL_law_23 2 rfl) ?_
                                                  obtain ⟨j334, b335, h⟩ := ob_bind h
                                                  refine ax_scl (pc := 882) (j := j334) (xs := xs) (ax_dd KL_law_23 3 rfl) hxs b335 ?_
                                                  refine ax_aload_n (pc := 883) (i := 0) (q := 0) (ax_dd KL_law_23 4 rfl) rfl rfl ?_
                                                  refine ax_iload_n (pc := 884) (i := 3) (q := 3) (ax_dd KL_law_23 5 rfl) rfl rfl ?_
                                                  refine ax_iconst (pc := 885) (v := 2) (ax_dd KL_law_23 6 rfl) (by decide) ?_
                                                  refine ax_iadd (pc := 886) (ax_dd KL_law_23 7 rfl) ?_
                                                  obtain ⟨j336, b337, h⟩ := ob_bind h
                                                  refine ax_scl (pc := 887) (j := j336) (xs := xs) (ax_dd KL_law_23 8 rfl) hxs b337 ?_
                                                  obtain ⟨v338, μ340, b339, h⟩ := ob_bind2 h
                                                  refine ax_kV (pc := 888) (ci := 10) (k := 51) (As := [.int (xs j334), .int (xs j336)]) (rest := [.long v331]) (st1 := [.long v338, .long v331]) (μ1 := μ340) (ax_dd KL_law_23 9 rfl) (c_X10_mean (fun _ _ h => h) b339) kV_L_107 e_X10_mean rfl cl_X10 (by decide) rfl rfl (by decide) (by decide) (Nat.le_of_ble_eq_true rfl) rfl ?_
                                                  refine ax_lcmp (pc := 891) (ax_dd KL_law_23 10 rfl) ?_
                                                  by_cases c341 : (lg_cmp v331 v338) = 0
                                                  · rw [if_pos c341] at h
                                                    refine ax_if_eq_t (pc := 892) (tgt := 1504) (ax_dd KL_law_23 11 rfl) (by decide) c341 ?_
                                                    refine ax_iinc (pc := 1504) (q := 3) (v := (x3 + 7)) (lv' := [(3, .int (x3 + 7)), (0, .ref G.2.2.2.2.2.1), (1, .ref (G.1 + 0)), (2, .ref (G.1 + 51))]) (ax_dd KL_law_44 6 rfl) rfl rfl (by decide) rfl ?_
                                                    refine ax_goto (pc := 1507) (tgt := 18) (ax_dd KL_law_44 7 rfl) (by decide) ?_
                                                    refine ax_sub (lv' := [(0, .ref G.2.2.2.2.2.1), (1, .ref (G.1 + 0)), (2, .ref (G.1 + 51)), (3, .int (x3 + 7))]) [1, 2, 3, 0] rfl ?_
                                                    exact ih _ _ _ h
                                                  · rw [if_neg c341] at h
                                                    refine ax_if_eq_f (pc := 892) (tgt := 1504) (ax_dd KL_law_23 11 rfl) (by decide) c341 ?_
                                                    refine ax_iconst (pc := 895) (v := 0) (ax_dd KL_law_23 12 rfl) (by decide) ?_
                                                    obtain rfl := Option.some.inj h
                                                    exact ax_ireti (pc := 896) (ax_dd KL_law_23 13 rfl) ⟨_, rfl, rfl⟩ rfl
                                                · rw [if_neg c326] at h
                                                  by_cases c342 : ((xs j2) &&& 63) = 22
                                                  · rw [if_pos c342] at h
                                                    refine ax_tab (pc := 33) (off := 864) (tgt := 897) (ax_dd KL_law_0 21 rfl) (by rw [c342]; decide) (by rw [c342]; decide) (by rw [c342]; rfl) (by decide) ?_
                                                    refine ax_aload_n (pc := 897) (i := 1) (q := 1) (ax_dd KL_law_23 14 rfl) rfl rfl ?_
                                                    refine ax_aload_n (pc := 898) (i := 0) (q := 0) (ax_dd KL_law_23 15 rfl) rfl rfl ?_
                                                    refine ax_iload_n (pc := 899) (i := 3) (q := 3) (ax_dd KL_law_23 16 rfl) rfl rfl ?_
                                                    refine ax_iconst (pc := 900) (v := 1) (ax_dd KL_law_23 17 rfl) (by decide) ?_
                                                    refine ax_iadd (pc := 901) (ax_dd KL_law_23 18 rfl) ?_
                                                    obtain ⟨j343, b344, h⟩ := ob_bind h
                                                    refine ax_scl (pc := 902) (j := j343) (xs := xs) (ax_dd KL_law_23 19 rfl) hxs b344 ?_
                                                    refine ax_aload_n (pc := 903) (i := 0) (q := 0) (ax_dd KL_law_23 20 rfl) rfl rfl ?_
                                                    refine ax_iload_n (pc := 904) (i := 3) (q := 3) (ax_dd KL_law_23 21 rfl) rfl rfl ?_
                                                    refine ax_iconst (pc := 905) (v := 2) (ax_dd KL_law_23 22 rfl) (by decide) ?_
                                                    refine ax_iadd (pc := 906) (ax_dd KL_law_23 23 rfl) ?_
                                                    obtain ⟨j345, b346, h⟩ := ob_bind h
                                                    refine ax_scl (pc := 907) (j := j345) (xs := xs) (ax_dd KL_law_23 24 rfl) hxs b346 ?_
                                                    obtain ⟨v347, μ349, b348, h⟩ := ob_bind2 h
                                                    refine ax_kV (pc := 908) (ci := 9) (k := 0) (As := [.int (xs j343), .int (xs j345)]) (rest := []) (st1 := [.int v347]) (μ1 := μ349) (ax_dd KL_law_24 0 rfl) (c_X9_judge shp_F b348) kV_L_108 e_X9_judge rfl cl_X9 (by decide) rfl rfl (by decide) (by decide) (Nat.le_of_ble_eq_true rfl) rfl ?_
                                                    refine ax_aload_n (pc := 911) (i := 2) (q := 2) (ax_dd KL_law_24 1 rfl) rfl rfl ?_
                                                    refine ax_aload_n (pc := 912) (i := 0) (q := 0) (ax_dd KL_law_24 2 rfl) rfl rfl ?_
                                                    refine ax_iload_n (pc := 913) (i := 3) (q := 3) (ax_dd KL_law_24 3 rfl) rfl rfl ?_
                                                    refine ax_iconst (pc := 914) (v := 1) (ax_dd KL_law_24 4 rfl) (by decide) ?_
                                                    refine ax_iadd (pc := 915) (ax_dd KL_law_24 5 rfl) ?_
                                                    obtain ⟨j350, b351, h⟩ := ob_bind h
                                                    refine ax_scl (pc := 916) (j := j350) (xs := xs) (ax_dd KL_law_24 6 rfl) hxs b351 ?_
                                                    refine ax_aload_n (pc := 917) (i := 0) (q := 0) (ax_dd KL_law_24 7 rfl) rfl rfl ?_
                                                    refine ax_iload_n (pc := 918) (i := 3) (q := 3) (ax_dd KL_law_24 8 rfl) rfl rfl ?_
                                                    refine ax_iconst (pc := 919) (v := 2) (ax_dd KL_law_24 9 rfl) (by decide) ?_
                                                    refine ax_iadd (pc := 920) (ax_dd KL_law_24 10 rfl) ?_
                                                    obtain ⟨j352, b353, h⟩ := ob_bind h
                                                    refine ax_scl (pc := 921) (j := j352) (xs := xs) (ax_dd KL_law_24 11 rfl) hxs b353 ?_
                                                    obtain ⟨v354, μ356, b355, h⟩ := ob_bind2 h
                                                    refine ax_kV (pc := 922) (ci := 10) (k := 51) (As := [.int (xs j350), .int (xs j352)]) (rest := [.int v347]) (st1 := [.int v354, .int v347]) (μ1 := μ356) (ax_dd KL_law_24 12 rfl) (c_X10_judge (fun _ _ h => h) b355) kV_L_111 e_X10_judge rfl cl_X10 (by decide) rfl rfl (by decide) (by decide) (Nat.le_of_ble_eq_true rfl) rfl ?_
                                                    by_cases c357 : v347 = v354
                                                    · rw [if_pos c357] at h
                                                      refine ax_icmp_eq_t (pc := 925) (tgt := 1504) (ax_dd KL_law_24 13 rfl) (by decide) c357 ?_
                                                      refine ax_iinc (pc := 1504) (q := 3) (v := (x3 + 7)) (lv' := [(3, .int (x3 + 7)), (0, .ref G.2.2.2.2.2.1), (1, .ref (G.1 + 0)), (2, .ref (G.1 + 51))]) (ax_dd KL_law_44 6 rfl) rfl rfl (by decide) rfl ?_
                                                      refine ax_goto (pc := 1507) (tgt := 18) (ax_dd KL_law_44 7 rfl) (by decide) ?_
                                                      refine ax_sub (lv' := [(0, .ref G.2.2.2.2.2.1), (1, .ref (G.1 + 0)), (2, .ref (G.1 + 51)), (3, .int (x3 + 7))]) [1, 2, 3, 0] rfl ?_
                                                      exact ih _ _ _ h
                                                    · rw [if_neg c357] at h
                                                      refine ax_icmp_eq_f (pc := 925) (tgt := 1504) (ax_dd KL_law_24 13 rfl) (by decide) c357 ?_
                                                      refine ax_iconst (pc := 928) (v := 0) (ax_dd KL_law_24 14 rfl) (by decide) ?_
                                                      obtain rfl := Option.some.inj h
                                                      exact ax_ireti (pc := 929) (ax_dd KL_law_24 15 rfl) ⟨_, rfl, rfl⟩ rfl
                                                  · rw [if_neg c342] at h
                                                    by_cases c358 : ((xs j2) &&& 63) = 23
                                                    · rw [if_pos c358] at h
                                                      refine ax_tab (pc := 33) (off := 897) (tgt := 930) (ax_dd KL_law_0 21 rfl) (by rw [c358]; decide) (by rw [c358]; decide) (by rw [c358]; rfl) (by decide) ?_
                                                      refine ax_aload_n (pc := 930) (i := 1) (q := 1) (ax_dd KL_law_24 16 rfl) rfl rfl ?_
                                                      refine ax_aload_n (pc := 931) (i := 0) (q := 0) (ax_dd KL_law_24 17 rfl) rfl rfl ?_
                                                      refine ax_iload_n (pc := 932) (i := 3) (q := 3) (ax_dd KL_law_24 18 rfl) rfl rfl ?_
                                                      refine ax_iconst (pc := 933) (v := 1) (ax_dd KL_law_24 19 rfl) (by decide) ?_
                                                      refine ax_iadd (pc := 934) (ax_dd KL_law_24 20 rfl) ?_
                                                      obtain ⟨j359, b360, h⟩ := ob_bind h
                                                      refine ax_scl (pc := 935) (j := j359) (xs := xs) (ax_dd KL_law_24 21 rfl) hxs b360 ?_
                                                      refine ax_aload_n (pc := 936) (i := 0) (q := 0) (ax_dd KL_law_24 22 rfl) rfl rfl ?_
                                                      refine ax_iload_n (pc := 937) (i := 3) (q := 3) (ax_dd KL_law_24 23 rfl) rfl rfl ?_
                                                      refine ax_iconst (pc := 938) (v := 2) (ax_dd KL_law_24 24 rfl) (by decide) ?_
                                                      refine ax_iadd (pc := 939) (ax_dd KL_law_25 0 rfl) ?_
                                                      obtain ⟨j361, b362, h⟩ := ob_bind h
                                                      refine ax_scl (pc := 940) (j := j361) (xs := xs) (ax_dd KL_law_25 1 rfl) hxs b362 ?_
                                                      refine ax_aload_n (pc := 941) (i := 0) (q := 0) (ax_dd KL_law_25 2 rfl) rfl rfl ?_
                                                      refine ax_iload_n (pc := 942) (i := 3) (q := 3) (ax_dd KL_law_25 3 rfl) rfl rfl ?_
                                                      refine ax_iconst (pc := 943) (v := 3) (ax_dd KL_law_25 4 rfl) (by decide) ?_
                                                      refine ax_iadd (pc := 944) (ax_dd KL_law_25 5 rfl) ?_
                                                      obtain ⟨j363, b364, h⟩ := ob_bind h
                                                      refine ax_scl (pc := 945) (j := j363) (xs := xs) (ax_dd KL_law_25 6 rfl) hxs b364 ?_
                                                      refine ax_aload_n (pc := 946) (i := 0) (q := 0) (ax_dd KL_law_25 7 rfl) rfl rfl ?_
                                                      refine ax_iload_n (pc := 947) (i := 3) (q := 3) (ax_dd KL_law_25 8 rfl) rfl rfl ?_
                                                      refine ax_iconst (pc := 948) (v := 4) (ax_dd KL_law_25 9 rfl) (by decide) ?_
                                                      refine ax_iadd (pc := 949) (ax_dd KL_law_25 10 rfl) ?_
                                                      obtain ⟨j365, b366, h⟩ := ob_bind h
                                                      refine ax_scl (pc := 950) (j := j365) (xs := xs) (ax_dd KL_law_25 11 rfl) hxs b366 ?_
                                                      obtain ⟨v367, μ369, b368, h⟩ := ob_bind2 h
                                                      refine ax_kV (pc := 951) (ci := 9) (k := 0) (As := [.int (xs j359), .int (xs j361), .int (xs j363), .int (xs j365)]) (rest := []) (st1 := [.int v367]) (μ1 := μ369) (ax_dd KL_law_25 12 rfl) (c_X9_kinds shp_F b368) kV_L_112 e_X9_kinds rfl cl_X9 (by decide) rfl rfl (by decide) (by decide) (Nat.le_of_ble_eq_true rfl) rfl ?_
                                                      refine ax_aload_n (pc := 954) (i := 2) (q := 2) (ax_dd KL_law_25 13 rfl) rfl rfl ?_
                                                      refine ax_aload_n (pc := 955) (i := 0) (q := 0) (ax_dd KL_law_25 14 rfl) rfl rfl ?_
                                                      refine ax_iload_n (pc := 956) (i := 3) (q := 3) (ax_dd KL_law_25 15 rfl) rfl rfl ?_
                                                      refine ax_iconst (pc := 957) (v := 1) (ax_dd KL_law_25 16 rfl) (by decide) ?_
                                                      refine ax_iadd (pc := 958) (ax_dd KL_law_25 17 rfl) ?_
                                                      obtain ⟨j370, b371, h⟩ := ob_bind h
                                                      refine ax_scl (pc := 959) (j := j370) (xs := xs) (ax_dd KL_law_25 18 rfl) hxs b371 ?_
                                                      refine ax_aload_n (pc := 960) (i := 0) (q := 0) (ax_dd KL_law_25 19 rfl) rfl rfl ?_
                                                      refine ax_iload_n (pc := 961) (i := 3) (q := 3) (ax_dd KL_law_25 20 rfl) rfl rfl ?_
                                                      refine ax_iconst (pc := 962) (v := 2) (ax_dd KL_law_25 21 rfl) (by decide) ?_
                                                      refine ax_iadd (pc := 963) (ax_dd KL_law_25 22 rfl) ?_
                                                      obtain ⟨j372, b373, h⟩ := ob_bind h
                                                      refine ax_scl (pc := 964) (j := j372) (xs := xs) (ax_dd KL_law_25 23 rfl) hxs b373 ?_
                                                      refine ax_aload_n (pc := 965) (i := 0) (q := 0) (ax_dd KL_law_25 24 rfl) rfl rfl ?_
                                                      refine ax_iload_n (pc := 966) (i := 3) (q := 3) (ax_dd KL_law_26 0 rfl) rfl rfl ?_
                                                      refine ax_iconst (pc := 967) (v := 3) (ax_dd KL_law_26 1 rfl) (by decide) ?_
                                                      refine ax_iadd (pc := 968) (ax_dd KL_law_26 2 rfl) ?_
                                                      obtain ⟨j374, b375, h⟩ := ob_bind h
                                                      refine ax_scl (pc := 969) (j := j374) (xs := xs) (ax_dd KL_law_26 3 rfl) hxs b375 ?_
                                                      refine ax_aload_n (pc := 970) (i := 0) (q := 0) (ax_dd KL_law_26 4 rfl) rfl rfl ?_
                                                      refine ax_iload_n (pc := 971) (i := 3) (q := 3) (ax_dd KL_law_26 5 rfl) rfl rfl ?_
                                                      refine ax_iconst (pc := 972) (v := 4) (ax_dd KL_law_26 6 rfl) (by decide) ?_
                                                      refine ax_iadd (pc := 973) (ax_dd KL_law_26 7 rfl) ?_
                                                      obtain ⟨j376, b377, h⟩ := ob_bind h
                                                      refine ax_scl (pc := 974) (j := j376) (xs := xs) (ax_dd KL_law_26 8 rfl) hxs b377 ?_
                                                      obtain ⟨v378, μ380, b379, h⟩ := ob_bind2 h
                                                      refine ax_kV (pc := 975) (ci := 10) (k := 51) (As := [.int (xs j370), .int (xs j372), .int (xs j374), .int (xs j376)]) (rest := [.int v367]) (st1 := [.int v378, .int v367]) (μ1 := μ380) (ax_dd KL_law_26 9 rfl) (c_X10_kinds (fun _ _ h => h) b379) kV_L_116 e_X10_kinds rfl cl_X10 (by decide) rfl rfl (by decide) (by decide) (Nat.le_of_ble_eq_true rfl) rfl ?_
                                                      by_cases c381 : v367 = v378
                                                      · rw [if_pos c381] at h
                                                        refine ax_icmp_eq_t (pc := 978) (tgt := 1504) (ax_dd KL_law_26 10 rfl) (by decide) c381 ?_
                                                        refine ax_iinc (pc := 1504) (q := 3) (v := (x3 + 7)) (lv' := [(3, .int (x3 + 7)), (0, .ref G.2.2.2.2.2.1), (1, .ref (G.1 + 0)), (2, .ref (G.1 + 51))]) (ax_dd KL_law_44 6 rfl) rfl rfl (by decide) rfl ?_
                                                        refine ax_goto (pc := 1507) (tgt := 18) (ax_dd KL_law_44 7 rfl) (by decide) ?_
                                                        refine ax_sub (lv' := [(0, .ref G.2.2.2.2.2.1), (1, .ref (G.1 + 0)), (2, .ref (G.1 + 51)), (3, .int (x3 + 7))]) [1, 2, 3, 0] rfl ?_
                                                        exact ih _ _ _ h
                                                      · rw [if_neg c381] at h
                                                        refine ax_icmp_eq_f (pc := 978) (tgt := 1504) (ax_dd KL_law_26 10 rfl) (by decide) c381 ?_
                                                        refine ax_iconst (pc := 981) (v := 0) (ax_dd KL_law_26 11 rfl) (by decide) ?_
                                                        obtain rfl := Option.some.inj h
                                                        exact ax_ireti (pc := 982) (ax_dd KL_law_26 12 rfl) ⟨_, rfl, rfl⟩ rfl
                                                    · rw [if_neg c358] at h
                                                      by_cases c382 : ((xs j2) &&& 63) = 24
                                                      · rw [if_pos c382] at h
                                                        refine ax_tab (pc := 33) (off := 950) (tgt := 983) (ax_dd KL_law_0 21 rfl) (by rw [c382]; decide) (by rw [c382]; decide) (by rw [c382]; rfl) (by decide) ?_
                                                        refine ax_aload_n (pc := 983) (i := 1) (q := 1) (ax_dd KL_law_26 13 rfl) rfl rfl ?_
                                                        refine ax_aload_n (pc := 984) (i := 0) (q := 0) (ax_dd KL_law_26 14 rfl) rfl rfl ?_
                                                        refine ax_iload_n (pc := 985) (i := 3) (q := 3) (ax_dd KL_law_26 15 rfl) rfl rfl ?_
                                                        refine ax_iconst (pc := 986) (v := 1) (ax_dd KL_law_26 16 rfl) (by decide) ?_
                                                        refine ax_iadd (pc := 987) (ax_dd KL_law_26 17 rfl) ?_
                                                        obtain ⟨j383, b384, h⟩ := ob_bind h
                                                        refine ax_scl (pc := 988) (j := j383) (xs := xs) (ax_dd KL_law_26 18 rfl) hxs b384 ?_
                                                        refine ax_aload_n (pc := 989) (i := 0) (q := 0) (ax_dd KL_law_26 19 rfl) rfl rfl ?_
                                                        refine ax_iload_n (pc := 990) (i := 3) (q := 3) (ax_dd KL_law_26 20 rfl) rfl rfl ?_
                                                        refine ax_iconst (pc := 991) (v := 2) (ax_dd KL_law_26 21 rfl) (by decide) ?_
                                                        refine ax_iadd (pc := 992) (ax_dd KL_law_26 22 rfl) ?_
                                                        obtain ⟨j385, b386, h⟩ := ob_bind h
                                                        refine ax_scl (pc := 993) (j := j385) (xs := xs) (ax_dd KL_law_26 23 rfl) hxs b386 ?_
                                                        refine ax_aload_n (pc := 994) (i := 0) (q := 0) (ax_dd KL_law_26 24 rfl) rfl rfl ?_
                                                        refine ax_iload_n (pc := 995) (i := 3) (q := 3) (ax_dd KL_law_27 0 rfl) rfl rfl ?_
                                                        refine ax_iconst (pc := 996) (v := 3) (ax_dd KL_law_27 1 rfl) (by decide) ?_
                                                        refine ax_iadd (pc := 997) (ax_dd KL_law_27 2 rfl) ?_
                                                        obtain ⟨j387, b388, h⟩ := ob_bind h
                                                        refine ax_scl (pc := 998) (j := j387) (xs := xs) (ax_dd KL_law_27 3 rfl) hxs b388 ?_
                                                        refine ax_aload_n (pc := 999) (i := 0) (q := 0) (ax_dd KL_law_27 4 rfl) rfl rfl ?_
                                                        refine ax_iload_n (pc := 1000) (i := 3) (q := 3) (ax_dd KL_law_27 5 rfl) rfl rfl ?_
                                                        refine ax_iconst (pc := 1001) (v := 4) (ax_dd KL_law_27 6 rfl) (by decide) ?_
                                                        refine ax_iadd (pc := 1002) (ax_dd KL_law_27 7 rfl) ?_
                                                        obtain ⟨j389, b390, h⟩ := ob_bind h
                                                        refine ax_scl (pc := 1003) (j := j389) (xs := xs) (ax_dd KL_law_27 8 rfl) hxs b390 ?_
                                                        obtain ⟨v391, μ393, b392, h⟩ := ob_bind2 h
                                                        refine ax_kV (pc := 1004) (ci := 9) (k := 0) (As := [.int (xs j383), .int (xs j385), .int (xs j387), .int (xs j389)]) (rest := []) (st1 := [.int v391]) (μ1 := μ393) (ax_dd KL_law_27 9 rfl) (c_X9_crowds shp_F b392) kV_L_117 e_X9_crowds rfl cl_X9 (by decide) rfl rfl (by decide) (by decide) (Nat.le_of_ble_eq_true rfl) rfl ?_
                                                        refine ax_aload_n (pc := 1007) (i := 2) (q := 2) (ax_dd KL_law_27 10 rfl) rfl rfl ?_
                                                        refine ax_aload_n (pc := 1008) (i := 0) (q := 0) (ax_dd KL_law_27 11 rfl) rfl rfl ?_
                                                        refine ax_iload_n (pc := 1009) (i := 3) (q := 3) (ax_dd KL_law_27 12 rfl) rfl rfl ?_
                                                        refine ax_iconst (pc := 1010) (v := 1) (ax_dd KL_law_27 13 rfl) (by decide) ?_
                                                        refine ax_iadd (pc := 1011) (ax_dd KL_law_27 14 rfl) ?_
                                                        obtain ⟨j394, b395, h⟩ := ob_bind h
                                                        refine ax_scl (pc := 1012) (j := j394) (xs := xs) (ax_dd KL_law_27 15 rfl) hxs b395 ?_
                                                        refine ax_aload_n (pc := 1013) (i := 0) (q := 0) (ax_dd KL_law_27 16 rfl) rfl rfl ?_
                                                        refine ax_iload_n (pc := 1014) (i := 3) (q := 3) (ax_dd KL_law_27 17 rfl) rfl rfl ?_
                                                        refine ax_iconst (pc := 1015) (v := 2) (ax_dd KL_law_27 18 rfl) (by decide) ?_
                                                        refine ax_iadd (pc := 1016) (ax_dd KL_law_27 19 rfl) ?_
                                                        obtain ⟨j396, b397, h⟩ := ob_bind h
                                                        refine ax_scl (pc := 1017) (j := j396) (xs := xs) (ax_dd KL_law_27 20 rfl) hxs b397 ?_
                                                        refine ax_aload_n (pc := 1018) (i := 0) (q := 0) (ax_dd KL_law_27 21 rfl) rfl rfl ?_
                                                        refine ax_iload_n (pc := 1019) (i := 3) (q := 3) (ax_dd KL_law_27 22 rfl) rfl rfl ?_
                                                        refine ax_iconst (pc := 1020) (v := 3) (ax_dd KL_law_27 23 rfl) (by decide) ?_
                                                        refine ax_iadd (pc := 1021) (ax_dd KL_law_27 24 rfl) ?_
                                                        obtain ⟨j398, b399, h⟩ := ob_bind h
                                                        refine ax_scl (pc := 1022) (j := j398) (xs := xs) (ax_dd KL_law_28 0 rfl) hxs b399 ?_
                                                        refine ax_aload_n (pc := 1023) (i := 0) (q := 0) (ax_dd KL_law_28 1 rfl) rfl rfl ?_
                                                        refine ax_iload_n (pc := 1024) (i := 3) (q := 3) (ax_dd KL_law_28 2 rfl) rfl rfl ?_
                                                        refine ax_iconst (pc := 1025) (v := 4) (ax_dd KL_law_28 3 rfl) (by decide) ?_
                                                        refine ax_iadd (pc := 1026) (ax_dd KL_law_28 4 rfl) ?_
                                                        obtain ⟨j400, b401, h⟩ := ob_bind h
                                                        refine ax_scl (pc := 1027) (j := j400) (xs := xs) (ax_dd KL_law_28 5 rfl) hxs b401 ?_
                                                        obtain ⟨v402, μ404, b403, h⟩ := ob_bind2 h
                                                        refine ax_kV (pc := 1028) (ci := 10) (k := 51) (As := [.int (xs j394), .int (xs j396), .int (xs j398), .int (xs j400)]) (rest := [.int v391]) (st1 := [.int v402, .int v391]) (μ1 := μ404) (ax_dd KL_law_28 6 rfl) (c_X10_crowds (fun _ _ h => h) b403) kV_L_120 e_X10_crowds rfl cl_X10 (by decide) rfl rfl (by decide) (by decide) (Nat.le_of_ble_eq_true rfl) rfl ?_
                                                        by_cases c405 : v391 = v402
                                                        · rw [if_pos c405] at h
                                                          refine ax_icmp_eq_t (pc := 1031) (tgt := 1504) (ax_dd KL_law_28 7 rfl) (by decide) c405 ?_
                                                          refine ax_iinc (pc := 1504) (q := 3) (v := (x3 + 7)) (lv' := [(3, .int (x3 + 7)), (0, .ref G.2.2.2.2.2.1), (1, .ref (G.1 + 0)), (2, .ref (G.1 + 51))]) (ax_dd KL_law_44 6 rfl) rfl rfl (by decide) rfl ?_
                                                          refine ax_goto (pc := 1507) (tgt := 18) (ax_dd KL_law_44 7 rfl) (by decide) ?_
                                                          refine ax_sub (lv' := [(0, .ref G.2.2.2.2.2.1), (1, .ref (G.1 + 0)), (2, .ref (G.1 + 51)), (3, .int (x3 + 7))]) [1, 2, 3, 0] rfl ?_
                                                          exact ih _ _ _ h
                                                        · rw [if_neg c405] at h
                                                          refine ax_icmp_eq_f (pc := 1031) (tgt := 1504) (ax_dd KL_law_28 7 rfl) (by decide) c405 ?_
                                                          refine ax_iconst (pc := 1034) (v := 0) (ax_dd KL_law_28 8 rfl) (by decide) ?_
                                                          obtain rfl := Option.some.inj h
                                                          exact ax_ireti (pc := 1035) (ax_dd KL_law_28 9 rfl) ⟨_, rfl, rfl⟩ rfl
                                                      · rw [if_neg c382] at h
                                                        by_cases c406 : ((xs j2) &&& 63) = 25
                                                        · rw [if_pos c406] at h
                                                          refine ax_tab (pc := 33) (off := 1003) (tgt := 1036) (ax_dd KL_law_0 21 rfl) (by rw [c406]; decide) (by rw [c406]; decide) (by rw [c406]; rfl) (by decide) ?_
                                                          refine ax_aload_n (pc := 1036) (i := 1) (q := 1) (ax_dd KL_law_28 10 rfl) rfl rfl ?_
                                                          refine ax_aload_n (pc := 1037) (i := 0) (q := 0) (ax_dd KL_law_28 11 rfl) rfl rfl ?_
                                                          refine ax_iload_n (pc := 1038) (i := 3) (q := 3) (ax_dd KL_law_28 12 rfl) rfl rfl ?_
                                                          refine ax_iconst (pc := 1039) (v := 1) (ax_dd KL_law_28 13 rfl) (by decide) ?_
                                                          refine ax_iadd (pc := 1040) (ax_dd KL_law_28 14 rfl) ?_
                                                          obtain ⟨j407, b408, h⟩ := ob_bind h
                                                          refine ax_scl (pc := 1041) (j := j407) (xs := xs) (ax_dd KL_law_28 15 rfl) hxs b408 ?_
                                                          obtain ⟨v409, μ411, b410, h⟩ := ob_bind2 h
                                                          refine ax_kV (pc := 1042) (ci := 9) (k := 0) (As := [.int (xs j407)]) (rest := []) (st1 := [.long v409]) (μ1 := μ411) (ax_dd KL_law_28 16 rfl) (c_X9_where shp_F b410) kV_L_121 e_X9_where rfl cl_X9 (by decide) rfl rfl (by decide) (by decide) (Nat.le_of_ble_eq_true rfl) rfl ?_
                                                          refine ax_aload_n (pc := 1045) (i := 2) (q := 2) (ax_dd KL_law_28 17 rfl) rfl rfl ?_
                                                          refine ax_aload_n (pc := 1046) (i := 0) (q := 0) (ax_dd KL_law_28 18 rfl) rfl rfl ?_
                                                          refine ax_iload_n (pc := 1047) (i := 3) (q := 3) (ax_dd KL_law_28 19 rfl) rfl rfl ?_
                                                          refine ax_iconst (pc := 1048) (v := 1) (ax_dd KL_law_28 20 rfl) (by decide) ?_
                                                          refine ax_iadd (pc := 1049) (ax_dd KL_law_28 21 rfl) ?_
                                                          obtain ⟨j412, b413, h⟩ := ob_bind h
                                                          refine ax_scl (pc := 1050) (j := j412) (xs := xs) (ax_dd KL_law_28 22 rfl) hxs b413 ?_
                                                          obtain ⟨v414, μ416, b415, h⟩ := ob_bind2 h
                                                          refine ax_kV (pc := 1051) (ci := 10) (k := 51) (As := [.int (xs j412)]) (rest := [.long v409]) (st1 := [.long v414, .long v409]) (μ1 := μ416) (ax_dd KL_law_28 23 rfl) (c_X10_where (fun _ _ h => h) b415) kV_L_124 e_X10_where rfl cl_X10 (by decide) rfl rfl (by decide) (by decide) (Nat.le_of_ble_eq_true rfl) rfl ?_
                                                          refine ax_lcmp (pc := 1054) (ax_dd KL_law_28 24 rfl) ?_
                                                          by_cases c417 : (lg_cmp v409 v414) = 0
                                                          · rw [if_pos c417] at h
                                                            refine ax_if_eq_t (pc := 1055) (tgt := 1504) (ax_dd KL_law_29 0 rfl) (by decide) c417 ?_
                                                            refine ax_iinc (pc := 1504) (q := 3) (v := (x3 + 7)) (lv' := [(3, .int (x3 + 7)), (0, .ref G.2.2.2.2.2.1), (1, .ref (G.1 + 0)), (2, .ref (G.1 + 51))]) (ax_dd KL_law_44 6 rfl) rfl rfl (by decide) rfl ?_
                                                            refine ax_goto (pc := 1507) (tgt := 18) (ax_dd KL_law_44 7 rfl) (by decide) ?_
                                                            refine ax_sub (lv' := [(0, .ref G.2.2.2.2.2.1), (1, .ref (G.1 + 0)), (2, .ref (G.1 + 51)), (3, .int (x3 + 7))]) [1, 2, 3, 0] rfl ?_
                                                            exact ih _ _ _ h
                                                          · rw [if_neg c417] at h
                                                            refine ax_if_eq_f (pc := 1055) (tgt := 1504) (ax_dd KL_law_29 0 rfl) (by decide) c417 ?_
                                                            refine ax_iconst (pc := 1058) (v := 0) (ax_dd KL_law_29 1 rfl) (by decide) ?_
                                                            obtain rfl := Option.some.inj h
                                                            exact ax_ireti (pc := 1059) (ax_dd KL_law_29 2 rfl) ⟨_, rfl, rfl⟩ rfl
                                                        · rw [if_neg c406] at h
                                                          by_cases c418 : ((xs j2) &&& 63) = 26
                                                          · rw [if_pos c418] at h
                                                            refine ax_tab (pc := 33) (off := 1027) (tgt := 1060) (ax_dd KL_law_0 21 rfl) (by rw [c418]; decide) (by rw [c418]; decide) (by rw [c418]; rfl) (by decide) ?_
                                                            refine ax_aload_n (pc := 1060) (i := 1) (q := 1) (ax_dd KL_law_29 3 rfl) rfl rfl ?_
                                                            refine ax_aload_n (pc := 1061) (i := 0) (q := 0) (ax_dd KL_law_29 4 rfl) rfl rfl ?_
                                                            refine ax_iload_n (pc := 1062) (i := 3) (q := 3) (ax_dd KL_law_29 5 rfl) rfl rfl ?_
                                                            refine ax_iconst (pc := 1063) (v := 1) (ax_dd KL_law_29 6 rfl) (by decide) ?_
                                                            refine ax_iadd (pc := 1064) (ax_dd KL_law_29 7 rfl) ?_
                                                            obtain ⟨j419, b420, h⟩ := ob_bind h
                                                            refine ax_scl (pc := 1065) (j := j419) (xs := xs) (ax_dd KL_law_29 8 rfl) hxs b420 ?_
                                                            refine ax_aload_n (pc := 1066) (i := 0) (q := 0) (ax_dd KL_law_29 9 rfl) rfl rfl ?_
                                                            refine ax_iload_n (pc := 1067) (i := 3) (q := 3) (ax_dd KL_law_29 10 rfl) rfl rfl ?_
                                                            refine ax_iconst (pc := 1068) (v := 2) (ax_dd KL_law_29 11 rfl) (by decide) ?_
                                                            refine ax_iadd (pc := 1069) (ax_dd KL_law_29 12 rfl) ?_
                                                            obtain ⟨j421, b422, h⟩ := ob_bind h
                                                            refine ax_scl (pc := 1070) (j := j421) (xs := xs) (ax_dd KL_law_29 13 rfl) hxs b422 ?_
                                                            obtain ⟨v423, μ425, b424, h⟩ := ob_bind2 h
                                                            refine ax_kV (pc := 1071) (ci := 9) (k := 0) (As := [.int (xs j419), .int (xs j421)]) (rest := []) (st1 := [.int v423]) (μ1 := μ425) (ax_dd KL_law_29 14 rfl) (c_X9_laws shp_F b424) kV_L_125 e_X9_laws rfl cl_X9 (by decide) rfl rfl (by decide) (by decide) (Nat.le_of_ble_eq_true rfl) rfl ?_
                                                            refine ax_aload_n (pc := 1074) (i := 2) (q := 2) (ax_dd KL_law_29 15 rfl) rfl rfl ?_
                                                            refine ax_aload_n (pc := 1075) (i := 0) (q := 0) (ax_dd KL_law_29 16 rfl) rfl rfl ?_
                                                            refine ax_iload_n (pc := 1076) (i := 3) (q := 3) (ax_dd KL_law_29 17 rfl) rfl rfl ?_
                                                            refine ax_iconst (pc := 1077) (v := 1) (ax_dd KL_law_29 18 rfl) (by decide) ?_
                                                            refine ax_iadd (pc := 1078) (ax_dd KL_law_29 19 rfl) ?_
                                                            obtain ⟨j426, b427, h⟩ := ob_bind h
                                                            refine ax_scl (pc := 1079) (j := j426) (xs := xs) (ax_dd KL_law_29 20 rfl) hxs b427 ?_
                                                            refine ax_aload_n (pc := 1080) (i := 0) (q := 0) (ax_dd KL_law_29 21 rfl) rfl rfl ?_
                                                            refine ax_iload_n (pc := 1081) (i := 3) (q := 3) (ax_dd KL_law_29 22 rfl) rfl rfl ?_
                                                            refine ax_iconst (pc := 1082) (v := 2) (ax_dd KL_law_29 23 rfl) (by decide) ?_
                                                            refine ax_iadd (pc := 1083) (ax_dd KL_law_29 24 rfl) ?_
                                                            obtain ⟨j428, b429, h⟩ := ob_bind h
                                                            refine ax_scl (pc := 1084) (j := j428) (xs := xs) (ax_dd KL_law_30 0 rfl) hxs b429 ?_
                                                            obtain ⟨v430, μ432, b431, h⟩ := ob_bind2 h
                                                            refine ax_kV (pc := 1085) (ci := 10) (k := 51) (As := [.int (xs j426), .int (xs j428)]) (rest := [.int v423]) (st1 := [.int v430, .int v423]) (μ1 := μ432) (ax_dd KL_law_30 1 rfl) (c_X10_laws (fun _ _ h => h) b431) kV_L_128 e_X10_laws rfl cl_X10 (by decide) rfl rfl (by decide) (by decide) (Nat.le_of_ble_eq_true rfl) rfl ?_
                                                            by_cases c433 : v423 = v430
                                                            · rw [if_pos c433] at h
                                                              refine ax_icmp_eq_t (pc := 1088) (tgt := 1504) (ax_dd KL_law_30 2 rfl) (by decide) c433 ?_
                                                              refine ax_iinc (pc := 1504) (q := 3) (v := (x3 + 7)) (lv' := [(3, .int (x3 + 7)), (0, .ref G.2.2.2.2.2.1), (1, .ref (G.1 + 0)), (2, .ref (G.1 + 51))]) (ax_dd KL_law_44 6 rfl) rfl rfl (by decide) rfl ?_
                                                              refine ax_goto (pc := 1507) (tgt := 18) (ax_dd KL_law_44 7 rfl) (by decide) ?_
                                                              refine ax_sub (lv' := [(0, .ref G.2.2.2.2.2.1), (1, .ref (G.1 + 0)), (2, .ref (G.1 + 51)), (3, .int (x3 + 7))]) [1, 2, 3, 0] rfl ?_
                                                              exact ih _ _ _ h
                                                            · rw [if_neg c433] at h
                                                              refine ax_icmp_eq_f (pc := 1088) (tgt := 1504) (ax_dd KL_law_30 2 rfl) (by decide) c433 ?_
                                                              refine ax_iconst (pc := 1091) (v := 0) (ax_dd KL_law_30 3 rfl) (by decide) ?_
                                                              obtain rfl := Option.some.inj h
                                                              exact ax_ireti (pc := 1092) (ax_dd KL_law_30 4 rfl) ⟨_, rfl, rfl⟩ rfl
                                                          · rw [if_neg c418] at h
                                                            by_cases c434 : ((xs j2) &&& 63) = 27
                                                            · rw [if_pos c434] at h
                                                              refine ax_tab (pc := 33) (off := 1060) (tgt := 1093) (ax_dd KL_law_0 21 rfl) (by rw [c434]; decide) (by rw [c434]; decide) (by rw [c434]; rfl) (by decide) ?_
                                                              refine ax_aload_n (pc := 1093) (i := 1) (q := 1) (ax_dd KL_law_30 5 rfl) rfl rfl ?_
                                                              refine ax_aload_n (pc := 1094) (i := 0) (q := 0) (ax_dd KL_law_30 6 rfl) rfl rfl ?_
                                                              refine ax_iload_n (pc := 1095) (i := 3) (q := 3) (ax_dd KL_law_30 7 rfl) rfl rfl ?_
                                                              refine ax_iconst (pc := 1096) (v := 1) (ax_dd KL_law_30 8 rfl) (by decide) ?_
                                                              refine ax_iadd (pc := 1097) (ax_dd KL_law_30 9 rfl) ?_
                                                              obtain ⟨j435, b436, h⟩ := ob_bind h
                                                              refine ax_scl (pc := 1098) (j := j435) (xs := xs) (ax_dd KL_law_30 10 rfl) hxs b436 ?_
                                                              refine ax_aload_n (pc := 1099) (i := 0) (q := 0) (ax_dd KL_law_30 11 rfl) rfl rfl ?_
                                                              refine ax_iload_n (pc := 1100) (i := 3) (q := 3) (ax_dd KL_law_30 12 rfl) rfl rfl ?_
                                                              refine ax_iconst (pc := 1101) (v := 2) (ax_dd KL_law_30 13 rfl) (by decide) ?_
                                                              refine ax_iadd (pc := 1102) (ax_dd KL_law_30 14 rfl) ?_
                                                              obtain ⟨j437, b438, h⟩ := ob_bind h
                                                              refine ax_scl (pc := 1103) (j := j437) (xs := xs) (ax_dd KL_law_30 15 rfl) hxs b438 ?_
                                                              refine ax_aload_n (pc := 1104) (i := 0) (q := 0) (ax_dd KL_law_30 16 rfl) rfl rfl ?_
                                                              refine ax_iload_n (pc := 1105) (i := 3) (q := 3) (ax_dd KL_law_30 17 rfl) rfl rfl ?_
                                                              refine ax_iconst (pc := 1106) (v := 3) (ax_dd KL_law_30 18 rfl) (by decide) ?_
                                                              refine ax_iadd (pc := 1107) (ax_dd KL_law_30 19 rfl) ?_
                                                              obtain ⟨j439, b440, h⟩ := ob_bind h
                                                              refine ax_scl (pc := 1108) (j := j439) (xs := xs) (ax_dd KL_law_30 20 rfl) hxs b440 ?_
                                                              obtain ⟨v441, μ443, b442, h⟩ := ob_bind2 h
                                                              refine ax_kV (pc := 1109) (ci := 9) (k := 0) (As := [.int (xs j435), .int (xs j437), .int (xs j439)]) (rest := []) (st1 := [.int v441]) (μ1 := μ443) (ax_dd KL_law_30 21 rfl) (c_X9_film shp_F b442) kV_L_129 e_X9_film rfl cl_X9 (by decide) rfl rfl (by decide) (by decide) (Nat.le_of_ble_eq_true rfl) rfl ?_
                                                              refine ax_aload_n (pc := 1112) (i := 2) (q := 2) (ax_dd KL_law_30 22 rfl) rfl rfl ?_
                                                              refine ax_aload_n (pc := 1113) (i := 0) (q := 0) (ax_dd KL_law_30 23 rfl) rfl rfl ?_
                                                              refine ax_iload_n (pc := 1114) (i := 3) (q := 3) (ax_dd KL_law_30 24 rfl) rfl rfl ?_
                                                              refine ax_iconst (pc := 1115) (v := 1) (ax_dd KL_law_31 0 rfl) (by decide) ?_
                                                              refine ax_iadd (pc := 1116) (ax_dd KL_law_31 1 rfl) ?_
                                                              obtain ⟨j444, b445, h⟩ := ob_bind h
                                                              refine ax_scl (pc := 1117) (j := j444) (xs := xs) (ax_dd KL_law_31 2 rfl) hxs b445 ?_
                                                              refine ax_aload_n (pc := 1118) (i := 0) (q := 0) (ax_dd KL_law_31 3 rfl) rfl rfl ?_
                                                              refine ax_iload_n (pc := 1119) (i := 3) (q := 3) (ax_dd KL_law_31 4 rfl) rfl rfl ?_
                                                              refine ax_iconst (pc := 1120) (v := 2) (ax_dd KL_law_31 5 rfl) (by decide) ?_
                                                              refine ax_iadd (pc := 1121) (ax_dd KL_law_31 6 rfl) ?_
                                                              obtain ⟨j446, b447, h⟩ := ob_bind h
                                                              refine ax_scl (pc := 1122) (j := j446) (xs := xs) (ax_dd KL_law_31 7 rfl) hxs b447 ?_
                                                              refine ax_aload_n (pc := 1123) (i := 0) (q := 0) (ax_dd KL_law_31 8 rfl) rfl rfl ?_
                                                              refine ax_iload_n (pc := 1124) (i := 3) (q := 3) (ax_dd KL_law_31 9 rfl) rfl rfl ?_
                                                              refine ax_iconst (pc := 1125) (v := 3) (ax_dd KL_law_31 10 rfl) (by decide) ?_
                                                              refine ax_iadd (pc := 1126) (ax_dd KL_law_31 11 rfl) ?_
                                                              obtain ⟨j448, b449, h⟩ := ob_bind h
                                                              refine ax_scl (pc := 1127) (j := j448) (xs := xs) (ax_dd KL_law_31 12 rfl) hxs b449 ?_
                                                              obtain ⟨v450, μ452, b451, h⟩ := ob_bind2 h
                                                              refine ax_kV (pc := 1128) (ci := 10) (k := 51) (As := [.int (xs j444), .int (xs j446), .int (xs j448)]) (rest := [.int v441]) (st1 := [.int v450, .int v441]) (μ1 := μ452) (ax_dd KL_law_31 13 rfl) (c_X10_film (fun _ _ h => h) b451) kV_L_132 e_X10_film rfl cl_X10 (by decide) rfl rfl (by decide) (by decide) (Nat.le_of_ble_eq_true rfl) rfl ?_
                                                              by_cases c453 : v441 = v450
                                                              · rw [if_pos c453] at h
                                                                refine ax_icmp_eq_t (pc := 1131) (tgt := 1504) (ax_dd KL_law_31 14 rfl) (by decide) c453 ?_
                                                                refine ax_iinc (pc := 1504) (q := 3) (v := (x3 + 7)) (lv' := [(3, .int (x3 + 7)), (0, .ref G.2.2.2.2.2.1), (1, .ref (G.1 + 0)), (2, .ref (G.1 + 51))]) (ax_dd KL_law_44 6 rfl) rfl rfl (by decide) rfl ?_
                                                                refine ax_goto (pc := 1507) (tgt := 18) (ax_dd KL_law_44 7 rfl) (by decide) ?_
                                                                refine ax_sub (lv' := [(0, .ref G.2.2.2.2.2.1), (1, .ref (G.1 + 0)), (2, .ref (G.1 + 51)), (3, .int (x3 + 7))]) [1, 2, 3, 0] rfl ?_
                                                                exact ih _ _ _ h
                                                              · rw [if_neg c453] at h
                                                                refine ax_icmp_eq_f (pc := 1131) (tgt := 1504) (ax_dd KL_law_31 14 rfl) (by decide) c453 ?_
                                                                refine ax_iconst (pc := 1134) (v := 0) (ax_dd KL_law_31 15 rfl) (by decide) ?_
                                                                obtain rfl := Option.some.inj h
                                                                exact ax_ireti (pc := 1135) (ax_dd KL_law_31 16 rfl) ⟨_, rfl, rfl⟩ rfl
                                                            · rw [if_neg c434] at h
                                                              by_cases c454 : ((xs j2) &&& 63) = 28
                                                              · rw [if_pos c454] at h
                                                                refine ax_tab (pc := 33) (off := 1103) (tgt := 1136) (ax_dd KL_law_0 21 rfl) (by rw [c454]; decide) (by rw [c454]; decide) (by rw [c454]; rfl) (by decide) ?_
                                                                refine ax_aload_n (pc := 1136) (i := 1) (q := 1) (ax_dd KL_law_31 17 rfl) rfl rfl ?_
                                                                refine ax_aload_n (pc := 1137) (i := 0) (q := 0) (ax_dd KL_law_31 18 rfl) rfl rfl ?_
                                                                refine ax_iload_n (pc := 1138) (i := 3) (q := 3) (ax_dd KL_law_31 19 rfl) rfl rfl ?_
                                                                refine ax_iconst (pc := 1139) (v := 1) (ax_dd KL_law_31 20 rfl) (by decide) ?_
                                                                refine ax_iadd (pc := 1140) (ax_dd KL_law_31 21 rfl) ?_
                                                                obtain ⟨j455, b456, h⟩ := ob_bind h
                                                                refine ax_scl (pc := 1141) (j := j455) (xs := xs) (ax_dd KL_law_31 22 rfl) hxs b456 ?_
                                                                refine ax_aload_n (pc := 1142) (i := 0) (q := 0) (ax_dd KL_law_31 23 rfl) rfl rfl ?_
                                                                refine ax_iload_n (pc := 1143) (i := 3) (q := 3) (ax_dd KL_law_31 24 rfl) rfl rfl ?_
                                                                refine ax_iconst (pc := 1144) (v := 2) (ax_dd KL_law_32 0 rfl) (by decide) ?_
                                                                refine ax_iadd (pc := 1145) (ax_dd KL_law_32 1 rfl) ?_
                                                                obtain ⟨j457, b458, h⟩ := ob_bind h
                                                                refine ax_scl (pc := 1146) (j := j457) (xs := xs) (ax_dd KL_law_32 2 rfl) hxs b458 ?_
                                                                refine ax_aload_n (pc := 1147) (i := 0) (q := 0) (ax_dd KL_law_32 3 rfl) rfl rfl ?_
                                                                refine ax_iload_n (pc := 1148) (i := 3) (q := 3) (ax_dd KL_law_32 4 rfl) rfl rfl ?_
                                                                refine ax_iconst (pc := 1149) (v := 3) (ax_dd KL_law_32 5 rfl) (by decide) ?_
                                                                refine ax_iadd (pc := 1150) (ax_dd KL_law_32 6 rfl) ?_
                                                                obtain ⟨j459, b460, h⟩ := ob_bind h
                                                                refine ax_scl (pc := 1151) (j := j459) (xs := xs) (ax_dd KL_law_32 7 rfl) hxs b460 ?_
                                                                obtain ⟨v461, μ463, b462, h⟩ := ob_bind2 h
                                                                refine ax_kV (pc := 1152) (ci := 9) (k := 0) (As := [.int (xs j455), .int (xs j457), .int (xs j459)]) (rest := []) (st1 := [.int v461]) (μ1 := μ463) (ax_dd KL_law_32 8 rfl) (c_X9_drawn shp_F b462) kV_L_133 e_X9_drawn rfl cl_X9 (by decide) rfl rfl (by decide) (by decide) (Nat.le_of_ble_eq_true rfl) rfl ?_
                                                                refine ax_aload_n (pc := 1155) (i := 2) (q := 2) (ax_dd KL_law_32 9 rfl) rfl rfl ?_
                                                                refine ax_aload_n (pc := 1156) (i := 0) (q := 0) (ax_dd KL_law_32 10 rfl) rfl rfl ?_
                                                                refine ax_iload_n (pc := 1157) (i := 3) (q := 3) (ax_dd KL_law_32 11 rfl) rfl rfl ?_
                                                                refine ax_iconst (pc := 1158) (v := 1) (ax_dd KL_law_32 12 rfl) (by decide) ?_
                                                                refine ax_iadd (pc := 1159) (ax_dd KL_law_32 13 rfl) ?_
                                                                obtain ⟨j464, b465, h⟩ := ob_bind h
                                                                refine ax_scl (pc := 1160) (j := j464) (xs := xs) (ax_dd KL_law_32 14 rfl) hxs b465 ?_
                                                                refine ax_aload_n (pc := 1161) (i := 0) (q := 0) (ax_dd KL_law_32 15 rfl) rfl rfl ?_
                                                                refine ax_iload_n (pc := 1162) (i := 3) (q := 3) (ax_dd KL_law_32 16 rfl) rfl rfl ?_
                                                                refine ax_iconst (pc := 1163) (v := 2) (ax_dd KL_law_32 17 rfl) (by decide) ?_
                                                                refine ax_iadd (pc := 1164) (ax_dd KL_law_32 18 rfl) ?_
                                                                obtain ⟨j466, b467, h⟩ := ob_bind h
                                                                refine ax_scl (pc := 1165) (j := j466) (xs := xs) (ax_dd KL_law_32 19 rfl) hxs b467 ?_
                                                                refine ax_aload_n (pc := 1166) (i := 0) (q := 0) (ax_dd KL_law_32 20 rfl) rfl rfl ?_
                                                                refine ax_iload_n (pc := 1167) (i := 3) (q := 3) (ax_dd KL_law_32 21 rfl) rfl rfl ?_
                                                                refine ax_iconst (pc := 1168) (v := 3) (ax_dd KL_law_32 22 rfl) (by decide) ?_
                                                                refine ax_iadd (pc := 1169) (ax_dd KL_law_32 23 rfl) ?_
                                                                obtain ⟨j468, b469, h⟩ := ob_bind h
                                                                refine ax_scl (pc := 1170) (j := j468) (xs := xs) (ax_dd KL_law_32 24 rfl) hxs b469 ?_
                                                                obtain ⟨v470, μ472, b471, h⟩ := ob_bind2 h
                                                                refine ax_kV (pc := 1171) (ci := 10) (k := 51) (As := [.int (xs j464), .int (xs j466), .int (xs j468)]) (rest := [.int v461]) (st1 := [.int v470, .int v461]) (μ1 := μ472) (ax_dd KL_law_33 0 rfl) (c_X10_drawn (fun _ _ h => h) b471) kV_L_136 e_X10_drawn rfl cl_X10 (by decide) rfl rfl (by decide) (by decide) (Nat.le_of_ble_eq_true rfl) rfl ?_
                                                                by_cases c473 : v461 = v470
                                                                · rw [if_pos c473] at h
                                                                  refine ax_icmp_eq_t (pc := 1174) (tgt := 1504) (ax_dd KL_law_33 1 rfl) (by decide) c473 ?_
                                                                  refine ax_iinc (pc := 1504) (q := 3) (v := (x3 + 7)) (lv' := [(3, .int (x3 + 7)), (0, .ref G.2.2.2.2.2.1), (1, .ref (G.1 + 0)), (2, .ref (G.1 + 51))]) (ax_dd KL_law_44 6 rfl) rfl rfl (by decide) rfl ?_
                                                                  refine ax_goto (pc := 1507) (tgt := 18) (ax_dd KL_law_44 7 rfl) (by decide) ?_
                                                                  refine ax_sub (lv' := [(0, .ref G.2.2.2.2.2.1), (1, .ref (G.1 + 0)), (2, .ref (G.1 + 51)), (3, .int (x3 + 7))]) [1, 2, 3, 0] rfl ?_
                                                                  exact ih _ _ _ h
                                                                · rw [if_neg c473] at h
                                                                  refine ax_icmp_eq_f (pc := 1174) (tgt := 1504) (ax_dd KL_law_33 1 rfl) (by decide) c473 ?_
                                                                  refine ax_iconst (pc := 1177) (v := 0) (ax_dd KL_law_33 2 rfl) (by decide) ?_
                                                                  obtain rfl := Option.some.inj h
                                                                  exact ax_ireti (pc := 1178) (ax_dd KL_law_33 3 rfl) ⟨_, rfl, rfl⟩ rfl
                                                              · rw [if_neg c454] at h
                                                                by_cases c474 : ((xs j2) &&& 63) = 29
                                                                · rw [if_pos c474] at h
                                                                  refine ax_tab (pc := 33) (off := 1146) (tgt := 1179) (ax_dd KL_law_0 21 rfl) (by rw [c474]; decide) (by rw [c474]; decide) (by rw [c474]; rfl) (by decide) ?_
                                                                  refine ax_aload_n (pc := 1179) (i := 1) (q := 1) (ax_dd KL_law_33 4 rfl) rfl rfl ?_
                                                                  refine ax_aload_n (pc := 1180) (i := 0) (q := 0) (ax_dd KL_law_33 5 rfl) rfl rfl ?_
                                                                  refine ax_iload_n (pc := 1181) (i := 3) (q := 3) (ax_dd KL_law_33 6 rfl) rfl rfl ?_
                                                                  refine ax_iconst (pc := 1182) (v := 1) (ax_dd KL_law_33 7 rfl) (by decide) ?_
                                                                  refine ax_iadd (pc := 1183) (ax_dd KL_law_33 8 rfl) ?_
                                                                  obtain ⟨j475, b476, h⟩ := ob_bind h
                                                                  refine ax_scl (pc := 1184) (j := j475) (xs := xs) (ax_dd KL_law_33 9 rfl) hxs b476 ?_
                                                                  refine ax_aload_n (pc := 1185) (i := 0) (q := 0) (ax_dd KL_law_33 10 rfl) rfl rfl ?_
                                                                  refine ax_iload_n (pc := 1186) (i := 3) (q := 3) (ax_dd KL_law_33 11 rfl) rfl rfl ?_
                                                                  refine ax_iconst (pc := 1187) (v := 2) (ax_dd KL_law_33 12 rfl) (by decide) ?_
                                                                  refine ax_iadd (pc := 1188) (ax_dd KL_law_33 13 rfl) ?_
                                                                  obtain ⟨j477, b478, h⟩ := ob_bind h
                                                                  refine ax_scl (pc := 1189) (j := j477) (xs := xs) (ax_dd KL_law_33 14 rfl) hxs b478 ?_
                                                                  refine ax_aload_n (pc := 1190) (i := 0) (q := 0) (ax_dd KL_law_33 15 rfl) rfl rfl ?_
                                                                  refine ax_iload_n (pc := 1191) (i := 3) (q := 3) (ax_dd KL_law_33 16 rfl) rfl rfl ?_
                                                                  refine ax_iconst (pc := 1192) (v := 3) (ax_dd KL_law_33 17 rfl) (by decide) ?_
                                                                  refine ax_iadd (pc := 1193) (ax_dd KL_law_33 18 rfl) ?_
                                                                  obtain ⟨j479, b480, h⟩ := ob_bind h
                                                                  refine ax_scl (pc := 1194) (j := j479) (xs := xs) (ax_dd KL_law_33 19 rfl) hxs b480 ?_
                                                                  refine ax_aload_n (pc := 1195) (i := 0) (q := 0) (ax_dd KL_law_33 20 rfl) rfl rfl ?_
                                                                  refine ax_iload_n (pc := 1196) (i := 3) (q := 3) (ax_dd KL_law_33 21 rfl) rfl rfl ?_
                                                                  refine ax_iconst (pc := 1197) (v := 4) (ax_dd KL_law_33 22 rfl) (by decide) ?_
                                                                  refine ax_iadd (pc := 1198) (ax_dd KL_law_33 23 rfl) ?_
                                                                  obtain ⟨j481, b482, h⟩ := ob_bind h
                                                                  refine ax_scl (pc := 1199) (j := j481) (xs := xs) (ax_dd KL_law_33 24 rfl) hxs b482 ?_
                                                                  refine ax_aload_n (pc := 1200) (i := 0) (q := 0) (ax_dd KL_law_34 0 rfl) rfl rfl ?_
                                                                  refine ax_iload_n (pc := 1201) (i := 3) (q := 3) (ax_dd KL_law_34 1 rfl) rfl rfl ?_
                                                                  refine ax_iconst (pc := 1202) (v := 5) (ax_dd KL_law_34 2 rfl) (by decide) ?_
                                                                  refine ax_iadd (pc := 1203) (ax_dd KL_law_34 3 rfl) ?_
                                                                  obtain ⟨j483, b484, h⟩ := ob_bind h
                                                                  refine ax_scl (pc := 1204) (j := j483) (xs := xs) (ax_dd KL_law_34 4 rfl) hxs b484 ?_
                                                                  obtain ⟨v485, μ487, b486, h⟩ := ob_bind2 h
                                                                  refine ax_kV (pc := 1205) (ci := 9) (k := 0) (As := [.int (xs j475), .int (xs j477), .int (xs j479), .int (xs j481), .int (xs j483)]) (rest := []) (st1 := [.long v485]) (μ1 := μ487) (ax_dd KL_law_34 5 rfl) (c_X9_odds shp_F b486) kV_L_137 e_X9_odds rfl cl_X9 (by decide) rfl rfl (by decide) (by decide) (Nat.le_of_ble_eq_true rfl) rfl ?_
                                                                  refine ax_aload_n (pc := 1208) (i := 2) (q := 2) (ax_dd KL_law_34 6 rfl) rfl rfl ?_
                                                                  refine ax_aload_n (pc := 1209) (i := 0) (q := 0) (ax_dd KL_law_34 7 rfl) rfl rfl ?_
                                                                  refine ax_iload_n (pc := 1210) (i := 3) (q := 3) (ax_dd KL_law_34 8 rfl) rfl rfl ?_
                                                                  refine ax_iconst (pc := 1211) (v := 1) (ax_dd KL_law_34 9 rfl) (by decide) ?_
                                                                  refine ax_iadd (pc := 1212) (ax_dd KL_law_34 10 rfl) ?_
                                                                  obtain ⟨j488, b489, h⟩ := ob_bind h
                                                                  refine ax_scl (pc := 1213) (j := j488) (xs := xs) (ax_dd KL_law_34 11 rfl) hxs b489 ?_
                                                                  refine ax_aload_n (pc := 1214) (i := 0) (q := 0) (ax_dd KL_law_34 12 rfl) rfl rfl ?_
                                                                  refine ax_iload_n (pc := 1215) (i := 3) (q := 3) (ax_dd KL_law_34 13 rfl) rfl rfl ?_
                                                                  refine ax_iconst (pc := 1216) (v := 2) (ax_dd KL_law_34 14 rfl) (by decide) ?_
                                                                  refine ax_iadd (pc := 1217) (ax_dd KL_law_34 15 rfl) ?_
                                                                  obtain ⟨j490, b491, h⟩ := ob_bind h
                                                                  refine ax_scl (pc := 1218) (j := j490) (xs := xs) (ax_dd KL_law_34 16 rfl) hxs b491 ?_
                                                                  refine ax_aload_n (pc := 1219) (i := 0) (q := 0) (ax_dd KL_law_34 17 rfl) rfl rfl ?_
                                                                  refine ax_iload_n (pc := 1220) (i := 3) (q := 3) (ax_dd KL_law_34 18 rfl) rfl rfl ?_
                                                                  refine ax_iconst (pc := 1221) (v := 3) (ax_dd KL_law_34 19 rfl) (by decide) ?_
                                                                  refine ax_iadd (pc := 1222) (ax_dd KL_law_34 20 rfl) ?_
                                                                  obtain ⟨j492, b493, h⟩ := ob_bind h
                                                                  refine ax_scl (pc := 1223) (j := j492) (xs := xs) (ax_dd KL_law_34 21 rfl) hxs b493 ?_
                                                                  refine ax_aload_n (pc := 1224) (i := 0) (q := 0) (ax_dd KL_law_34 22 rfl) rfl rfl ?_
                                                                  refine ax_iload_n (pc := 1225) (i := 3) (q := 3) (ax_dd KL_law_34 23 rfl) rfl rfl ?_
                                                                  refine ax_iconst (pc := 1226) (v := 4) (ax_dd KL_law_34 24 rfl) (by decide) ?_
                                                                  refine ax_iadd (pc := 1227) (ax_dd KL_law_35 0 rfl) ?_
                                                                  obtain ⟨j494, b495, h⟩ := ob_bind h
                                                                  refine ax_scl (pc := 1228) (j := j494) (xs := xs) (ax_dd KL_law_35 1 rfl) hxs b495 ?_
                                                                  refine ax_aload_n (pc := 1229) (i := 0) (q := 0) (ax_dd KL_law_35 2 rfl) rfl rfl ?_
                                                                  refine ax_iload_n (pc := 1230) (i := 3) (q := 3) (ax_dd KL_law_35 3 rfl) rfl rfl ?_
                                                                  refine ax_iconst (pc := 1231) (v := 5) (ax_dd KL_law_35 4 rfl) (by decide) ?_
                                                                  refine ax_iadd (pc := 1232) (ax_dd KL_law_35 5 rfl) ?_
                                                                  obtain ⟨j496, b497, h⟩ := ob_bind h
                                                                  refine ax_scl (pc := 1233) (j := j496) (xs := xs) (ax_dd KL_law_35 6 rfl) hxs b497 ?_
                                                                  obtain ⟨v498, μ500, b499, h⟩ := ob_bind2 h
                                                                  refine ax_kV (pc := 1234) (ci := 10) (k := 51) (As := [.int (xs j488), .int (xs j490), .int (xs j492), .int (xs j494), .int (xs j496)]) (rest := [.long v485]) (st1 := [.long v498, .long v485]) (μ1 := μ500) (ax_dd KL_law_35 7 rfl) (c_X10_odds (fun _ _ h => h) b499) kV_L_141 e_X10_odds rfl cl_X10 (by decide) rfl rfl (by decide) (by decide) (Nat.le_of_ble_eq_true rfl) rfl ?_
                                                                  refine ax_lcmp (pc := 1237) (ax_dd KL_law_35 8 rfl) ?_
                                                                  by_cases c501 : (lg_cmp v485 v498) = 0
                                                                  · rw [if_pos c501] at h
                                                                    refine ax_if_eq_t (pc := 1238) (tgt := 1504) (ax_dd KL_law_35 9 rfl) (by decide) c501 ?_
                                                                    refine ax_iinc (pc := 1504) (q := 3) (v := (x3 + 7)) (lv' := [(3, .int (x3 + 7)), (0, .ref G.2.2.2.2.2.1), (1, .ref (G.1 + 0)), (2, .ref (G.1 + 51))]) (ax_dd KL_law_44 6 rfl) rfl rfl (by decide) rfl ?_
                                                                    refine ax_goto (pc := 1507) (tgt := 18) (ax_dd KL_law_44 7 rfl) (by decide) ?_
                                                                    refine ax_sub (lv' := [(0, .ref G.2.2.2.2.2.1), (1, .ref (G.1 + 0)), (2, .ref (G.1 + 51)), (3, .int (x3 + 7))]) [1, 2, 3, 0] rfl ?_
                                                                    exact ih _ _ _ h
                                                                  · rw [if_neg c501] at h
                                                                    refine ax_if_eq_f (pc := 1238) (tgt := 1504) (ax_dd KL_law_35 9 rfl) (by decide) c501 ?_
                                                                    refine ax_iconst (pc := 1241) (v := 0) (ax_dd KL_law_35 10 rfl) (by decide) ?_
                                                                    obtain rfl := Option.some.inj h
                                                                    exact ax_ireti (pc := 1242) (ax_dd KL_law_35 11 rfl) ⟨_, rfl, rfl⟩ rfl
                                                                · rw [if_neg c474] at h
                                                                  by_cases c502 : ((xs j2) &&& 63) = 30
                                                                  · rw [if_pos c502] at h
                                                                    refine ax_tab (pc := 33) (off := 1210) (tgt := 1243) (ax_dd KL_law_0 21 rfl) (by rw [c502]; decide) (by rw [c502]; decide) (by rw [c502]; rfl) (by decide) ?_
                                                                    refine ax_aload_n (pc := 1243) (i := 1) (q := 1) (ax_dd KL_law_35 12 rfl) rfl rfl ?_
                                                                    obtain ⟨v503, μ505, b504, h⟩ := ob_bind2 h
                                                                    refine ax_kV (pc := 1244) (ci := 9) (k := 0) (As := []) (rest := []) (st1 := [.int v503]) (μ1 := μ505) (ax_dd KL_law_35 13 rfl) (c_X9_image shp_F b504) kV_L_142 e_X9_image rfl cl_X9 (by decide) rfl rfl (by decide) (by decide) (Nat.le_of_ble_eq_true rfl) rfl ?_
                                                                    refine ax_aload_n (pc := 1247) (i := 2) (q := 2) (ax_dd KL_law_35 14 rfl) rfl rfl ?_
                                                                    obtain ⟨v506, μ508, b507, h⟩ := ob_bind2 h
                                                                    refine ax_kV (pc := 1248) (ci := 10) (k := 51) (As := []) (rest := [.int v503]) (st1 := [.int v506, .int v503]) (μ1 := μ508) (ax_dd KL_law_35 15 rfl) (c_X10_image (fun _ _ h => h) b507) kV_L_145 e_X10_image rfl cl_X10 (by decide) rfl rfl (by decide) (by decide) (Nat.le_of_ble_eq_true rfl) rfl ?_
                                                                    by_cases c509 : v503 = v506
                                                                    · rw [if_pos c509] at h
                                                                      refine ax_icmp_eq_t (pc := 1251) (tgt := 1504) (ax_dd KL_law_35 16 rfl) (by decide) c509 ?_
                                                                      refine ax_iinc (pc := 1504) (q := 3) (v := (x3 + 7)) (lv' := [(3, .int (x3 + 7)), (0, .ref G.2.2.2.2.2.1), (1, .ref (G.1 + 0)), (2, .ref (G.1 + 51))]) (ax_dd KL_law_44 6 rfl) rfl rfl (by decide) rfl ?_
                                                                      refine ax_goto (pc := 1507) (tgt := 18) (ax_dd KL_law_44 7 rfl) (by decide) ?_
                                                                      refine ax_sub (lv' := [(0, .ref G.2.2.2.2.2.1), (1, .ref (G.1 + 0)), (2, .ref (G.1 + 51)), (3, .int (x3 + 7))]) [1, 2, 3, 0] rfl ?_
                                                                      exact ih _ _ _ h
                                                                    · rw [if_neg c509] at h
                                                                      refine ax_icmp_eq_f (pc := 1251) (tgt := 1504) (ax_dd KL_law_35 16 rfl) (by decide) c509 ?_
                                                                      refine ax_iconst (pc := 1254) (v := 0) (ax_dd KL_law_35 17 rfl) (by decide) ?_
                                                                      obtain rfl := Option.some.inj h
                                                                      exact ax_ireti (pc := 1255) (ax_dd KL_law_35 18 rfl) ⟨_, rfl, rfl⟩ rfl
                                                                  · rw [if_neg c502] at h
                                                                    by_cases c510 : ((xs j2) &&& 63) = 31
                                                                    · rw [if_pos c510] at h
                                                                      refine ax_tab (pc := 33) (off := 1223) (tgt := 1256) (ax_dd KL_law_0 21 rfl) (by rw [c510]; decide) (by rw [c510]; decide) (by rw [c510]; rfl) (by decide) ?_
                                                                      refine ax_aload_n (pc := 1256) (i := 1) (q := 1) (ax_dd KL_law_35 19 rfl) rfl rfl ?_
                                                                      obtain ⟨v511, μ513, b512, h⟩ := ob_bind2 h
                                                                      refine ax_kV (pc := 1257) (ci := 9) (k := 0) (As := []) (rest := []) (st1 := [.int v511]) (μ1 := μ513) (ax_dd KL_law_35 20 rfl) (c_X9_back shp_F b512) kV_L_146 e_X9_back rfl cl_X9 (by decide) rfl rfl (by decide) (by decide) (Nat.le_of_ble_eq_true rfl) rfl ?_
                                                                      refine ax_aload_n (pc := 1260) (i := 2) (q := 2) (ax_dd KL_law_35 21 rfl) rfl rfl ?_
                                                                      obtain ⟨v514, μ516, b515, h⟩ := ob_bind2 h
                                                                      refine ax_kV (pc := 1261) (ci := 10) (k := 51) (As := []) (rest := [.int v511]) (st1 := [.int v514, .int v511]) (μ1 := μ516) (ax_dd KL_law_35 22 rfl) (c_X10_back (fun _ _ h => h) b515) kV_L_149 e_X10_back rfl cl_X10 (by decide) rfl rfl (by decide) (by decide) (Nat.le_of_ble_eq_true rfl) rfl ?_
                                                                      by_cases c517 : v511 = v514
                                                                      · rw [if_pos c517] at h
                                                                        refine ax_icmp_eq_t (pc := 1264) (tgt := 1504) (ax_dd KL_law_35 23 rfl) (by decide) c517 ?_
                                                                        refine ax_iinc (pc := 1504) (q := 3) (v := (x3 + 7)) (lv' := [(3, .int (x3 + 7)), (0, .ref G.2.2.2.2.2.1), (1, .ref (G.1 + 0)), (2, .ref (G.1 + 51))]) (ax_dd KL_law_44 6 rfl) rfl rfl (by decide) rfl ?_
                                                                        refine ax_goto (pc := 1507) (tgt := 18) (ax_dd KL_law_44 7 rfl) (by decide) ?_
                                                                        refine ax_sub (lv' := [(0, .ref G.2.2.2.2.2.1), (1, .ref (G.1 + 0)), (2, .ref (G.1 + 51)), (3, .int (x3 + 7))]) [1, 2, 3, 0] rfl ?_
                                                                        exact ih _ _ _ h
                                                                      · rw [if_neg c517] at h
                                                                        refine ax_icmp_eq_f (pc := 1264) (tgt := 1504) (ax_dd KL_law_35 23 rfl) (by decide) c517 ?_
                                                                        refine ax_iconst (pc := 1267) (v := 0) (ax_dd KL_law_35 24 rfl) (by decide) ?_
                                                                        obtain rfl := Option.some.inj h
                                                                        exact ax_ireti (pc := 1268) (ax_dd KL_law_36 0 rfl) ⟨_, rfl, rfl⟩ rfl
                                                                    · rw [if_neg c510] at h
                                                                      by_cases c518 : ((xs j2) &&& 63) = 32
                                                                      · rw [if_pos c518] at h
                                                                        refine ax_tab (pc := 33) (off := 1236) (tgt := 1269) (ax_dd KL_law_0 21 rfl) (by rw [c518]; decide) (by rw [c518]; decide) (by rw [c518]; rfl) (by decide) ?_
                                                                        refine ax_aload_n (pc := 1269) (i := 1) (q := 1) (ax_dd KL_law_36 1 rfl) rfl rfl ?_
                                                                        refine ax_aload_n (pc := 1270) (i := 0) (q := 0) (ax_dd KL_law_36 2 rfl) rfl rfl ?_
                                                                        refine ax_iload_n (pc := 1271) (i := 3) (q := 3) (ax_dd KL_law_36 3 rfl) rfl rfl ?_
                                                                        refine ax_iconst (pc := 1272) (v := 1) (ax_dd KL_law_36 4 rfl) (by decide) ?_
                                                                        refine ax_iadd (pc := 1273) (ax_dd KL_law_36 5 rfl) ?_
                                                                        obtain ⟨j519, b520, h⟩ := ob_bind h
                                                                        refine ax_scl (pc := 1274) (j := j519) (xs := xs) (ax_dd KL_law_36 6 rfl) hxs b520 ?_
                                                                        refine ax_aload_n (pc := 1275) (i := 0) (q := 0) (ax_dd KL_law_36 7 rfl) rfl rfl ?_
                                                                        refine ax_iload_n (pc := 1276) (i := 3) (q := 3) (ax_dd KL_law_36 8 rfl) rfl rfl ?_
                                                                        refine ax_iconst (pc := 1277) (v := 2) (ax_dd KL_law_36 9 rfl) (by decide) ?_
                                                                        refine ax_iadd (pc := 1278) (ax_dd KL_law_36 10 rfl) ?_
                                                                        obtain ⟨j521, b522, h⟩ := ob_bind h
                                                                        refine ax_scl (pc := 1279) (j := j521) (xs := xs) (ax_dd KL_law_36 11 rfl) hxs b522 ?_
                                                                        refine ax_aload_n (pc := 1280) (i := 0) (q := 0) (ax_dd KL_law_36 12 rfl) rfl rfl ?_
                                                                        refine ax_iload_n (pc := 1281) (i := 3) (q := 3) (ax_dd KL_law_36 13 rfl) rfl rfl ?_
                                                                        refine ax_iconst (pc := 1282) (v := 3) (ax_dd KL_law_36 14 rfl) (by decide) ?_
                                                                        refine ax_iadd (pc := 1283) (ax_dd KL_law_36 15 rfl) ?_
                                                                        obtain ⟨j523, b524, h⟩ := ob_bind h
                                                                        refine ax_scl (pc := 1284) (j := j523) (xs := xs) (ax_dd KL_law_36 16 rfl) hxs b524 ?_
                                                                        obtain ⟨v525, μ527, b526, h⟩ := ob_bind2 h
                                                                        refine ax_kV (pc := 1285) (ci := 9) (k := 0) (As := [.int (xs j519), .int (xs j521), .int (xs j523)]) (rest := []) (st1 := [.int v525]) (μ1 := μ527) (ax_dd KL_law_36 17 rfl) (c_X9_sheet shp_F b526) kV_L_150 e_X9_sheet rfl cl_X9 (by decide) rfl rfl (by decide) (by decide) (Nat.le_of_ble_eq_true rfl) rfl ?_
                                                                        refine ax_aload_n (pc := 1288) (i := 2) (q := 2) (ax_dd KL_law_36 18 rfl) rfl rfl ?_
                                                                        refine ax_aload_n (pc := 1289) (i := 0) (q := 0) (ax_dd KL_law_36 19 rfl) rfl rfl ?_
                                                                        refine ax_iload_n (pc := 1290) (i := 3) (q := 3) (ax_dd KL_law_36 20 rfl) rfl rfl ?_
                                                                        refine ax_iconst (pc := 1291) (v := 1) (ax_dd KL_law_36 21 rfl) (by decide) ?_
                                                                        refine ax_iadd (pc := 1292) (ax_dd KL_law_36 22 rfl) ?_
                                                                        obtain ⟨j528, b529, h⟩ := ob_bind h
                                                                        refine ax_scl (pc := 1293) (j := j528) (xs := xs) (ax_dd KL_law_36 23 rfl) hxs b529 ?_
                                                                        refine ax_aload_n (pc := 1294) (i := 0) (q := 0) (ax_dd KL_law_36 24 rfl) rfl rfl ?_
                                                                        refine ax_iload_n (pc := 1295) (i := 3) (q := 3) (ax_dd KL_law_37 0 rfl) rfl rfl ?_
                                                                        refine ax_iconst (pc := 1296) (v := 2) (ax_dd KL_law_37 1 rfl) (by decide) ?_
                                                                        refine ax_iadd (pc := 1297) (ax_dd KL_law_37 2 rfl) ?_
                                                                        obtain ⟨j530, b531, h⟩ := ob_bind h
                                                                        refine ax_scl (pc := 1298) (j := j530) (xs := xs) (ax_dd KL_law_37 3 rfl) hxs b531 ?_
                                                                        refine ax_aload_n (pc := 1299) (i := 0) (q := 0) (ax_dd KL_law_37 4 rfl) rfl rfl ?_
                                                                        refine ax_iload_n (pc := 1300) (i := 3) (q := 3) (ax_dd KL_law_37 5 rfl) rfl rfl ?_
                                                                        refine ax_iconst (pc := 1301) (v := 3) (ax_dd KL_law_37 6 rfl) (by decide) ?_
                                                                        refine ax_iadd (pc := 1302) (ax_dd KL_law_37 7 rfl) ?_
                                                                        obtain ⟨j532, b533, h⟩ := ob_bind h
                                                                        refine ax_scl (pc := 1303) (j := j532) (xs := xs) (ax_dd KL_law_37 8 rfl) hxs b533 ?_
                                                                        obtain ⟨v534, μ536, b535, h⟩ := ob_bind2 h
                                                                        refine ax_kV (pc := 1304) (ci := 10) (k := 51) (As := [.int (xs j528), .int (xs j530), .int (xs j532)]) (rest := [.int v525]) (st1 := [.int v534, .int v525]) (μ1 := μ536) (ax_dd KL_law_37 9 rfl) (c_X10_sheet (fun _ _ h => h) b535) kV_L_153 e_X10_sheet rfl cl_X10 (by decide) rfl rfl (by decide) (by decide) (Nat.le_of_ble_eq_true rfl) rfl ?_
                                                                        by_cases c537 : v525 = v534
                                                                        · rw [if_pos c537] at h
                                                                          refine ax_icmp_eq_t (pc := 1307) (tgt := 1504) (ax_dd KL_law_37 10 rfl) (by decide) c537 ?_
                                                                          refine ax_iinc (pc := 1504) (q := 3) (v := (x3 + 7)) (lv' := [(3, .int (x3 + 7)), (0, .ref G.2.2.2.2.2.1), (1, .ref (G.1 + 0)), (2, .ref (G.1 + 51))]) (ax_dd KL_law_44 6 rfl) rfl rfl (by decide) rfl ?_
                                                                          refine ax_goto (pc := 1507) (tgt := 18) (ax_dd KL_law_44 7 rfl) (by decide) ?_
                                                                          refine ax_sub (lv' := [(0, .ref G.2.2.2.2.2.1), (1, .ref (G.1 + 0)), (2, .ref (G.1 + 51)), (3, .int (x3 + 7))]) [1, 2, 3, 0] rfl ?_
                                                                          exact ih _ _ _ h
                                                                        · rw [if_neg c537] at h
                                                                          refine ax_icmp_eq_f (pc := 1307) (tgt := 1504) (ax_dd KL_law_37 10 rfl) (by decide) c537 ?_
                                                                          refine ax_iconst (pc := 1310) (v := 0) (ax_dd KL_law_37 11 rfl) (by decide) ?_
                                                                          obtain rfl := Option.some.inj h
                                                                          exact ax_ireti (pc := 1311) (ax_dd KL_law_37 12 rfl) ⟨_, rfl, rfl⟩ rfl
                                                                      · rw [if_neg c518] at h
                                                                        by_cases c538 : ((xs j2) &&& 63) = 33
                                                                        · rw [if_pos c538] at h
                                                                          refine ax_tab (pc := 33) (off := 1279) (tgt := 1312) (ax_dd KL_law_0 21 rfl) (by rw [c538]; decide) (by rw [c538]; decide) (by rw [c538]; rfl) (by decide) ?_
                                                                          refine ax_aload_n (pc := 1312) (i := 1) (q := 1) (ax_dd KL_law_37 13 rfl) rfl rfl ?_
                                                                          refine ax_aload_n (pc := 1313) (i := 0) (q := 0) (ax_dd KL_law_37 14 rfl) rfl rfl ?_
                                                                          refine ax_iload_n (pc := 1314) (i := 3) (q := 3) (ax_dd KL_law_37 15 rfl) rfl rfl ?_
                                                                          refine ax_iconst (pc := 1315) (v := 1) (ax_dd KL_law_37 16 rfl) (by decide) ?_
                                                                          refine ax_iadd (pc := 1316) (ax_dd KL_law_37 17 rfl) ?_
                                                                          obtain ⟨j539, b540, h⟩ := ob_bind h
                                                                          refine ax_scl (pc := 1317) (j := j539) (xs := xs) (ax_dd KL_law_37 18 rfl) hxs b540 ?_
                                                                          refine ax_aload_n (pc := 1318) (i := 0) (q := 0) (ax_dd KL_law_37 19 rfl) rfl rfl ?_
                                                                          refine ax_iload_n (pc := 1319) (i := 3) (q := 3) (ax_dd KL_law_37 20 rfl) rfl rfl ?_
                                                                          refine ax_iconst (pc := 1320) (v := 2) (ax_dd KL_law_37 21 rfl) (by decide) ?_
                                                                          refine ax_iadd (pc := 1321) (ax_dd KL_law_37 22 rfl) ?_
                                                                          obtain ⟨j541, b542, h⟩ := ob_bind h
                                                                          refine ax_scl (pc := 1322) (j := j541) (xs := xs) (ax_dd KL_law_37 23 rfl) hxs b542 ?_
                                                                          refine ax_aload_n (pc := 1323) (i := 0) (q := 0) (ax_dd KL_law_37 24 rfl) rfl rfl ?_
                                                                          refine ax_iload_n (pc := 1324) (i := 3) (q := 3) (ax_dd KL_law_38 0 rfl) rfl rfl ?_
                                                                          refine ax_iconst (pc := 1325) (v := 3) (ax_dd KL_law_38 1 rfl) (by decide) ?_
                                                                          refine ax_iadd (pc := 1326) (ax_dd KL_law_38 2 rfl) ?_
                                                                          obtain ⟨j543, b544, h⟩ := ob_bind h
                                                                          refine ax_scl (pc := 1327) (j := j543) (xs := xs) (ax_dd KL_law_38 3 rfl) hxs b544 ?_
                                                                          obtain ⟨v545, μ547, b546, h⟩ := ob_bind2 h
                                                                          refine ax_kV (pc := 1328) (ci := 9) (k := 0) (As := [.int (xs j539), .int (xs j541), .int (xs j543)]) (rest := []) (st1 := [.int v545]) (μ1 := μ547) (ax_dd KL_law_38 4 rfl) (c_X9_cell shp_F b546) kV_L_154 e_X9_cell rfl cl_X9 (by decide) rfl rfl (by decide) (by decide) (Nat.le_of_ble_eq_true rfl) rfl ?_
                                                                          refine ax_aload_n (pc := 1331) (i := 2) (q := 2) (ax_dd KL_law_38 5 rfl) rfl rfl ?_
                                                                          refine ax_aload_n (pc := 1332) (i := 0) (q := 0) (ax_dd KL_law_38 6 rfl) rfl rfl ?_
                                                                          refine ax_iload_n (pc := 1333) (i := 3) (q := 3) (ax_dd KL_law_38 7 rfl) rfl rfl ?_
                                                                          refine ax_iconst (pc := 1334) (v := 1) (ax_dd KL_law_38 8 rfl) (by decide) ?_
                                                                          refine ax_iadd (pc := 1335) (ax_dd KL_law_38 9 rfl) ?_
                                                                          obtain ⟨j548, b549, h⟩ := ob_bind h
                                                                          refine ax_scl (pc := 1336) (j := j548) (xs := xs) (ax_dd KL_law_38 10 rfl) hxs b549 ?_
                                                                          refine ax_aload_n (pc := 1337) (i := 0) (q := 0) (ax_dd KL_law_38 11 rfl) rfl rfl ?_
                                                                          refine ax_iload_n (pc := 1338) (i := 3) (q := 3) (ax_dd KL_law_38 12 rfl) rfl rfl ?_
                                                                          refine ax_iconst (pc := 1339) (v := 2) (ax_dd KL_law_38 13 rfl) (by decide) ?_
                                                                          refine ax_iadd (pc := 1340) (ax_dd KL_law_38 14 rfl) ?_
                                                                          obtain ⟨j550, b551, h⟩ := ob_bind h
                                                                          refine ax_scl (pc := 1341) (j := j550) (xs := xs) (ax_dd KL_law_38 15 rfl) hxs b551 ?_
                                                                          refine ax_aload_n (pc := 1342) (i := 0) (q := 0) (ax_dd KL_law_38 16 rfl) rfl rfl ?_
                                                                          refine ax_iload_n (pc := 1343) (i := 3) (q := 3) (ax_dd KL_law_38 17 rfl) rfl rfl ?_
                                                                          refine ax_iconst (pc := 1344) (v := 3) (ax_dd KL_law_38 18 rfl) (by decide) ?_
                                                                          refine ax_iadd (pc := 1345) (ax_dd KL_law_38 19 rfl) ?_
                                                                          obtain ⟨j552, b553, h⟩ := ob_bind h
                                                                          refine ax_scl (pc := 1346) (j := j552) (xs := xs) (ax_dd KL_law_38 20 rfl) hxs b553 ?_
                                                                          obtain ⟨v554, μ556, b555, h⟩ := ob_bind2 h
                                                                          refine ax_kV (pc := 1347) (ci := 10) (k := 51) (As := [.int (xs j548), .int (xs j550), .int (xs j552)]) (rest := [.int v545]) (st1 := [.int v554, .int v545]) (μ1 := μ556) (ax_dd KL_law_38 21 rfl) (c_X10_cell (fun _ _ h => h) b555) kV_L_157 e_X10_cell rfl cl_X10 (by decide) rfl rfl (by decide) (by decide) (Nat.le_of_ble_eq_true rfl) rfl ?_
                                                                          by_cases c557 : v545 = v554
                                                                          · rw [if_pos c557] at h
                                                                            refine ax_icmp_eq_t (pc := 1350) (tgt := 1504) (ax_dd KL_law_38 22 rfl) (by decide) c557 ?_
                                                                            refine ax_iinc (pc := 1504) (q := 3) (v := (x3 + 7)) (lv' := [(3, .int (x3 + 7)), (0, .ref G.2.2.2.2.2.1), (1, .ref (G.1 + 0)), (2, .ref (G.1 + 51))]) (ax_dd KL_law_44 6 rfl) rfl rfl (by decide) rfl ?_
                                                                            refine ax_goto (pc := 1507) (tgt := 18) (ax_dd KL_law_44 7 rfl) (by decide) ?_
                                                                            refine ax_sub (lv' := [(0, .ref G.2.2.2.2.2.1), (1, .ref (G.1 + 0)), (2, .ref (G.1 + 51)), (3, .int (x3 + 7))]) [1, 2, 3, 0] rfl ?_
                                                                            exact ih _ _ _ h
                                                                          · rw [if_neg c557] at h
                                                                            refine ax_icmp_eq_f (pc := 1350) (tgt := 1504) (ax_dd KL_law_38 22 rfl) (by decide) c557 ?_
                                                                            refine ax_iconst (pc := 1353) (v := 0) (ax_dd KL_law_38 23 rfl) (by decide) ?_
                                                                            obtain rfl := Option.some.inj h
                                                                            exact ax_ireti (pc := 1354) (ax_dd KL_law_38 24 rfl) ⟨_, rfl, rfl⟩ rfl
                                                                        · rw [if_neg c538] at h
                                                                          by_cases c558 : ((xs j2) &&& 63) = 34
                                                                          · rw [if_pos c558] at h
                                                                            refine ax_tab (pc := 33) (off := 1322) (tgt := 1355) (ax_dd KL_law_0 21 rfl) (by rw [c558]; decide) (by rw [c558]; decide) (by rw [c558]; rfl) (by decide) ?_
                                                                            refine ax_aload_n (pc := 1355) (i := 1) (q := 1) (ax_dd KL_law_39 0 rfl) rfl rfl ?_
                                                                            refine ax_aload_n (pc := 1356) (i := 0) (q := 0) (ax_dd KL_law_39 1 rfl) rfl rfl ?_
                                                                            refine ax_iload_n (pc := 1357) (i := 3) (q := 3) (ax_dd KL_law_39 2 rfl) rfl rfl ?_
                                                                            refine ax_iconst (pc := 1358) (v := 1) (ax_dd KL_law_39 3 rfl) (by decide) ?_
                                                                            refine ax_iadd (pc := 1359) (ax_dd KL_law_39 4 rfl) ?_
                                                                            obtain ⟨j559, b560, h⟩ := ob_bind h
                                                                            refine ax_scl (pc := 1360) (j := j559) (xs := xs) (ax_dd KL_law_39 5 rfl) hxs b560 ?_
                                                                            refine ax_aload_n (pc := 1361) (i := 0) (q := 0) (ax_dd KL_law_39 6 rfl) rfl rfl ?_
                                                                            refine ax_iload_n (pc := 1362) (i := 3) (q := 3) (ax_dd KL_law_39 7 rfl) rfl rfl ?_
                                                                            refine ax_iconst (pc := 1363) (v := 2) (ax_dd KL_law_39 8 rfl) (by decide) ?_
                                                                            refine ax_iadd (pc := 1364) (ax_dd KL_law_39 9 rfl) ?_
                                                                            obtain ⟨j561, b562, h⟩ := ob_bind h
                                                                            refine ax_scl (pc := 1365) (j := j561) (xs := xs) (ax_dd KL_law_39 10 rfl) hxs b562 ?_
                                                                            refine ax_aload_n (pc := 1366) (i := 0) (q := 0) (ax_dd KL_law_39 11 rfl) rfl rfl ?_
                                                                            refine ax_iload_n (pc := 1367) (i := 3) (q := 3) (ax_dd KL_law_39 12 rfl) rfl rfl ?_
                                                                            refine ax_iconst (pc := 1368) (v := 3) (ax_dd KL_law_39 13 rfl) (by decide) ?_
                                                                            refine ax_iadd (pc := 1369) (ax_dd KL_law_39 14 rfl) ?_
                                                                            obtain ⟨j563, b564, h⟩ := ob_bind h
                                                                            refine ax_scl (pc := 1370) (j := j563) (xs := xs) (ax_dd KL_law_39 15 rfl) hxs b564 ?_
                                                                            refine ax_aload_n (pc := 1371) (i := 0) (q := 0) (ax_dd KL_law_39 16 rfl) rfl rfl ?_
                                                                            refine ax_iload_n (pc := 1372) (i := 3) (q := 3) (ax_dd KL_law_39 17 rfl) rfl rfl ?_
                                                                            refine ax_iconst (pc := 1373) (v := 4) (ax_dd KL_law_39 18 rfl) (by decide) ?_
                                                                            refine ax_iadd (pc := 1374) (ax_dd KL_law_39 19 rfl) ?_
                                                                            obtain ⟨j565, b566, h⟩ := ob_bind h
                                                                            refine ax_scl (pc := 1375) (j := j565) (xs := xs) (ax_dd KL_law_39 20 rfl) hxs b566 ?_
                                                                            refine ax_aload_n (pc := 1376) (i := 0) (q := 0) (ax_dd KL_law_39 21 rfl) rfl rfl ?_
                                                                            refine ax_iload_n (pc := 1377) (i := 3) (q := 3) (ax_dd KL_law_39 22 rfl) rfl rfl ?_
                                                                            refine ax_iconst (pc := 1378) (v := 5) (ax_dd KL_law_39 23 rfl) (by decide) ?_
                                                                            refine ax_iadd (pc := 1379) (ax_dd KL_law_39 24 rfl) ?_
                                                                            obtain ⟨j567, b568, h⟩ := ob_bind h
                                                                            refine ax_scl (pc := 1380) (j := j567) (xs := xs) (ax_dd KL_law_40 0 rfl) hxs b568 ?_
                                                                            obtain ⟨v569, μ571, b570, h⟩ := ob_bind2 h
                                                                            refine ax_kV (pc := 1381) (ci := 9) (k := 0) (As := [.int (xs j559), .int (xs j561), .int (xs j563), .int (xs j565), .int (xs j567)]) (rest := []) (st1 := [.int v569]) (μ1 := μ571) (ax_dd KL_law_40 1 rfl) (c_X9_copy shp_F b570) kV_L_158 e_X9_copy rfl cl_X9 (by decide) rfl rfl (by decide) (by decide) (Nat.le_of_ble_eq_true rfl) rfl ?_
                                                                            refine ax_aload_n (pc := 1384) (i := 2) (q := 2) (ax_dd KL_law_40 2 rfl) rfl rfl ?_
                                                                            refine ax_aload_n (pc := 1385) (i := 0) (q := 0) (ax_dd KL_law_40 3 rfl) rfl rfl ?_
                                                                            refine ax_iload_n (pc := 1386) (i := 3) (q := 3) (ax_dd KL_law_40 4 rfl) rfl rfl ?_
                                                                            refine ax_iconst (pc := 1387) (v := 1) (ax_dd KL_law_40 5 rfl) (by decide) ?_
                                                                            refine ax_iadd (pc := 1388) (ax_dd KL_law_40 6 rfl) ?_
                                                                            obtain ⟨j572, b573, h⟩ := ob_bind h
                                                                            refine ax_scl (pc := 1389) (j := j572) (xs := xs) (ax_dd KL_law_40 7 rfl) hxs b573 ?_
                                                                            refine ax_aload_n (pc := 1390) (i := 0) (q := 0) (ax_dd KL_law_40 8 rfl) rfl rfl ?_
                                                                            refine ax_iload_n (pc := 1391) (i := 3) (q := 3) (ax_dd KL_law_40 9 rfl) rfl rfl ?_
                                                                            refine ax_iconst (pc := 1392) (v := 2) (ax_dd KL_law_40 10 rfl) (by decide) ?_
                                                                            refine ax_iadd (pc := 1393) (ax_dd KL_law_40 11 rfl) ?_
                                                                            obtain ⟨j574, b575, h⟩ := ob_bind h
                                                                            refine ax_scl (pc := 1394) (j := j574) (xs := xs) (ax_dd KL_law_40 12 rfl) hxs b575 ?_
                                                                            refine ax_aload_n (pc := 1395) (i := 0) (q := 0) (ax_dd KL_law_40 13 rfl) rfl rfl ?_
                                                                            refine ax_iload_n (pc := 1396) (i := 3) (q := 3) (ax_dd KL_law_40 14 rfl) rfl rfl ?_
                                                                            refine ax_iconst (pc := 1397) (v := 3) (ax_dd KL_law_40 15 rfl) (by decide) ?_
                                                                            refine ax_iadd (pc := 1398) (ax_dd KL_law_40 16 rfl) ?_
                                                                            obtain ⟨j576, b577, h⟩ := ob_bind h
                                                                            refine ax_scl (pc := 1399) (j := j576) (xs := xs) (ax_dd KL_law_40 17 rfl) hxs b577 ?_
                                                                            refine ax_aload_n (pc := 1400) (i := 0) (q := 0) (ax_dd KL_law_40 18 rfl) rfl rfl ?_
                                                                            refine ax_iload_n (pc := 1401) (i := 3) (q := 3) (ax_dd KL_law_40 19 rfl) rfl rfl ?_
                                                                            refine ax_iconst (pc := 1402) (v := 4) (ax_dd KL_law_40 20 rfl) (by decide) ?_
                                                                            refine ax_iadd (pc := 1403) (ax_dd KL_law_40 21 rfl) ?_
                                                                            obtain ⟨j578, b579, h⟩ := ob_bind h
                                                                            refine ax_scl (pc := 1404) (j := j578) (xs := xs) (ax_dd KL_law_40 22 rfl) hxs b579 ?_
                                                                            refine ax_aload_n (pc := 1405) (i := 0) (q := 0) (ax_dd KL_law_40 23 rfl) rfl rfl ?_
                                                                            refine ax_iload_n (pc := 1406) (i := 3) (q := 3) (ax_dd KL_law_40 24 rfl) rfl rfl ?_
                                                                            refine ax_iconst (pc := 1407) (v := 5) (ax_dd KL_law_41 0 rfl) (by decide) ?_
                                                                            refine ax_iadd (pc := 1408) (ax_dd KL_law_41 1 rfl) ?_
                                                                            obtain ⟨j580, b581, h⟩ := ob_bind h
                                                                            refine ax_scl (pc := 1409) (j := j580) (xs := xs) (ax_dd KL_law_41 2 rfl) hxs b581 ?_
                                                                            obtain ⟨v582, μ584, b583, h⟩ := ob_bind2 h
                                                                            refine ax_kV (pc := 1410) (ci := 10) (k := 51) (As := [.int (xs j572), .int (xs j574), .int (xs j576), .int (xs j578), .int (xs j580)]) (rest := [.int v569]) (st1 := [.int v582, .int v569]) (μ1 := μ584) (ax_dd KL_law_41 3 rfl) (c_X10_copy (fun _ _ h => h) b583) kV_L_162 e_X10_copy rfl cl_X10 (by decide) rfl rfl (by decide) (by decide) (Nat.le_of_ble_eq_true rfl) rfl ?_
                                                                            by_cases c585 : v569 = v582
                                                                            · rw [if_pos c585] at h
                                                                              refine ax_icmp_eq_t (pc := 1413) (tgt := 1504) (ax_dd KL_law_41 4 rfl) (by decide) c585 ?_
                                                                              refine ax_iinc (pc := 1504) (q := 3) (v := (x3 + 7)) (lv' := [(3, .int (x3 + 7)), (0, .ref G.2.2.2.2.2.1), (1, .ref (G.1 + 0)), (2, .ref (G.1 + 51))]) (ax_dd KL_law_44 6 rfl) rfl rfl (by decide) rfl ?_
                                                                              refine ax_goto (pc := 1507) (tgt := 18) (ax_dd KL_law_44 7 rfl) (by decide) ?_
                                                                              refine ax_sub (lv' := [(0, .ref G.2.2.2.2.2.1), (1, .ref (G.1 + 0)), (2, .ref (G.1 + 51)), (3, .int (x3 + 7))]) [1, 2, 3, 0] rfl ?_
                                                                              exact ih _ _ _ h
                                                                            · rw [if_neg c585] at h
                                                                              refine ax_icmp_eq_f (pc := 1413) (tgt := 1504) (ax_dd KL_law_41 4 rfl) (by decide) c585 ?_
                                                                              refine ax_iconst (pc := 1416) (v := 0) (ax_dd KL_law_41 5 rfl) (by decide) ?_
                                                                              obtain rfl := Option.some.inj h
                                                                              exact ax_ireti (pc := 1417) (ax_dd KL_law_41 6 rfl) ⟨_, rfl, rfl⟩ rfl
                                                                          · rw [if_neg c558] at h
                                                                            by_cases c586 : ((xs j2) &&& 63) = 35
                                                                            · rw [if_pos c586] at h
                                                                              refine ax_tab (pc := 33) (off := 1385) (tgt := 1418) (ax_dd KL_law_0 21 rfl) (by rw [c586]; decide) (by rw [c586]; decide) (by rw [c586]; rfl) (by decide) ?_
                                                                              refine ax_aload_n (pc := 1418) (i := 1) (q := 1) (ax_dd KL_law_41 7 rfl) rfl rfl ?_
                                                                              refine ax_aload_n (pc := 1419) (i := 0) (q := 0) (ax_dd KL_law_41 8 rfl) rfl rfl ?_
                                                                              refine ax_iload_n (pc := 1420) (i := 3) (q := 3) (ax_dd KL_law_41 9 rfl) rfl rfl ?_
                                                                              refine ax_iconst (pc := 1421) (v := 1) (ax_dd KL_law_41 10 rfl) (by decide) ?_
                                                                              refine ax_iadd (pc := 1422) (ax_dd KL_law_41 11 rfl) ?_
                                                                              obtain ⟨j587, b588, h⟩ := ob_bind h
                                                                              refine ax_scl (pc := 1423) (j := j587) (xs := xs) (ax_dd KL_law_41 12 rfl) hxs b588 ?_
                                                                              refine ax_aload_n (pc := 1424) (i := 0) (q := 0) (ax_dd KL_law_41 13 rfl) rfl rfl ?_
                                                                              refine ax_iload_n (pc := 1425) (i := 3) (q := 3) (ax_dd KL_law_41 14 rfl) rfl rfl ?_
                                                                              refine ax_iconst (pc := 1426) (v := 2) (ax_dd KL_law_41 15 rfl) (by decide) ?_
                                                                              refine ax_iadd (pc := 1427) (ax_dd KL_law_41 16 rfl) ?_
                                                                              obtain ⟨j589, b590, h⟩ := ob_bind h
                                                                              refine ax_scl (pc := 1428) (j := j589) (xs := xs) (ax_dd KL_law_41 17 rfl) hxs b590 ?_
                                                                              refine ax_aload_n (pc := 1429) (i := 0) (q := 0) (ax_dd KL_law_41 18 rfl) rfl rfl ?_
                                                                              refine ax_iload_n (pc := 1430) (i := 3) (q := 3) (ax_dd KL_law_41 19 rfl) rfl rfl ?_
                                                                              refine ax_iconst (pc := 1431) (v := 3) (ax_dd KL_law_41 20 rfl) (by decide) ?_
                                                                              refine ax_iadd (pc := 1432) (ax_dd KL_law_41 21 rfl) ?_
                                                                              obtain ⟨j591, b592, h⟩ := ob_bind h
                                                                              refine ax_scl (pc := 1433) (j := j591) (xs := xs) (ax_dd KL_law_41 22 rfl) hxs b592 ?_
                                                                              refine ax_aload_n (pc := 1434) (i := 0) (q := 0) (ax_dd KL_law_41 23 rfl) rfl rfl ?_
                                                                              refine ax_iload_n (pc := 1435) (i := 3) (q := 3) (ax_dd KL_law_41 24 rfl) rfl rfl ?_
                                                                              refine ax_iconst (pc := 1436) (v := 4) (ax_dd KL_law_42 0 rfl) (by decide) ?_
                                                                              refine ax_iadd (pc := 1437) (ax_dd KL_law_42 1 rfl) ?_
                                                                              obtain ⟨j593, b594, h⟩ := ob_bind h
                                                                              refine ax_scl (pc := 1438) (j := j593) (xs := xs) (ax_dd KL_law_42 2 rfl) hxs b594 ?_
                                                                              obtain ⟨v595, μ597, b596, h⟩ := ob_bind2 h
                                                                              refine ax_kV (pc := 1439) (ci := 9) (k := 0) (As := [.int (xs j587), .int (xs j589), .int (xs j591), .int (xs j593)]) (rest := []) (st1 := [.int v595]) (μ1 := μ597) (ax_dd KL_law_42 3 rfl) (c_X9_rugsBy shp_F b596) kV_L_163 e_X9_rugsBy rfl cl_X9 (by decide) rfl rfl (by decide) (by decide) (Nat.le_of_ble_eq_true rfl) rfl ?_
                                                                              refine ax_aload_n (pc := 1442) (i := 2) (q := 2) (ax_dd KL_law_42 4 rfl) rfl rfl ?_
                                                                              refine ax_aload_n (pc := 1443) (i := 0) (q := 0) (ax_dd KL_law_42 5 rfl) rfl rfl ?_
                                                                              refine ax_iload_n (pc := 1444) (i := 3) (q := 3) (ax_dd KL_law_42 6 rfl) rfl rfl ?_
                                                                              refine ax_iconst (pc := 1445) (v := 1) (ax_dd KL_law_42 7 rfl) (by decide) ?_
                                                                              refine ax_iadd (pc := 1446) (ax_dd KL_law_42 8 rfl) ?_
                                                                              obtain ⟨j598, b599, h⟩ := ob_bind h
                                                                              refine ax_scl (pc := 1447) (j := j598) (xs := xs) (ax_dd KL_law_42 9 rfl) hxs b599 ?_
                                                                              refine ax_aload_n (pc := 1448) (i := 0) (q := 0) (ax_dd KL_law_42 10 rfl) rfl rfl ?_
                                                                              refine ax_iload_n (pc := 1449) (i := 3) (q := 3) (ax_dd KL_law_42 11 rfl) rfl rfl ?_
                                                                              refine ax_iconst (pc := 1450) (v := 2) (ax_dd KL_law_42 12 rfl) (by decide) ?_
                                                                              refine ax_iadd (pc := 1451) (ax_dd KL_law_42 13 rfl) ?_
                                                                              obtain ⟨j600, b601, h⟩ := ob_bind h
                                                                              refine ax_scl (pc := 1452) (j := j600) (xs := xs) (ax_dd KL_law_42 14 rfl) hxs b601 ?_
                                                                              refine ax_aload_n (pc := 1453) (i := 0) (q := 0) (ax_dd KL_law_42 15 rfl) rfl rfl ?_
                                                                              refine ax_iload_n (pc := 1454) (i := 3) (q := 3) (ax_dd KL_law_42 16 rfl) rfl rfl ?_
                                                                              refine ax_iconst (pc := 1455) (v := 3) (ax_dd KL_law_42 17 rfl) (by decide) ?_
                                                                              refine ax_iadd (pc := 1456) (ax_dd KL_law_42 18 rfl) ?_
                                                                              obtain ⟨j602, b603, h⟩ := ob_bind h
                                                                              refine ax_scl (pc := 1457) (j := j602) (xs := xs) (ax_dd KL_law_42 19 rfl) hxs b603 ?_
                                                                              refine ax_aload_n (pc := 1458) (i := 0) (q := 0) (ax_dd KL_law_42 20 rfl) rfl rfl ?_
                                                                              refine ax_iload_n (pc := 1459) (i := 3) (q := 3) (ax_dd KL_law_42 21 rfl) rfl rfl ?_
                                                                              refine ax_iconst (pc := 1460) (v := 4) (ax_dd KL_law_42 22 rfl) (by decide) ?_
                                                                              refine ax_iadd (pc := 1461) (ax_dd KL_law_42 23 rfl) ?_
                                                                              obtain ⟨j604, b605, h⟩ := ob_bind h
                                                                              refine ax_scl (pc := 1462) (j := j604) (xs := xs) (ax_dd KL_law_42 24 rfl) hxs b605 ?_
                                                                              obtain ⟨v606, μ608, b607, h⟩ := ob_bind2 h
                                                                              refine ax_kV (pc := 1463) (ci := 10) (k := 51) (As := [.int (xs j598), .int (xs j600), .int (xs j602), .int (xs j604)]) (rest := [.int v595]) (st1 := [.int v606, .int v595]) (μ1 := μ608) (ax_dd KL_law_43 0 rfl) (c_X10_rugsBy (fun _ _ h => h) b607) kV_L_166 e_X10_rugsBy rfl cl_X10 (by decide) rfl rfl (by decide) (by decide) (Nat.le_of_ble_eq_true rfl) rfl ?_
                                                                              by_cases c609 : v595 = v606
                                                                              · rw [if_pos c609] at h
                                                                                refine ax_icmp_eq_t (pc := 1466) (tgt := 1504) (ax_dd KL_law_43 1 rfl) (by decide) c609 ?_
                                                                                refine ax_iinc (pc := 1504) (q := 3) (v := (x3 + 7)) (lv' := [(3, .int (x3 + 7)), (0, .ref G.2.2.2.2.2.1), (1, .ref (G.1 + 0)), (2, .ref (G.1 + 51))]) (ax_dd KL_law_44 6 rfl) rfl rfl (by decide) rfl ?_
                                                                                refine ax_goto (pc := 1507) (tgt := 18) (ax_dd KL_law_44 7 rfl) (by decide) ?_
                                                                                refine ax_sub (lv' := [(0, .ref G.2.2.2.2.2.1), (1, .ref (G.1 + 0)), (2, .ref (G.1 + 51)), (3, .int (x3 + 7))]) [1, 2, 3, 0] rfl ?_
                                                                                exact ih _ _ _ h
                                                                              · rw [if_neg c609] at h
                                                                                refine ax_icmp_eq_f (pc := 1466) (tgt := 1504) (ax_dd KL_law_43 1 rfl) (by decide) c609 ?_
                                                                                refine ax_iconst (pc := 1469) (v := 0) (ax_dd KL_law_43 2 rfl) (by decide) ?_
                                                                                obtain rfl := Option.some.inj h
                                                                                exact ax_ireti (pc := 1470) (ax_dd KL_law_43 3 rfl) ⟨_, rfl, rfl⟩ rfl
                                                                            · rw [if_neg c586] at h
                                                                              by_cases c610 : ((xs j2) &&& 63) = 36
                                                                              · rw [if_pos c610] at h
                                                                                refine ax_tab (pc := 33) (off := 1438) (tgt := 1471) (ax_dd KL_law_0 21 rfl) (by rw [c610]; decide) (by rw [c610]; decide) (by rw [c610]; rfl) (by decide) ?_
                                                                                refine ax_aload_n (pc := 1471) (i := 1) (q := 1) (ax_dd KL_law_43 4 rfl) rfl rfl ?_
                                                                                refine ax_aload_n (pc := 1472) (i := 0) (q := 0) (ax_dd KL_law_43 5 rfl) rfl rfl ?_
                                                                                refine ax_iload_n (pc := 1473) (i := 3) (q := 3) (ax_dd KL_law_43 6 rfl) rfl rfl ?_
                                                                                refine ax_iconst (pc := 1474) (v := 1) (ax_dd KL_law_43 7 rfl) (by decide) ?_
                                                                                refine ax_iadd (pc := 1475) (ax_dd KL_law_43 8 rfl) ?_
                                                                                obtain ⟨j611, b612, h⟩ := ob_bind h
                                                                                refine ax_scl (pc := 1476) (j := j611) (xs := xs) (ax_dd KL_law_43 9 rfl) hxs b612 ?_
                                                                                refine ax_aload_n (pc := 1477) (i := 0) (q := 0) (ax_dd KL_law_43 10 rfl) rfl rfl ?_
                                                                                refine ax_iload_n (pc := 1478) (i := 3) (q := 3) (ax_dd KL_law_43 11 rfl) rfl rfl ?_
                                                                                refine ax_iconst (pc := 1479) (v := 2) (ax_dd KL_law_43 12 rfl) (by decide) ?_
                                                                                refine ax_iadd (pc := 1480) (ax_dd KL_law_43 13 rfl) ?_
                                                                                obtain ⟨j613, b614, h⟩ := ob_bind h
                                                                                refine ax_scl (pc := 1481) (j := j613) (xs := xs) (ax_dd KL_law_43 14 rfl) hxs b614 ?_
                                                                                obtain ⟨v615, b616, h⟩ := ob_bind h
                                                                                refine ax_kV (pc := 1482) (ci := 9) (k := 0) (As := [.int (xs j611), .int (xs j613)]) (rest := []) (st1 := [.int v615]) (μ1 := μ) (ax_dd KL_law_43 15 rfl) (c_X9_taken shp_F b616) kV_L_167 e_X9_taken rfl cl_X9 (by decide) rfl rfl (by decide) (by decide) (Nat.le_of_ble_eq_true rfl) rfl ?_
                                                                                refine ax_aload_n (pc := 1485) (i := 2) (q := 2) (ax_dd KL_law_43 16 rfl) rfl rfl ?_
                                                                                refine ax_aload_n (pc := 1486) (i := 0) (q := 0) (ax_dd KL_law_43 17 rfl) rfl rfl ?_
                                                                                refine ax_iload_n (pc := 1487) (i := 3) (q := 3) (ax_dd KL_law_43 18 rfl) rfl rfl ?_
                                                                                refine ax_iconst (pc := 1488) (v := 1) (ax_dd KL_law_43 19 rfl) (by decide) ?_
                                                                                refine ax_iadd (pc := 1489) (ax_dd KL_law_43 20 rfl) ?_
                                                                                obtain ⟨j617, b618, h⟩ := ob_bind h
                                                                                refine ax_scl (pc := 1490) (j := j617) (xs := xs) (ax_dd KL_law_43 21 rfl) hxs b618 ?_
                                                                                refine ax_aload_n (pc := 1491) (i := 0) (q := 0) (ax_dd KL_law_43 22 rfl) rfl rfl ?_
                                                                                refine ax_iload_n (pc := 1492) (i := 3) (q := 3) (ax_dd KL_law_43 23 rfl) rfl rfl ?_
                                                                                refine ax_iconst (pc := 1493) (v := 2) (ax_dd KL_law_43 24 rfl) (by decide) ?_
                                                                                refine ax_iadd (pc := 1494) (ax_dd KL_law_44 0 rfl) ?_
                                                                                obtain ⟨j619, b620, h⟩ := ob_bind h
                                                                                refine ax_scl (pc := 1495) (j := j619) (xs := xs) (ax_dd KL_law_44 1 rfl) hxs b620 ?_
                                                                                obtain ⟨v621, b622, h⟩ := ob_bind h
                                                                                refine ax_kV (pc := 1496) (ci := 10) (k := 51) (As := [.int (xs j617), .int (xs j619)]) (rest := [.int v615]) (st1 := [.int v621, .int v615]) (μ1 := μ) (ax_dd KL_law_44 2 rfl) (c_X10_taken (fun _ _ h => h) b622) kV_L_170 e_X10_taken rfl cl_X10 (by decide) rfl rfl (by decide) (by decide) (Nat.le_of_ble_eq_true rfl) rfl ?_
                                                                                by_cases c623 : v615 = v621
                                                                                · rw [if_pos c623] at h
                                                                                  refine ax_icmp_eq_t (pc := 1499) (tgt := 1504) (ax_dd KL_law_44 3 rfl) (by decide) c623 ?_
                                                                                  refine ax_iinc (pc := 1504) (q := 3) (v := (x3 + 7)) (lv' := [(3, .int (x3 + 7)), (0, .ref G.2.2.2.2.2.1), (1, .ref (G.1 + 0)), (2, .ref (G.1 + 51))]) (ax_dd KL_law_44 6 rfl) rfl rfl (by decide) rfl ?_
                                                                                  refine ax_goto (pc := 1507) (tgt := 18) (ax_dd KL_law_44 7 rfl) (by decide) ?_
                                                                                  refine ax_sub (lv' := [(0, .ref G.2.2.2.2.2.1), (1, .ref (G.1 + 0)), (2, .ref (G.1 + 51)), (3, .int (x3 + 7))]) [1, 2, 3, 0] rfl ?_
                                                                                  exact ih _ _ _ h
                                                                                · rw [if_neg c623] at h
                                                                                  refine ax_icmp_eq_f (pc := 1499) (tgt := 1504) (ax_dd KL_law_44 3 rfl) (by decide) c623 ?_
                                                                                  refine ax_iconst (pc := 1502) (v := 0) (ax_dd KL_law_44 4 rfl) (by decide) ?_
                                                                                  obtain rfl := Option.some.inj h
                                                                                  exact ax_ireti (pc := 1503) (ax_dd KL_law_44 5 rfl) ⟨_, rfl, rfl⟩ rfl
                                                                              · rw [if_neg c610] at h
                                                                                refine ax_tabD (pc := 33) (tgt := 1504) (ax_dd KL_law_0 21 rfl) (by have e0 := ax_ne c4 (a := 0) rfl; have e1 := ax_ne c14 (a := 1) rfl; have e2 := ax_ne c26 (a := 2) rfl; have e3 := ax_ne c58 (a := 3) rfl; have e4 := ax_ne c66 (a := 4) rfl; have e5 := ax_ne c78 (a := 5) rfl; have e6 := ax_ne c98 (a := 6) rfl; have e7 := ax_ne c114 (a := 7) rfl; have e8 := ax_ne c134 (a := 8) rfl; have e9 := ax_ne c150 (a := 9) rfl; have e10 := ax_ne c166 (a := 10) rfl; have e11 := ax_ne c178 (a := 11) rfl; have e12 := ax_ne c194 (a := 12) rfl; have e13 := ax_ne c206 (a := 13) rfl; have e14 := ax_ne c226 (a := 14) rfl; have e15 := ax_ne c242 (a := 15) rfl; have e16 := ax_ne c254 (a := 16) rfl; have e17 := ax_ne c270 (a := 17) rfl; have e18 := ax_ne c286 (a := 18) rfl; have e19 := ax_ne c298 (a := 19) rfl; have e20 := ax_ne c310 (a := 20) rfl; have e21 := ax_ne c326 (a := 21) rfl; have e22 := ax_ne c342 (a := 22) rfl; have e23 := ax_ne c358 (a := 23) rfl; have e24 := ax_ne c382 (a := 24) rfl; have e25 := ax_ne c406 (a := 25) rfl; have e26 := ax_ne c418 (a := 26) rfl; have e27 := ax_ne c434 (a := 27) rfl; have e28 := ax_ne c454 (a := 28) rfl; have e29 := ax_ne c474 (a := 29) rfl; have e30 := ax_ne c502 (a := 30) rfl; have e31 := ax_ne c510 (a := 31) rfl; have e32 := ax_ne c518 (a := 32) rfl; have e33 := ax_ne c538 (a := 33) rfl; have e34 := ax_ne c558 (a := 34) rfl; have e35 := ax_ne c586 (a := 35) rfl; have e36 := ax_ne c610 (a := 36) rfl; omega) (by decide) ?_
                                                                                refine ax_iinc (pc := 1504) (q := 3) (v := (x3 + 7)) (lv' := [(3, .int (x3 + 7)), (0, .ref G.2.2.2.2.2.1), (1, .ref (G.1 + 0)), (2, .ref (G.1 + 51))]) (ax_dd KL_law_44 6 rfl) rfl rfl (by decide) rfl ?_
                                                                                refine ax_goto (pc := 1507) (tgt := 18) (ax_dd KL_law_44 7 rfl) (by decide) ?_
                                                                                refine ax_sub (lv' := [(0, .ref G.2.2.2.2.2.1), (1, .ref (G.1 + 0)), (2, .ref (G.1 + 51)), (3, .int (x3 + 7))]) [1, 2, 3, 0] rfl ?_
                                                                                exact ih _ _ _ h
def m_L_law (xs : Nat → Int32) (L : Nat) (μ : ax_M) : Option (Int32 × ax_M) :=
  (m_X9_init (ax_z μ 0)).bind fun μ3 =>
  (m_X10_init (ax_z μ3 51)).bind fun μ6 =>
  m_L_law_18 xs L fu 0 μ6
set_option maxRecDepth 100000 in
set_option maxHeartbeats 8000000 in
theorem a_L_law {G : ax_G} {l : Launch} {μ : ax_M} {xs : Nat → Int32} {L : Nat} (hxs : G.2.2.2.2.2.2.1 = L ∧ G.2.2.2.2.2.2.2 = xs) {v : Int32 × ax_M} (h : m_L_law xs L μ = some v) : ax_X G l RL code 4 ret false 124 (some (.int v.1), SHF, v.2) 0 [(0, .ref G.2.2.2.2.2.1)] [] sh_0_111 μ := by
  unfold m_L_law at h
  refine ax_new (pc := 0) (ci := 9) (fs := [some none, some none, some none, some none, some none, some none, some none, some none, some none]) (k := 0) (sh' := sh_1_72) (ax_dd KL_law_0 0 rfl) rfl nw_L_7 in_X9 tyX9_ok rfl rfl rfl rfl ?_
  refine ax_dup (pc := 3) (ax_dd KL_law_0 1 rfl) rfl ?_
  obtain ⟨μ3, b2, h⟩ := ob_bind h
  refine ax_kI (pc := 4) (As := []) (rest := [.ref (G.1 + 0)]) (st1 := [.ref (G.1 + 0)]) (μ1 := μ3) (ax_dd KL_law_0 2 rfl) (c_X9_init b2) kI_L_9 e_X9_init rfl rfl rfl (by decide) (by decide) (Nat.le_of_ble_eq_true rfl) rfl ?_
  refine ax_astore_n (pc := 7) (i := 1) (lv' := [(1, .ref (G.1 + 0)), (0, .ref G.2.2.2.2.2.1)]) (ax_dd KL_law_0 3 rfl) rfl (by decide) rfl ?_
  refine ax_new (pc := 8) (ci := 10) (fs := [none, some none, some none, some none, none, some none, none, some none, some none, none, none, none, some none, some none, some none, some none, some none, some none, none, none, none, none, some none, some none, none, none, none, some none, some none, some none, none, none, none, none, some none, some none, none]) (k := 51) (sh' := sh_52_110) (ax_dd KL_law_0 4 rfl) rfl nw_L_10 in_X10 tyX10_ok rfl rfl rfl rfl ?_
  refine ax_dup (pc := 11) (ax_dd KL_law_0 5 rfl) rfl ?_
  obtain ⟨μ6, b5, h⟩ := ob_bind h
  refine ax_kI (pc := 12) (As := []) (rest := [.ref (G.1 + 51)]) (st1 := [.ref (G.1 + 51)]) (μ1 := μ6) (ax_dd KL_law_0 6 rfl) (c_X10_init b5) kI_L_12 e_X10_init rfl rfl rfl (by decide) (by decide) (Nat.le_of_ble_eq_true rfl) rfl ?_
  refine ax_astore_n (pc := 15) (i := 2) (lv' := [(2, .ref (G.1 + 51)), (1, .ref (G.1 + 0)), (0, .ref G.2.2.2.2.2.1)]) (ax_dd KL_law_0 7 rfl) rfl (by decide) rfl ?_
  refine ax_iconst (pc := 16) (v := 0) (ax_dd KL_law_0 8 rfl) (by decide) ?_
  refine ax_istore_n (pc := 17) (i := 3) (lv' := [(3, .int 0), (2, .ref (G.1 + 51)), (1, .ref (G.1 + 0)), (0, .ref G.2.2.2.2.2.1)]) (ax_dd KL_law_0 9 rfl) rfl (by decide) rfl ?_
  refine ax_sub (lv' := [(0, .ref G.2.2.2.2.2.1), (1, .ref (G.1 + 0)), (2, .ref (G.1 + 51)), (3, .int 0)]) [3, 2, 1, 0] rfl ?_
  exact a_L_law_18 hxs fu _ _ _ h
