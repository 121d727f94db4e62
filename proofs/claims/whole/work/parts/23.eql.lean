set_option maxRecDepth 100000 in
set_option maxHeartbeats 4000000 in
theorem la_law_18_eq (s : mSt) (x3 : Int32) : la_law_18 s x3 = (
  if ((Int32.ofNat (s 266 0).toNatClampNeg) - 7) < x3 then
    rI 1 s
  else
    gd (inb x3 (s 266 0).toNatClampNeg) (
      if ((s 265 x3.toNatClampNeg) &&& 63) = 0 then
        gd (inb (x3 + 1) (s 266 0).toNatClampNeg) (
          gd (inb (x3 + 2) (s 266 0).toNatClampNeg) (
            bI (LL_land s (s 265 ((x3 + 1)).toNatClampNeg) (s 265 ((x3 + 2)).toNatClampNeg)) fun v1 s1 =>
              gd (inb (x3 + 1) (s1 266 0).toNatClampNeg) (
                gd (inb (x3 + 2) (s1 266 0).toNatClampNeg) (
                  bI (mo_land s1 (s1 265 ((x3 + 1)).toNatClampNeg) (s1 265 ((x3 + 2)).toNatClampNeg)) fun v2 s2 =>
                    if v1 = v2 then
                      la_law_18 s2 (x3 + 7)
                    else
                      rI 0 s2))))
      else
      if ((s 265 x3.toNatClampNeg) &&& 63) = 1 then
        gd (inb (x3 + 1) (s 266 0).toNatClampNeg) (
          gd (inb (x3 + 2) (s 266 0).toNatClampNeg) (
            gd (inb (x3 + 3) (s 266 0).toNatClampNeg) (
              gd (inb (x3 + 4) (s 266 0).toNatClampNeg) (
                gd (inb (x3 + 5) (s 266 0).toNatClampNeg) (
                  gd (inb (x3 + 6) (s 266 0).toNatClampNeg) (
                    bI (LL_line s (s 265 ((x3 + 1)).toNatClampNeg) (s 265 ((x3 + 2)).toNatClampNeg) (s 265 ((x3 + 3)).toNatClampNeg) (s 265 ((x3 + 4)).toNatClampNeg) (s 265 ((x3 + 5)).toNatClampNeg) (s 265 ((x3 + 6)).toNatClampNeg)) fun v3 s3 =>
                      gd (inb (x3 + 1) (s3 266 0).toNatClampNeg) (
                        gd (inb (x3 + 2) (s3 266 0).toNatClampNeg) (
                          gd (inb (x3 + 3) (s3 266 0).toNatClampNeg) (
                            gd (inb (x3 + 4) (s3 266 0).toNatClampNeg) (
                              gd (inb (x3 + 5) (s3 266 0).toNatClampNeg) (
                                gd (inb (x3 + 6) (s3 266 0).toNatClampNeg) (
                                  bI (mo_line s3 (s3 265 ((x3 + 1)).toNatClampNeg) (s3 265 ((x3 + 2)).toNatClampNeg) (s3 265 ((x3 + 3)).toNatClampNeg) (s3 265 ((x3 + 4)).toNatClampNeg) (s3 265 ((x3 + 5)).toNatClampNeg) (s3 265 ((x3 + 6)).toNatClampNeg)) fun v4 s4 =>
                                    if v3 = v4 then
                                      la_law_18 s4 (x3 + 7)
                                    else
                                      rI 0 s4))))))))))))
      else
      if ((s 265 x3.toNatClampNeg) &&& 63) = 2 then
        gd (inb (x3 + 1) (s 266 0).toNatClampNeg) (
          gd (inb (x3 + 2) (s 266 0).toNatClampNeg) (
            bI (LL_lineOf s (s 265 ((x3 + 1)).toNatClampNeg) (s 265 ((x3 + 2)).toNatClampNeg)) fun v5 s5 =>
              gd (inb (x3 + 1) (s5 266 0).toNatClampNeg) (
                gd (inb (x3 + 2) (s5 266 0).toNatClampNeg) (
                  bI (mo_lineOf s5 (s5 265 ((x3 + 1)).toNatClampNeg) (s5 265 ((x3 + 2)).toNatClampNeg)) fun v6 s6 =>
                    if v5 = v6 then
                      la_law_18 s6 (x3 + 7)
                    else
                      rI 0 s6))))
      else
      if ((s 265 x3.toNatClampNeg) &&& 63) = 3 then
        gd (inb (x3 + 1) (s 266 0).toNatClampNeg) (
          bI (LL_light s (s 265 ((x3 + 1)).toNatClampNeg)) fun v7 s7 =>
            gd (inb (x3 + 1) (s7 266 0).toNatClampNeg) (
              bI (mo_light s7 (s7 265 ((x3 + 1)).toNatClampNeg)) fun v8 s8 =>
                if v7 = v8 then
                  la_law_18 s8 (x3 + 7)
                else
                  rI 0 s8))
      else
      if ((s 265 x3.toNatClampNeg) &&& 63) = 4 then
        gd (inb (x3 + 1) (s 266 0).toNatClampNeg) (
          bI (LL_until s (s 265 ((x3 + 1)).toNatClampNeg)) fun v9 s9 =>
            gd (inb (x3 + 1) (s9 266 0).toNatClampNeg) (
              bI (mo_until s9 (s9 265 ((x3 + 1)).toNatClampNeg)) fun v10 s10 =>
                if v9 = v10 then
                  la_law_18 s10 (x3 + 7)
                else
                  rI 0 s10))
      else
      if ((s 265 x3.toNatClampNeg) &&& 63) = 5 then
        gd (inb (x3 + 1) (s 266 0).toNatClampNeg) (
          gd (inb (x3 + 2) (s 266 0).toNatClampNeg) (
            gd (inb (x3 + 3) (s 266 0).toNatClampNeg) (
              bI (LL_change s (s 265 ((x3 + 1)).toNatClampNeg) (s 265 ((x3 + 2)).toNatClampNeg) (s 265 ((x3 + 3)).toNatClampNeg)) fun v11 s11 =>
                gd (inb (x3 + 1) (s11 266 0).toNatClampNeg) (
                  gd (inb (x3 + 2) (s11 266 0).toNatClampNeg) (
                    gd (inb (x3 + 3) (s11 266 0).toNatClampNeg) (
                      bI (mo_change s11 (s11 265 ((x3 + 1)).toNatClampNeg) (s11 265 ((x3 + 2)).toNatClampNeg) (s11 265 ((x3 + 3)).toNatClampNeg)) fun v12 s12 =>
                        if v11 = v12 then
                          la_law_18 s12 (x3 + 7)
                        else
                          rI 0 s12))))))
      else
      if ((s 265 x3.toNatClampNeg) &&& 63) = 6 then
        gd (inb (x3 + 1) (s 266 0).toNatClampNeg) (
          bI (LL_year s (s 265 ((x3 + 1)).toNatClampNeg)) fun v13 s13 =>
            gd (inb (x3 + 1) (s13 266 0).toNatClampNeg) (
              bI (mo_year s13 (s13 265 ((x3 + 1)).toNatClampNeg)) fun v14 s14 =>
                if v13 = v14 then
                  la_law_18 s14 (x3 + 7)
                else
                  rI 0 s14))
      else
      if ((s 265 x3.toNatClampNeg) &&& 63) = 7 then
        gd (inb (x3 + 1) (s 266 0).toNatClampNeg) (
          bI (LL_hour s (s 265 ((x3 + 1)).toNatClampNeg)) fun v15 s15 =>
            gd (inb (x3 + 1) (s15 266 0).toNatClampNeg) (
              bI (mo_hour s15 (s15 265 ((x3 + 1)).toNatClampNeg)) fun v16 s16 =>
                if v15 = v16 then
                  la_law_18 s16 (x3 + 7)
                else
                  rI 0 s16))
      else
      if ((s 265 x3.toNatClampNeg) &&& 63) = 8 then
        gd (inb (x3 + 1) (s 266 0).toNatClampNeg) (
          gd (inb (x3 + 2) (s 266 0).toNatClampNeg) (
            bI (LL_feed s (((s 265 ((x3 + 1)).toNatClampNeg).toInt64 <<< ((32 : Int32).toInt64 &&& 63)) ||| ((s 265 ((x3 + 2)).toNatClampNeg).toInt64 &&& 4294967295))) fun v17 s17 =>
              gd (inb (x3 + 1) (s17 266 0).toNatClampNeg) (
                gd (inb (x3 + 2) (s17 266 0).toNatClampNeg) (
                  bI (mo_feed s17 (((s17 265 ((x3 + 1)).toNatClampNeg).toInt64 <<< ((32 : Int32).toInt64 &&& 63)) ||| ((s17 265 ((x3 + 2)).toNatClampNeg).toInt64 &&& 4294967295))) fun v18 s18 =>
                    if v17 = v18 then
                      la_law_18 s18 (x3 + 7)
                    else
                      rI 0 s18))))
      else
      if ((s 265 x3.toNatClampNeg) &&& 63) = 9 then
        gd (inb (x3 + 1) (s 266 0).toNatClampNeg) (
          bI (LL_end s (s 265 ((x3 + 1)).toNatClampNeg)) fun v19 s19 =>
            gd (inb (x3 + 1) (s19 266 0).toNatClampNeg) (
              bI (mo_end s19 (s19 265 ((x3 + 1)).toNatClampNeg)) fun v20 s20 =>
                if v19 = v20 then
                  la_law_18 s20 (x3 + 7)
                else
                  rI 0 s20))
      else
      if ((s 265 x3.toNatClampNeg) &&& 63) = 10 then
        bI (LL_rules s) fun v21 s21 =>
          bI (mo_rules s21) fun v22 s22 =>
            if v21 = v22 then
              la_law_18 s22 (x3 + 7)
            else
              rI 0 s22
      else
      if ((s 265 x3.toNatClampNeg) &&& 63) = 11 then
        bI (LL_fault s) fun v23 s23 =>
          bI (mo_fault s23) fun v24 s24 =>
            if v23 = v24 then
              la_law_18 s24 (x3 + 7)
            else
              rI 0 s24
      else
      if ((s 265 x3.toNatClampNeg) &&& 63) = 12 then
        gd (inb (x3 + 1) (s 266 0).toNatClampNeg) (
          bI (LL_rule s (s 265 ((x3 + 1)).toNatClampNeg)) fun v25 s25 =>
            gd (inb (x3 + 1) (s25 266 0).toNatClampNeg) (
              bI (mo_rule s25 (s25 265 ((x3 + 1)).toNatClampNeg)) fun v26 s26 =>
                if v25 = v26 then
                  la_law_18 s26 (x3 + 7)
                else
                  rI 0 s26))
      else
      if ((s 265 x3.toNatClampNeg) &&& 63) = 13 then
        gd (inb (x3 + 1) (s 266 0).toNatClampNeg) (
          gd (inb (x3 + 2) (s 266 0).toNatClampNeg) (
            bI (LL_rent s (s 265 ((x3 + 1)).toNatClampNeg) (s 265 ((x3 + 2)).toNatClampNeg)) fun v27 s27 =>
              gd (inb (x3 + 1) (s27 266 0).toNatClampNeg) (
                gd (inb (x3 + 2) (s27 266 0).toNatClampNeg) (
                  bI (mo_rent s27 (s27 265 ((x3 + 1)).toNatClampNeg) (s27 265 ((x3 + 2)).toNatClampNeg)) fun v28 s28 =>
                    if v27 = v28 then
                      la_law_18 s28 (x3 + 7)
                    else
                      rI 0 s28))))
      else
      if ((s 265 x3.toNatClampNeg) &&& 63) = 14 then
        gd (inb (x3 + 1) (s 266 0).toNatClampNeg) (
          gd (inb (x3 + 2) (s 266 0).toNatClampNeg) (
            gd (inb (x3 + 3) (s 266 0).toNatClampNeg) (
              bI (LL_demand s (s 265 ((x3 + 1)).toNatClampNeg) (s 265 ((x3 + 2)).toNatClampNeg) (s 265 ((x3 + 3)).toNatClampNeg)) fun v29 s29 =>
                gd (inb (x3 + 1) (s29 266 0).toNatClampNeg) (
                  gd (inb (x3 + 2) (s29 266 0).toNatClampNeg) (
                    gd (inb (x3 + 3) (s29 266 0).toNatClampNeg) (
                      bI (mo_demand s29 (s29 265 ((x3 + 1)).toNatClampNeg) (s29 265 ((x3 + 2)).toNatClampNeg) (s29 265 ((x3 + 3)).toNatClampNeg)) fun v30 s30 =>
                        if v29 = v30 then
                          la_law_18 s30 (x3 + 7)
                        else
                          rI 0 s30))))))
      else
      if ((s 265 x3.toNatClampNeg) &&& 63) = 15 then
        gd (inb (x3 + 1) (s 266 0).toNatClampNeg) (
          gd (inb (x3 + 2) (s 266 0).toNatClampNeg) (
            bI (LL_much s (s 265 ((x3 + 1)).toNatClampNeg) (s 265 ((x3 + 2)).toNatClampNeg)) fun v31 s31 =>
              gd (inb (x3 + 1) (s31 266 0).toNatClampNeg) (
                gd (inb (x3 + 2) (s31 266 0).toNatClampNeg) (
                  bI (mo_much s31 (s31 265 ((x3 + 1)).toNatClampNeg) (s31 265 ((x3 + 2)).toNatClampNeg)) fun v32 s32 =>
                    if v31 = v32 then
                      la_law_18 s32 (x3 + 7)
                    else
                      rI 0 s32))))
      else
      if ((s 265 x3.toNatClampNeg) &&& 63) = 16 then
        gd (inb (x3 + 1) (s 266 0).toNatClampNeg) (
          bI (LL_led s (s 265 ((x3 + 1)).toNatClampNeg)) fun v33 s33 =>
            gd (inb (x3 + 1) (s33 266 0).toNatClampNeg) (
              bI (mo_led s33 (s33 265 ((x3 + 1)).toNatClampNeg)) fun v34 s34 =>
                if v33 = v34 then
                  la_law_18 s34 (x3 + 7)
                else
                  rI 0 s34))
      else
      if ((s 265 x3.toNatClampNeg) &&& 63) = 17 then
        gd (inb (x3 + 1) (s 266 0).toNatClampNeg) (
          gd (inb (x3 + 2) (s 266 0).toNatClampNeg) (
            bI (LL_way s (s 265 ((x3 + 1)).toNatClampNeg) (s 265 ((x3 + 2)).toNatClampNeg)) fun v35 s35 =>
              gd (inb (x3 + 1) (s35 266 0).toNatClampNeg) (
                gd (inb (x3 + 2) (s35 266 0).toNatClampNeg) (
                  bI (mo_way s35 (s35 265 ((x3 + 1)).toNatClampNeg) (s35 265 ((x3 + 2)).toNatClampNeg)) fun v36 s36 =>
                    if v35 = v36 then
                      la_law_18 s36 (x3 + 7)
                    else
                      rI 0 s36))))
      else
      if ((s 265 x3.toNatClampNeg) &&& 63) = 18 then
        gd (inb (x3 + 1) (s 266 0).toNatClampNeg) (
          gd (inb (x3 + 2) (s 266 0).toNatClampNeg) (
            gd (inb (x3 + 3) (s 266 0).toNatClampNeg) (
              bI (LL_parts s (s 265 ((x3 + 1)).toNatClampNeg) (s 265 ((x3 + 2)).toNatClampNeg) (s 265 ((x3 + 3)).toNatClampNeg)) fun v37 s37 =>
                gd (inb (x3 + 1) (s37 266 0).toNatClampNeg) (
                  gd (inb (x3 + 2) (s37 266 0).toNatClampNeg) (
                    gd (inb (x3 + 3) (s37 266 0).toNatClampNeg) (
                      bI (mo_parts s37 (s37 265 ((x3 + 1)).toNatClampNeg) (s37 265 ((x3 + 2)).toNatClampNeg) (s37 265 ((x3 + 3)).toNatClampNeg)) fun v38 s38 =>
                        if v37 = v38 then
                          la_law_18 s38 (x3 + 7)
                        else
                          rI 0 s38))))))
      else
      if ((s 265 x3.toNatClampNeg) &&& 63) = 19 then
        gd (inb (x3 + 1) (s 266 0).toNatClampNeg) (
          gd (inb (x3 + 2) (s 266 0).toNatClampNeg) (
            bI (LL_worst s (s 265 ((x3 + 1)).toNatClampNeg) (s 265 ((x3 + 2)).toNatClampNeg)) fun v39 s39 =>
              gd (inb (x3 + 1) (s39 266 0).toNatClampNeg) (
                gd (inb (x3 + 2) (s39 266 0).toNatClampNeg) (
                  bI (mo_worst s39 (s39 265 ((x3 + 1)).toNatClampNeg) (s39 265 ((x3 + 2)).toNatClampNeg)) fun v40 s40 =>
                    if v39 = v40 then
                      la_law_18 s40 (x3 + 7)
                    else
                      rI 0 s40))))
      else
      if ((s 265 x3.toNatClampNeg) &&& 63) = 20 then
        gd (inb (x3 + 1) (s 266 0).toNatClampNeg) (
          gd (inb (x3 + 2) (s 266 0).toNatClampNeg) (
            gd (inb (x3 + 3) (s 266 0).toNatClampNeg) (
              bI (LL_swing s (s 265 ((x3 + 1)).toNatClampNeg) (s 265 ((x3 + 2)).toNatClampNeg) (s 265 ((x3 + 3)).toNatClampNeg)) fun v41 s41 =>
                gd (inb (x3 + 1) (s41 266 0).toNatClampNeg) (
                  gd (inb (x3 + 2) (s41 266 0).toNatClampNeg) (
                    gd (inb (x3 + 3) (s41 266 0).toNatClampNeg) (
                      bI (mo_swing s41 (s41 265 ((x3 + 1)).toNatClampNeg) (s41 265 ((x3 + 2)).toNatClampNeg) (s41 265 ((x3 + 3)).toNatClampNeg)) fun v42 s42 =>
                        if v41 = v42 then
                          la_law_18 s42 (x3 + 7)
                        else
                          rI 0 s42))))))
      else
      if ((s 265 x3.toNatClampNeg) &&& 63) = 21 then
        gd (inb (x3 + 1) (s 266 0).toNatClampNeg) (
          bI (LL_swings s (s 265 ((x3 + 1)).toNatClampNeg)) fun v43 s43 =>
            gd (inb (x3 + 1) (s43 266 0).toNatClampNeg) (
              bI (mo_swings s43 (s43 265 ((x3 + 1)).toNatClampNeg)) fun v44 s44 =>
                if v43 = v44 then
                  la_law_18 s44 (x3 + 7)
                else
                  rI 0 s44))
      else
      if ((s 265 x3.toNatClampNeg) &&& 63) = 22 then
        gd (inb (x3 + 1) (s 266 0).toNatClampNeg) (
          gd (inb (x3 + 2) (s 266 0).toNatClampNeg) (
            bI (LL_cut s (s 265 ((x3 + 1)).toNatClampNeg) (s 265 ((x3 + 2)).toNatClampNeg)) fun v45 s45 =>
              gd (inb (x3 + 1) (s45 266 0).toNatClampNeg) (
                gd (inb (x3 + 2) (s45 266 0).toNatClampNeg) (
                  bI (mo_cut s45 (s45 265 ((x3 + 1)).toNatClampNeg) (s45 265 ((x3 + 2)).toNatClampNeg)) fun v46 s46 =>
                    if v45 = v46 then
                      la_law_18 s46 (x3 + 7)
                    else
                      rI 0 s46))))
      else
      if ((s 265 x3.toNatClampNeg) &&& 63) = 23 then
        gd (inb (x3 + 1) (s 266 0).toNatClampNeg) (
          gd (inb (x3 + 2) (s 266 0).toNatClampNeg) (
            gd (inb (x3 + 3) (s 266 0).toNatClampNeg) (
              gd (inb (x3 + 4) (s 266 0).toNatClampNeg) (
                bI (LL_echo s (s 265 ((x3 + 1)).toNatClampNeg) (s 265 ((x3 + 2)).toNatClampNeg) (s 265 ((x3 + 3)).toNatClampNeg) (s 265 ((x3 + 4)).toNatClampNeg)) fun v47 s47 =>
                  gd (inb (x3 + 1) (s47 266 0).toNatClampNeg) (
                    gd (inb (x3 + 2) (s47 266 0).toNatClampNeg) (
                      gd (inb (x3 + 3) (s47 266 0).toNatClampNeg) (
                        gd (inb (x3 + 4) (s47 266 0).toNatClampNeg) (
                          bI (mo_echo s47 (s47 265 ((x3 + 1)).toNatClampNeg) (s47 265 ((x3 + 2)).toNatClampNeg) (s47 265 ((x3 + 3)).toNatClampNeg) (s47 265 ((x3 + 4)).toNatClampNeg)) fun v48 s48 =>
                            if v47 = v48 then
                              la_law_18 s48 (x3 + 7)
                            else
                              rI 0 s48))))))))
      else
      if ((s 265 x3.toNatClampNeg) &&& 63) = 24 then
        gd (inb (x3 + 1) (s 266 0).toNatClampNeg) (
          gd (inb (x3 + 2) (s 266 0).toNatClampNeg) (
            bI (LL_breakOf s (s 265 ((x3 + 1)).toNatClampNeg) (s 265 ((x3 + 2)).toNatClampNeg)) fun v49 s49 =>
              gd (inb (x3 + 1) (s49 266 0).toNatClampNeg) (
                gd (inb (x3 + 2) (s49 266 0).toNatClampNeg) (
                  bI (mo_breakOf s49 (s49 265 ((x3 + 1)).toNatClampNeg) (s49 265 ((x3 + 2)).toNatClampNeg)) fun v50 s50 =>
                    if v49 = v50 then
                      la_law_18 s50 (x3 + 7)
                    else
                      rI 0 s50))))
      else
      if ((s 265 x3.toNatClampNeg) &&& 63) = 25 then
        gd (inb (x3 + 1) (s 266 0).toNatClampNeg) (
          gd (inb (x3 + 2) (s 266 0).toNatClampNeg) (
            gd (inb (x3 + 3) (s 266 0).toNatClampNeg) (
              gd (inb (x3 + 4) (s 266 0).toNatClampNeg) (
                bI (LL_quake s (s 265 ((x3 + 1)).toNatClampNeg) (s 265 ((x3 + 2)).toNatClampNeg) (s 265 ((x3 + 3)).toNatClampNeg) (s 265 ((x3 + 4)).toNatClampNeg)) fun v51 s51 =>
                  gd (inb (x3 + 1) (s51 266 0).toNatClampNeg) (
                    gd (inb (x3 + 2) (s51 266 0).toNatClampNeg) (
                      gd (inb (x3 + 3) (s51 266 0).toNatClampNeg) (
                        gd (inb (x3 + 4) (s51 266 0).toNatClampNeg) (
                          bI (mo_quake s51 (s51 265 ((x3 + 1)).toNatClampNeg) (s51 265 ((x3 + 2)).toNatClampNeg) (s51 265 ((x3 + 3)).toNatClampNeg) (s51 265 ((x3 + 4)).toNatClampNeg)) fun v52 s52 =>
                            if v51 = v52 then
                              la_law_18 s52 (x3 + 7)
                            else
                              rI 0 s52))))))))
      else
      if ((s 265 x3.toNatClampNeg) &&& 63) = 26 then
        gd (inb (x3 + 1) (s 266 0).toNatClampNeg) (
          gd (inb (x3 + 2) (s 266 0).toNatClampNeg) (
            gd (inb (x3 + 3) (s 266 0).toNatClampNeg) (
              bI (LL_shared s (s 265 ((x3 + 1)).toNatClampNeg) (s 265 ((x3 + 2)).toNatClampNeg) (s 265 ((x3 + 3)).toNatClampNeg)) fun v53 s53 =>
                gd (inb (x3 + 1) (s53 266 0).toNatClampNeg) (
                  gd (inb (x3 + 2) (s53 266 0).toNatClampNeg) (
                    gd (inb (x3 + 3) (s53 266 0).toNatClampNeg) (
                      bI (mo_shared s53 (s53 265 ((x3 + 1)).toNatClampNeg) (s53 265 ((x3 + 2)).toNatClampNeg) (s53 265 ((x3 + 3)).toNatClampNeg)) fun v54 s54 =>
                        if v53 = v54 then
                          la_law_18 s54 (x3 + 7)
                        else
                          rI 0 s54))))))
      else
      if ((s 265 x3.toNatClampNeg) &&& 63) = 27 then
        gd (inb (x3 + 1) (s 266 0).toNatClampNeg) (
          gd (inb (x3 + 2) (s 266 0).toNatClampNeg) (
            gd (inb (x3 + 3) (s 266 0).toNatClampNeg) (
              bI (LL_ship s (s 265 ((x3 + 1)).toNatClampNeg) (s 265 ((x3 + 2)).toNatClampNeg) (s 265 ((x3 + 3)).toNatClampNeg)) fun v55 s55 =>
                gd (inb (x3 + 1) (s55 266 0).toNatClampNeg) (
                  gd (inb (x3 + 2) (s55 266 0).toNatClampNeg) (
                    gd (inb (x3 + 3) (s55 266 0).toNatClampNeg) (
                      bI (mo_ship s55 (s55 265 ((x3 + 1)).toNatClampNeg) (s55 265 ((x3 + 2)).toNatClampNeg) (s55 265 ((x3 + 3)).toNatClampNeg)) fun v56 s56 =>
                        if v55 = v56 then
                          la_law_18 s56 (x3 + 7)
                        else
                          rI 0 s56))))))
      else
      if ((s 265 x3.toNatClampNeg) &&& 63) = 28 then
        gd (inb (x3 + 1) (s 266 0).toNatClampNeg) (
          gd (inb (x3 + 2) (s 266 0).toNatClampNeg) (
            bI (LL_shipOf s (s 265 ((x3 + 1)).toNatClampNeg) (s 265 ((x3 + 2)).toNatClampNeg)) fun v57 s57 =>
              gd (inb (x3 + 1) (s57 266 0).toNatClampNeg) (
                gd (inb (x3 + 2) (s57 266 0).toNatClampNeg) (
                  bI (mo_shipOf s57 (s57 265 ((x3 + 1)).toNatClampNeg) (s57 265 ((x3 + 2)).toNatClampNeg)) fun v58 s58 =>
                    if v57 = v58 then
                      la_law_18 s58 (x3 + 7)
                    else
                      rI 0 s58))))
      else
      if ((s 265 x3.toNatClampNeg) &&& 63) = 29 then
        gd (inb (x3 + 1) (s 266 0).toNatClampNeg) (
          gd (inb (x3 + 2) (s 266 0).toNatClampNeg) (
            bI (LL_send s (s 265 ((x3 + 1)).toNatClampNeg) (s 265 ((x3 + 2)).toNatClampNeg)) fun v59 s59 =>
              gd (inb (x3 + 1) (s59 266 0).toNatClampNeg) (
                gd (inb (x3 + 2) (s59 266 0).toNatClampNeg) (
                  bI (mo_send s59 (s59 265 ((x3 + 1)).toNatClampNeg) (s59 265 ((x3 + 2)).toNatClampNeg)) fun v60 s60 =>
                    if v59 = v60 then
                      la_law_18 s60 (x3 + 7)
                    else
                      rI 0 s60))))
      else
      if ((s 265 x3.toNatClampNeg) &&& 63) = 30 then
        gd (inb (x3 + 1) (s 266 0).toNatClampNeg) (
          bI (LL_order s (s 265 ((x3 + 1)).toNatClampNeg)) fun v61 s61 =>
            gd (inb (x3 + 1) (s61 266 0).toNatClampNeg) (
              bI (mo_order s61 (s61 265 ((x3 + 1)).toNatClampNeg)) fun v62 s62 =>
                if v61 = v62 then
                  la_law_18 s62 (x3 + 7)
                else
                  rI 0 s62))
      else
      if ((s 265 x3.toNatClampNeg) &&& 63) = 31 then
        gd (inb (x3 + 1) (s 266 0).toNatClampNeg) (
          bI (LL_plain s (s 265 ((x3 + 1)).toNatClampNeg)) fun v63 s63 =>
            gd (inb (x3 + 1) (s63 266 0).toNatClampNeg) (
              bI (mo_plain s63 (s63 265 ((x3 + 1)).toNatClampNeg)) fun v64 s64 =>
                if v63 = v64 then
                  la_law_18 s64 (x3 + 7)
                else
                  rI 0 s64))
      else
      if ((s 265 x3.toNatClampNeg) &&& 63) = 32 then
        gd (inb (x3 + 1) (s 266 0).toNatClampNeg) (
          gd (inb (x3 + 2) (s 266 0).toNatClampNeg) (
            bI (LL_owed s (s 265 ((x3 + 1)).toNatClampNeg) (s 265 ((x3 + 2)).toNatClampNeg)) fun v65 s65 =>
              gd (inb (x3 + 1) (s65 266 0).toNatClampNeg) (
                gd (inb (x3 + 2) (s65 266 0).toNatClampNeg) (
                  bI (mo_owed s65 (s65 265 ((x3 + 1)).toNatClampNeg) (s65 265 ((x3 + 2)).toNatClampNeg)) fun v66 s66 =>
                    if v65 = v66 then
                      la_law_18 s66 (x3 + 7)
                    else
                      rI 0 s66))))
      else
      if ((s 265 x3.toNatClampNeg) &&& 63) = 33 then
        gd (inb (x3 + 1) (s 266 0).toNatClampNeg) (
          gd (inb (x3 + 2) (s 266 0).toNatClampNeg) (
            bI (LL_paid s (s 265 ((x3 + 1)).toNatClampNeg) (s 265 ((x3 + 2)).toNatClampNeg)) fun v67 s67 =>
              gd (inb (x3 + 1) (s67 266 0).toNatClampNeg) (
                gd (inb (x3 + 2) (s67 266 0).toNatClampNeg) (
                  bI (mo_paid s67 (s67 265 ((x3 + 1)).toNatClampNeg) (s67 265 ((x3 + 2)).toNatClampNeg)) fun v68 s68 =>
                    if v67 = v68 then
                      la_law_18 s68 (x3 + 7)
                    else
                      rI 0 s68))))
      else
      if ((s 265 x3.toNatClampNeg) &&& 63) = 34 then
        gd (inb (x3 + 1) (s 266 0).toNatClampNeg) (
          gd (inb (x3 + 2) (s 266 0).toNatClampNeg) (
            gd (inb (x3 + 3) (s 266 0).toNatClampNeg) (
              bI (LL_plan s (s 265 ((x3 + 1)).toNatClampNeg) (s 265 ((x3 + 2)).toNatClampNeg) (s 265 ((x3 + 3)).toNatClampNeg)) fun v69 s69 =>
                gd (inb (x3 + 1) (s69 266 0).toNatClampNeg) (
                  gd (inb (x3 + 2) (s69 266 0).toNatClampNeg) (
                    gd (inb (x3 + 3) (s69 266 0).toNatClampNeg) (
                      bI (mo_plan s69 (s69 265 ((x3 + 1)).toNatClampNeg) (s69 265 ((x3 + 2)).toNatClampNeg) (s69 265 ((x3 + 3)).toNatClampNeg)) fun v70 s70 =>
                        if v69 = v70 then
                          la_law_18 s70 (x3 + 7)
                        else
                          rI 0 s70))))))
      else
      if ((s 265 x3.toNatClampNeg) &&& 63) = 35 then
        gd (inb (x3 + 1) (s 266 0).toNatClampNeg) (
          gd (inb (x3 + 2) (s 266 0).toNatClampNeg) (
            bI (LL_safe s (s 265 ((x3 + 1)).toNatClampNeg) (s 265 ((x3 + 2)).toNatClampNeg)) fun v71 s71 =>
              gd (inb (x3 + 1) (s71 266 0).toNatClampNeg) (
                gd (inb (x3 + 2) (s71 266 0).toNatClampNeg) (
                  bI (mo_safe s71 (s71 265 ((x3 + 1)).toNatClampNeg) (s71 265 ((x3 + 2)).toNatClampNeg)) fun v72 s72 =>
                    if v71 = v72 then
                      la_law_18 s72 (x3 + 7)
                    else
                      rI 0 s72))))
      else
      if ((s 265 x3.toNatClampNeg) &&& 63) = 36 then
        gd (inb (x3 + 1) (s 266 0).toNatClampNeg) (
          gd (inb (x3 + 2) (s 266 0).toNatClampNeg) (
            gd (inb (x3 + 3) (s 266 0).toNatClampNeg) (
              bI (LL_sheet s (s 265 ((x3 + 1)).toNatClampNeg) (s 265 ((x3 + 2)).toNatClampNeg) (s 265 ((x3 + 3)).toNatClampNeg)) fun v73 s73 =>
                gd (inb (x3 + 1) (s73 266 0).toNatClampNeg) (
                  gd (inb (x3 + 2) (s73 266 0).toNatClampNeg) (
                    gd (inb (x3 + 3) (s73 266 0).toNatClampNeg) (
                      bI (mo_sheet s73 (s73 265 ((x3 + 1)).toNatClampNeg) (s73 265 ((x3 + 2)).toNatClampNeg) (s73 265 ((x3 + 3)).toNatClampNeg)) fun v74 s74 =>
                        if v73 = v74 then
                          la_law_18 s74 (x3 + 7)
                        else
                          rI 0 s74))))))
      else
      if ((s 265 x3.toNatClampNeg) &&& 63) = 37 then
        gd (inb (x3 + 1) (s 266 0).toNatClampNeg) (
          gd (inb (x3 + 2) (s 266 0).toNatClampNeg) (
            gd (inb (x3 + 3) (s 266 0).toNatClampNeg) (
              bI (LL_lay s (s 265 ((x3 + 1)).toNatClampNeg) (s 265 ((x3 + 2)).toNatClampNeg) (s 265 ((x3 + 3)).toNatClampNeg)) fun v75 s75 =>
                gd (inb (x3 + 1) (s75 266 0).toNatClampNeg) (
                  gd (inb (x3 + 2) (s75 266 0).toNatClampNeg) (
                    gd (inb (x3 + 3) (s75 266 0).toNatClampNeg) (
                      bI (mo_lay s75 (s75 265 ((x3 + 1)).toNatClampNeg) (s75 265 ((x3 + 2)).toNatClampNeg) (s75 265 ((x3 + 3)).toNatClampNeg)) fun v76 s76 =>
                        if v75 = v76 then
                          la_law_18 s76 (x3 + 7)
                        else
                          rI 0 s76))))))
      else
      if ((s 265 x3.toNatClampNeg) &&& 63) = 38 then
        gd (inb (x3 + 1) (s 266 0).toNatClampNeg) (
          gd (inb (x3 + 2) (s 266 0).toNatClampNeg) (
            gd (inb (x3 + 3) (s 266 0).toNatClampNeg) (
              bI (LL_read s (s 265 ((x3 + 1)).toNatClampNeg) (s 265 ((x3 + 2)).toNatClampNeg) (s 265 ((x3 + 3)).toNatClampNeg)) fun v77 s77 =>
                gd (inb (x3 + 1) (s77 266 0).toNatClampNeg) (
                  gd (inb (x3 + 2) (s77 266 0).toNatClampNeg) (
                    gd (inb (x3 + 3) (s77 266 0).toNatClampNeg) (
                      bI (mo_read s77 (s77 265 ((x3 + 1)).toNatClampNeg) (s77 265 ((x3 + 2)).toNatClampNeg) (s77 265 ((x3 + 3)).toNatClampNeg)) fun v78 s78 =>
                        if v77 = v78 then
                          la_law_18 s78 (x3 + 7)
                        else
                          rI 0 s78))))))
      else
      if ((s 265 x3.toNatClampNeg) &&& 63) = 39 then
        gd (inb (x3 + 1) (s 266 0).toNatClampNeg) (
          bI (LL_count s (s 265 ((x3 + 1)).toNatClampNeg)) fun v79 s79 =>
            gd (inb (x3 + 1) (s79 266 0).toNatClampNeg) (
              bI (mo_count s79 (s79 265 ((x3 + 1)).toNatClampNeg)) fun v80 s80 =>
                if v79 = v80 then
                  la_law_18 s80 (x3 + 7)
                else
                  rI 0 s80))
      else
        la_law_18 s (x3 + 7)) : mO) := (EV_un 2000 248 18 [some (pA 265), some (pA 0), some (pA 183), some (pI x3)] [] s).trans rfl
