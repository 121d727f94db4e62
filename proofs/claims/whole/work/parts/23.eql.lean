set_option maxRecDepth 100000 in
set_option maxHeartbeats 4000000 in
theorem la_law_18_eq (s : mSt) (x3 : Int32) : la_law_18 s x3 = (
  if ((Int32.ofNat (s 266 0).toNatClampNeg) - 7) < x3 then
    rI 1 s
  else
    gd (inb x3 (s 266 0).toNatClampNeg) (
      if ((s 265 x3.toNatClampNeg) &&& 63) = 0 then
        la_law_208 s x3
      else
      if ((s 265 x3.toNatClampNeg) &&& 63) = 1 then
        la_law_241 s x3
      else
      if ((s 265 x3.toNatClampNeg) &&& 63) = 2 then
        la_law_316 s x3
      else
      if ((s 265 x3.toNatClampNeg) &&& 63) = 3 then
        la_law_349 s x3
      else
      if ((s 265 x3.toNatClampNeg) &&& 63) = 4 then
        la_law_372 s x3
      else
      if ((s 265 x3.toNatClampNeg) &&& 63) = 5 then
        la_law_395 s x3
      else
      if ((s 265 x3.toNatClampNeg) &&& 63) = 6 then
        la_law_438 s x3
      else
      if ((s 265 x3.toNatClampNeg) &&& 63) = 7 then
        la_law_461 s x3
      else
      if ((s 265 x3.toNatClampNeg) &&& 63) = 8 then
        la_law_484 s x3
      else
      if ((s 265 x3.toNatClampNeg) &&& 63) = 9 then
        la_law_537 s x3
      else
      if ((s 265 x3.toNatClampNeg) &&& 63) = 10 then
        la_law_560 s x3
      else
      if ((s 265 x3.toNatClampNeg) &&& 63) = 11 then
        la_law_573 s x3
      else
      if ((s 265 x3.toNatClampNeg) &&& 63) = 12 then
        la_law_586 s x3
      else
      if ((s 265 x3.toNatClampNeg) &&& 63) = 13 then
        la_law_609 s x3
      else
      if ((s 265 x3.toNatClampNeg) &&& 63) = 14 then
        la_law_642 s x3
      else
      if ((s 265 x3.toNatClampNeg) &&& 63) = 15 then
        la_law_685 s x3
      else
      if ((s 265 x3.toNatClampNeg) &&& 63) = 16 then
        la_law_718 s x3
      else
      if ((s 265 x3.toNatClampNeg) &&& 63) = 17 then
        la_law_741 s x3
      else
      if ((s 265 x3.toNatClampNeg) &&& 63) = 18 then
        la_law_774 s x3
      else
      if ((s 265 x3.toNatClampNeg) &&& 63) = 19 then
        la_law_817 s x3
      else
      if ((s 265 x3.toNatClampNeg) &&& 63) = 20 then
        la_law_850 s x3
      else
      if ((s 265 x3.toNatClampNeg) &&& 63) = 21 then
        la_law_893 s x3
      else
      if ((s 265 x3.toNatClampNeg) &&& 63) = 22 then
        la_law_916 s x3
      else
      if ((s 265 x3.toNatClampNeg) &&& 63) = 23 then
        la_law_949 s x3
      else
      if ((s 265 x3.toNatClampNeg) &&& 63) = 24 then
        la_law_1002 s x3
      else
      if ((s 265 x3.toNatClampNeg) &&& 63) = 25 then
        la_law_1035 s x3
      else
      if ((s 265 x3.toNatClampNeg) &&& 63) = 26 then
        la_law_1088 s x3
      else
      if ((s 265 x3.toNatClampNeg) &&& 63) = 27 then
        la_law_1131 s x3
      else
      if ((s 265 x3.toNatClampNeg) &&& 63) = 28 then
        la_law_1174 s x3
      else
      if ((s 265 x3.toNatClampNeg) &&& 63) = 29 then
        la_law_1207 s x3
      else
      if ((s 265 x3.toNatClampNeg) &&& 63) = 30 then
        la_law_1240 s x3
      else
      if ((s 265 x3.toNatClampNeg) &&& 63) = 31 then
        la_law_1263 s x3
      else
      if ((s 265 x3.toNatClampNeg) &&& 63) = 32 then
        la_law_1286 s x3
      else
      if ((s 265 x3.toNatClampNeg) &&& 63) = 33 then
        la_law_1319 s x3
      else
      if ((s 265 x3.toNatClampNeg) &&& 63) = 34 then
        la_law_1352 s x3
      else
      if ((s 265 x3.toNatClampNeg) &&& 63) = 35 then
        la_law_1395 s x3
      else
      if ((s 265 x3.toNatClampNeg) &&& 63) = 36 then
        la_law_1428 s x3
      else
      if ((s 265 x3.toNatClampNeg) &&& 63) = 37 then
        la_law_1471 s x3
      else
      if ((s 265 x3.toNatClampNeg) &&& 63) = 38 then
        la_law_1514 s x3
      else
      if ((s 265 x3.toNatClampNeg) &&& 63) = 39 then
        la_law_1557 s x3
      else
        la_law_1580 s x3) : mO) := (EV_un 2000 248 18 [some (pA 265), some (pA 0), some (pA 183), some (pI x3)] [] s).trans rfl
set_option maxRecDepth 100000 in
set_option maxHeartbeats 4000000 in
theorem la_law_208_eq (s : mSt) (x3 : Int32) : la_law_208 s x3 = (
  gd (inb (x3 + 1) (s 266 0).toNatClampNeg) (
    gd (inb (x3 + 2) (s 266 0).toNatClampNeg) (
      bI (LL_land s (s 265 ((x3 + 1)).toNatClampNeg) (s 265 ((x3 + 2)).toNatClampNeg)) fun v1 s1 =>
        gd (inb (x3 + 1) (s1 266 0).toNatClampNeg) (
          gd (inb (x3 + 2) (s1 266 0).toNatClampNeg) (
            bI (mo_land s1 (s1 265 ((x3 + 1)).toNatClampNeg) (s1 265 ((x3 + 2)).toNatClampNeg)) fun v2 s2 =>
              if v1 = v2 then
                la_law_1580 s2 x3
              else
                rI 0 s2)))) : mO) := (EV_un 2000 248 208 [some (pA 265), some (pA 0), some (pA 183), some (pI x3)] [] s).trans rfl
set_option maxRecDepth 100000 in
set_option maxHeartbeats 4000000 in
theorem la_law_241_eq (s : mSt) (x3 : Int32) : la_law_241 s x3 = (
  gd (inb (x3 + 1) (s 266 0).toNatClampNeg) (
    gd (inb (x3 + 2) (s 266 0).toNatClampNeg) (
      gd (inb (x3 + 3) (s 266 0).toNatClampNeg) (
        gd (inb (x3 + 4) (s 266 0).toNatClampNeg) (
          gd (inb (x3 + 5) (s 266 0).toNatClampNeg) (
            gd (inb (x3 + 6) (s 266 0).toNatClampNeg) (
              bI (LL_line s (s 265 ((x3 + 1)).toNatClampNeg) (s 265 ((x3 + 2)).toNatClampNeg) (s 265 ((x3 + 3)).toNatClampNeg) (s 265 ((x3 + 4)).toNatClampNeg) (s 265 ((x3 + 5)).toNatClampNeg) (s 265 ((x3 + 6)).toNatClampNeg)) fun v1 s1 =>
                gd (inb (x3 + 1) (s1 266 0).toNatClampNeg) (
                  gd (inb (x3 + 2) (s1 266 0).toNatClampNeg) (
                    gd (inb (x3 + 3) (s1 266 0).toNatClampNeg) (
                      gd (inb (x3 + 4) (s1 266 0).toNatClampNeg) (
                        gd (inb (x3 + 5) (s1 266 0).toNatClampNeg) (
                          gd (inb (x3 + 6) (s1 266 0).toNatClampNeg) (
                            bI (mo_line s1 (s1 265 ((x3 + 1)).toNatClampNeg) (s1 265 ((x3 + 2)).toNatClampNeg) (s1 265 ((x3 + 3)).toNatClampNeg) (s1 265 ((x3 + 4)).toNatClampNeg) (s1 265 ((x3 + 5)).toNatClampNeg) (s1 265 ((x3 + 6)).toNatClampNeg)) fun v2 s2 =>
                              if v1 = v2 then
                                la_law_1580 s2 x3
                              else
                                rI 0 s2)))))))))))) : mO) := (EV_un 2000 248 241 [some (pA 265), some (pA 0), some (pA 183), some (pI x3)] [] s).trans rfl
set_option maxRecDepth 100000 in
set_option maxHeartbeats 4000000 in
theorem la_law_316_eq (s : mSt) (x3 : Int32) : la_law_316 s x3 = (
  gd (inb (x3 + 1) (s 266 0).toNatClampNeg) (
    gd (inb (x3 + 2) (s 266 0).toNatClampNeg) (
      bI (LL_lineOf s (s 265 ((x3 + 1)).toNatClampNeg) (s 265 ((x3 + 2)).toNatClampNeg)) fun v1 s1 =>
        gd (inb (x3 + 1) (s1 266 0).toNatClampNeg) (
          gd (inb (x3 + 2) (s1 266 0).toNatClampNeg) (
            bI (mo_lineOf s1 (s1 265 ((x3 + 1)).toNatClampNeg) (s1 265 ((x3 + 2)).toNatClampNeg)) fun v2 s2 =>
              if v1 = v2 then
                la_law_1580 s2 x3
              else
                rI 0 s2)))) : mO) := (EV_un 2000 248 316 [some (pA 265), some (pA 0), some (pA 183), some (pI x3)] [] s).trans rfl
set_option maxRecDepth 100000 in
set_option maxHeartbeats 4000000 in
theorem la_law_349_eq (s : mSt) (x3 : Int32) : la_law_349 s x3 = (
  gd (inb (x3 + 1) (s 266 0).toNatClampNeg) (
    bI (LL_light s (s 265 ((x3 + 1)).toNatClampNeg)) fun v1 s1 =>
      gd (inb (x3 + 1) (s1 266 0).toNatClampNeg) (
        bI (mo_light s1 (s1 265 ((x3 + 1)).toNatClampNeg)) fun v2 s2 =>
          if v1 = v2 then
            la_law_1580 s2 x3
          else
            rI 0 s2)) : mO) := (EV_un 2000 248 349 [some (pA 265), some (pA 0), some (pA 183), some (pI x3)] [] s).trans rfl
set_option maxRecDepth 100000 in
set_option maxHeartbeats 4000000 in
theorem la_law_372_eq (s : mSt) (x3 : Int32) : la_law_372 s x3 = (
  gd (inb (x3 + 1) (s 266 0).toNatClampNeg) (
    bI (LL_until s (s 265 ((x3 + 1)).toNatClampNeg)) fun v1 s1 =>
      gd (inb (x3 + 1) (s1 266 0).toNatClampNeg) (
        bI (mo_until s1 (s1 265 ((x3 + 1)).toNatClampNeg)) fun v2 s2 =>
          if v1 = v2 then
            la_law_1580 s2 x3
          else
            rI 0 s2)) : mO) := (EV_un 2000 248 372 [some (pA 265), some (pA 0), some (pA 183), some (pI x3)] [] s).trans rfl
set_option maxRecDepth 100000 in
set_option maxHeartbeats 4000000 in
theorem la_law_395_eq (s : mSt) (x3 : Int32) : la_law_395 s x3 = (
  gd (inb (x3 + 1) (s 266 0).toNatClampNeg) (
    gd (inb (x3 + 2) (s 266 0).toNatClampNeg) (
      gd (inb (x3 + 3) (s 266 0).toNatClampNeg) (
        bI (LL_change s (s 265 ((x3 + 1)).toNatClampNeg) (s 265 ((x3 + 2)).toNatClampNeg) (s 265 ((x3 + 3)).toNatClampNeg)) fun v1 s1 =>
          gd (inb (x3 + 1) (s1 266 0).toNatClampNeg) (
            gd (inb (x3 + 2) (s1 266 0).toNatClampNeg) (
              gd (inb (x3 + 3) (s1 266 0).toNatClampNeg) (
                bI (mo_change s1 (s1 265 ((x3 + 1)).toNatClampNeg) (s1 265 ((x3 + 2)).toNatClampNeg) (s1 265 ((x3 + 3)).toNatClampNeg)) fun v2 s2 =>
                  if v1 = v2 then
                    la_law_1580 s2 x3
                  else
                    rI 0 s2)))))) : mO) := (EV_un 2000 248 395 [some (pA 265), some (pA 0), some (pA 183), some (pI x3)] [] s).trans rfl
set_option maxRecDepth 100000 in
set_option maxHeartbeats 4000000 in
theorem la_law_438_eq (s : mSt) (x3 : Int32) : la_law_438 s x3 = (
  gd (inb (x3 + 1) (s 266 0).toNatClampNeg) (
    bI (LL_year s (s 265 ((x3 + 1)).toNatClampNeg)) fun v1 s1 =>
      gd (inb (x3 + 1) (s1 266 0).toNatClampNeg) (
        bI (mo_year s1 (s1 265 ((x3 + 1)).toNatClampNeg)) fun v2 s2 =>
          if v1 = v2 then
            la_law_1580 s2 x3
          else
            rI 0 s2)) : mO) := (EV_un 2000 248 438 [some (pA 265), some (pA 0), some (pA 183), some (pI x3)] [] s).trans rfl
set_option maxRecDepth 100000 in
set_option maxHeartbeats 4000000 in
theorem la_law_461_eq (s : mSt) (x3 : Int32) : la_law_461 s x3 = (
  gd (inb (x3 + 1) (s 266 0).toNatClampNeg) (
    bI (LL_hour s (s 265 ((x3 + 1)).toNatClampNeg)) fun v1 s1 =>
      gd (inb (x3 + 1) (s1 266 0).toNatClampNeg) (
        bI (mo_hour s1 (s1 265 ((x3 + 1)).toNatClampNeg)) fun v2 s2 =>
          if v1 = v2 then
            la_law_1580 s2 x3
          else
            rI 0 s2)) : mO) := (EV_un 2000 248 461 [some (pA 265), some (pA 0), some (pA 183), some (pI x3)] [] s).trans rfl
set_option maxRecDepth 100000 in
set_option maxHeartbeats 4000000 in
theorem la_law_484_eq (s : mSt) (x3 : Int32) : la_law_484 s x3 = (
  gd (inb (x3 + 1) (s 266 0).toNatClampNeg) (
    gd (inb (x3 + 2) (s 266 0).toNatClampNeg) (
      bI (LL_feed s (((s 265 ((x3 + 1)).toNatClampNeg).toInt64 <<< ((32 : Int32).toInt64 &&& 63)) ||| ((s 265 ((x3 + 2)).toNatClampNeg).toInt64 &&& 4294967295))) fun v1 s1 =>
        gd (inb (x3 + 1) (s1 266 0).toNatClampNeg) (
          gd (inb (x3 + 2) (s1 266 0).toNatClampNeg) (
            bI (mo_feed s1 (((s1 265 ((x3 + 1)).toNatClampNeg).toInt64 <<< ((32 : Int32).toInt64 &&& 63)) ||| ((s1 265 ((x3 + 2)).toNatClampNeg).toInt64 &&& 4294967295))) fun v2 s2 =>
              if v1 = v2 then
                la_law_1580 s2 x3
              else
                rI 0 s2)))) : mO) := (EV_un 2000 248 484 [some (pA 265), some (pA 0), some (pA 183), some (pI x3)] [] s).trans rfl
set_option maxRecDepth 100000 in
set_option maxHeartbeats 4000000 in
theorem la_law_537_eq (s : mSt) (x3 : Int32) : la_law_537 s x3 = (
  gd (inb (x3 + 1) (s 266 0).toNatClampNeg) (
    bI (LL_end s (s 265 ((x3 + 1)).toNatClampNeg)) fun v1 s1 =>
      gd (inb (x3 + 1) (s1 266 0).toNatClampNeg) (
        bI (mo_end s1 (s1 265 ((x3 + 1)).toNatClampNeg)) fun v2 s2 =>
          if v1 = v2 then
            la_law_1580 s2 x3
          else
            rI 0 s2)) : mO) := (EV_un 2000 248 537 [some (pA 265), some (pA 0), some (pA 183), some (pI x3)] [] s).trans rfl
set_option maxRecDepth 100000 in
set_option maxHeartbeats 4000000 in
theorem la_law_560_eq (s : mSt) (x3 : Int32) : la_law_560 s x3 = (
  bI (LL_rules s) fun v1 s1 =>
    bI (mo_rules s1) fun v2 s2 =>
      if v1 = v2 then
        la_law_1580 s2 x3
      else
        rI 0 s2 : mO) := (EV_un 2000 248 560 [some (pA 265), some (pA 0), some (pA 183), some (pI x3)] [] s).trans rfl
set_option maxRecDepth 100000 in
set_option maxHeartbeats 4000000 in
theorem la_law_573_eq (s : mSt) (x3 : Int32) : la_law_573 s x3 = (
  bI (LL_fault s) fun v1 s1 =>
    bI (mo_fault s1) fun v2 s2 =>
      if v1 = v2 then
        la_law_1580 s2 x3
      else
        rI 0 s2 : mO) := (EV_un 2000 248 573 [some (pA 265), some (pA 0), some (pA 183), some (pI x3)] [] s).trans rfl
set_option maxRecDepth 100000 in
set_option maxHeartbeats 4000000 in
theorem la_law_586_eq (s : mSt) (x3 : Int32) : la_law_586 s x3 = (
  gd (inb (x3 + 1) (s 266 0).toNatClampNeg) (
    bI (LL_rule s (s 265 ((x3 + 1)).toNatClampNeg)) fun v1 s1 =>
      gd (inb (x3 + 1) (s1 266 0).toNatClampNeg) (
        bI (mo_rule s1 (s1 265 ((x3 + 1)).toNatClampNeg)) fun v2 s2 =>
          if v1 = v2 then
            la_law_1580 s2 x3
          else
            rI 0 s2)) : mO) := (EV_un 2000 248 586 [some (pA 265), some (pA 0), some (pA 183), some (pI x3)] [] s).trans rfl
set_option maxRecDepth 100000 in
set_option maxHeartbeats 4000000 in
theorem la_law_609_eq (s : mSt) (x3 : Int32) : la_law_609 s x3 = (
  gd (inb (x3 + 1) (s 266 0).toNatClampNeg) (
    gd (inb (x3 + 2) (s 266 0).toNatClampNeg) (
      bI (LL_rent s (s 265 ((x3 + 1)).toNatClampNeg) (s 265 ((x3 + 2)).toNatClampNeg)) fun v1 s1 =>
        gd (inb (x3 + 1) (s1 266 0).toNatClampNeg) (
          gd (inb (x3 + 2) (s1 266 0).toNatClampNeg) (
            bI (mo_rent s1 (s1 265 ((x3 + 1)).toNatClampNeg) (s1 265 ((x3 + 2)).toNatClampNeg)) fun v2 s2 =>
              if v1 = v2 then
                la_law_1580 s2 x3
              else
                rI 0 s2)))) : mO) := (EV_un 2000 248 609 [some (pA 265), some (pA 0), some (pA 183), some (pI x3)] [] s).trans rfl
set_option maxRecDepth 100000 in
set_option maxHeartbeats 4000000 in
theorem la_law_642_eq (s : mSt) (x3 : Int32) : la_law_642 s x3 = (
  gd (inb (x3 + 1) (s 266 0).toNatClampNeg) (
    gd (inb (x3 + 2) (s 266 0).toNatClampNeg) (
      gd (inb (x3 + 3) (s 266 0).toNatClampNeg) (
        bI (LL_demand s (s 265 ((x3 + 1)).toNatClampNeg) (s 265 ((x3 + 2)).toNatClampNeg) (s 265 ((x3 + 3)).toNatClampNeg)) fun v1 s1 =>
          gd (inb (x3 + 1) (s1 266 0).toNatClampNeg) (
            gd (inb (x3 + 2) (s1 266 0).toNatClampNeg) (
              gd (inb (x3 + 3) (s1 266 0).toNatClampNeg) (
                bI (mo_demand s1 (s1 265 ((x3 + 1)).toNatClampNeg) (s1 265 ((x3 + 2)).toNatClampNeg) (s1 265 ((x3 + 3)).toNatClampNeg)) fun v2 s2 =>
                  if v1 = v2 then
                    la_law_1580 s2 x3
                  else
                    rI 0 s2)))))) : mO) := (EV_un 2000 248 642 [some (pA 265), some (pA 0), some (pA 183), some (pI x3)] [] s).trans rfl
set_option maxRecDepth 100000 in
set_option maxHeartbeats 4000000 in
theorem la_law_685_eq (s : mSt) (x3 : Int32) : la_law_685 s x3 = (
  gd (inb (x3 + 1) (s 266 0).toNatClampNeg) (
    gd (inb (x3 + 2) (s 266 0).toNatClampNeg) (
      bI (LL_much s (s 265 ((x3 + 1)).toNatClampNeg) (s 265 ((x3 + 2)).toNatClampNeg)) fun v1 s1 =>
        gd (inb (x3 + 1) (s1 266 0).toNatClampNeg) (
          gd (inb (x3 + 2) (s1 266 0).toNatClampNeg) (
            bI (mo_much s1 (s1 265 ((x3 + 1)).toNatClampNeg) (s1 265 ((x3 + 2)).toNatClampNeg)) fun v2 s2 =>
              if v1 = v2 then
                la_law_1580 s2 x3
              else
                rI 0 s2)))) : mO) := (EV_un 2000 248 685 [some (pA 265), some (pA 0), some (pA 183), some (pI x3)] [] s).trans rfl
set_option maxRecDepth 100000 in
set_option maxHeartbeats 4000000 in
theorem la_law_718_eq (s : mSt) (x3 : Int32) : la_law_718 s x3 = (
  gd (inb (x3 + 1) (s 266 0).toNatClampNeg) (
    bI (LL_led s (s 265 ((x3 + 1)).toNatClampNeg)) fun v1 s1 =>
      gd (inb (x3 + 1) (s1 266 0).toNatClampNeg) (
        bI (mo_led s1 (s1 265 ((x3 + 1)).toNatClampNeg)) fun v2 s2 =>
          if v1 = v2 then
            la_law_1580 s2 x3
          else
            rI 0 s2)) : mO) := (EV_un 2000 248 718 [some (pA 265), some (pA 0), some (pA 183), some (pI x3)] [] s).trans rfl
set_option maxRecDepth 100000 in
set_option maxHeartbeats 4000000 in
theorem la_law_741_eq (s : mSt) (x3 : Int32) : la_law_741 s x3 = (
  gd (inb (x3 + 1) (s 266 0).toNatClampNeg) (
    gd (inb (x3 + 2) (s 266 0).toNatClampNeg) (
      bI (LL_way s (s 265 ((x3 + 1)).toNatClampNeg) (s 265 ((x3 + 2)).toNatClampNeg)) fun v1 s1 =>
        gd (inb (x3 + 1) (s1 266 0).toNatClampNeg) (
          gd (inb (x3 + 2) (s1 266 0).toNatClampNeg) (
            bI (mo_way s1 (s1 265 ((x3 + 1)).toNatClampNeg) (s1 265 ((x3 + 2)).toNatClampNeg)) fun v2 s2 =>
              if v1 = v2 then
                la_law_1580 s2 x3
              else
                rI 0 s2)))) : mO) := (EV_un 2000 248 741 [some (pA 265), some (pA 0), some (pA 183), some (pI x3)] [] s).trans rfl
set_option maxRecDepth 100000 in
set_option maxHeartbeats 4000000 in
theorem la_law_774_eq (s : mSt) (x3 : Int32) : la_law_774 s x3 = (
  gd (inb (x3 + 1) (s 266 0).toNatClampNeg) (
    gd (inb (x3 + 2) (s 266 0).toNatClampNeg) (
      gd (inb (x3 + 3) (s 266 0).toNatClampNeg) (
        bI (LL_parts s (s 265 ((x3 + 1)).toNatClampNeg) (s 265 ((x3 + 2)).toNatClampNeg) (s 265 ((x3 + 3)).toNatClampNeg)) fun v1 s1 =>
          gd (inb (x3 + 1) (s1 266 0).toNatClampNeg) (
            gd (inb (x3 + 2) (s1 266 0).toNatClampNeg) (
              gd (inb (x3 + 3) (s1 266 0).toNatClampNeg) (
                bI (mo_parts s1 (s1 265 ((x3 + 1)).toNatClampNeg) (s1 265 ((x3 + 2)).toNatClampNeg) (s1 265 ((x3 + 3)).toNatClampNeg)) fun v2 s2 =>
                  if v1 = v2 then
                    la_law_1580 s2 x3
                  else
                    rI 0 s2)))))) : mO) := (EV_un 2000 248 774 [some (pA 265), some (pA 0), some (pA 183), some (pI x3)] [] s).trans rfl
set_option maxRecDepth 100000 in
set_option maxHeartbeats 4000000 in
theorem la_law_817_eq (s : mSt) (x3 : Int32) : la_law_817 s x3 = (
  gd (inb (x3 + 1) (s 266 0).toNatClampNeg) (
    gd (inb (x3 + 2) (s 266 0).toNatClampNeg) (
      bI (LL_worst s (s 265 ((x3 + 1)).toNatClampNeg) (s 265 ((x3 + 2)).toNatClampNeg)) fun v1 s1 =>
        gd (inb (x3 + 1) (s1 266 0).toNatClampNeg) (
          gd (inb (x3 + 2) (s1 266 0).toNatClampNeg) (
            bI (mo_worst s1 (s1 265 ((x3 + 1)).toNatClampNeg) (s1 265 ((x3 + 2)).toNatClampNeg)) fun v2 s2 =>
              if v1 = v2 then
                la_law_1580 s2 x3
              else
                rI 0 s2)))) : mO) := (EV_un 2000 248 817 [some (pA 265), some (pA 0), some (pA 183), some (pI x3)] [] s).trans rfl
set_option maxRecDepth 100000 in
set_option maxHeartbeats 4000000 in
theorem la_law_850_eq (s : mSt) (x3 : Int32) : la_law_850 s x3 = (
  gd (inb (x3 + 1) (s 266 0).toNatClampNeg) (
    gd (inb (x3 + 2) (s 266 0).toNatClampNeg) (
      gd (inb (x3 + 3) (s 266 0).toNatClampNeg) (
        bI (LL_swing s (s 265 ((x3 + 1)).toNatClampNeg) (s 265 ((x3 + 2)).toNatClampNeg) (s 265 ((x3 + 3)).toNatClampNeg)) fun v1 s1 =>
          gd (inb (x3 + 1) (s1 266 0).toNatClampNeg) (
            gd (inb (x3 + 2) (s1 266 0).toNatClampNeg) (
              gd (inb (x3 + 3) (s1 266 0).toNatClampNeg) (
                bI (mo_swing s1 (s1 265 ((x3 + 1)).toNatClampNeg) (s1 265 ((x3 + 2)).toNatClampNeg) (s1 265 ((x3 + 3)).toNatClampNeg)) fun v2 s2 =>
                  if v1 = v2 then
                    la_law_1580 s2 x3
                  else
                    rI 0 s2)))))) : mO) := (EV_un 2000 248 850 [some (pA 265), some (pA 0), some (pA 183), some (pI x3)] [] s).trans rfl
set_option maxRecDepth 100000 in
set_option maxHeartbeats 4000000 in
theorem la_law_893_eq (s : mSt) (x3 : Int32) : la_law_893 s x3 = (
  gd (inb (x3 + 1) (s 266 0).toNatClampNeg) (
    bI (LL_swings s (s 265 ((x3 + 1)).toNatClampNeg)) fun v1 s1 =>
      gd (inb (x3 + 1) (s1 266 0).toNatClampNeg) (
        bI (mo_swings s1 (s1 265 ((x3 + 1)).toNatClampNeg)) fun v2 s2 =>
          if v1 = v2 then
            la_law_1580 s2 x3
          else
            rI 0 s2)) : mO) := (EV_un 2000 248 893 [some (pA 265), some (pA 0), some (pA 183), some (pI x3)] [] s).trans rfl
set_option maxRecDepth 100000 in
set_option maxHeartbeats 4000000 in
theorem la_law_916_eq (s : mSt) (x3 : Int32) : la_law_916 s x3 = (
  gd (inb (x3 + 1) (s 266 0).toNatClampNeg) (
    gd (inb (x3 + 2) (s 266 0).toNatClampNeg) (
      bI (LL_cut s (s 265 ((x3 + 1)).toNatClampNeg) (s 265 ((x3 + 2)).toNatClampNeg)) fun v1 s1 =>
        gd (inb (x3 + 1) (s1 266 0).toNatClampNeg) (
          gd (inb (x3 + 2) (s1 266 0).toNatClampNeg) (
            bI (mo_cut s1 (s1 265 ((x3 + 1)).toNatClampNeg) (s1 265 ((x3 + 2)).toNatClampNeg)) fun v2 s2 =>
              if v1 = v2 then
                la_law_1580 s2 x3
              else
                rI 0 s2)))) : mO) := (EV_un 2000 248 916 [some (pA 265), some (pA 0), some (pA 183), some (pI x3)] [] s).trans rfl
set_option maxRecDepth 100000 in
set_option maxHeartbeats 4000000 in
theorem la_law_949_eq (s : mSt) (x3 : Int32) : la_law_949 s x3 = (
  gd (inb (x3 + 1) (s 266 0).toNatClampNeg) (
    gd (inb (x3 + 2) (s 266 0).toNatClampNeg) (
      gd (inb (x3 + 3) (s 266 0).toNatClampNeg) (
        gd (inb (x3 + 4) (s 266 0).toNatClampNeg) (
          bI (LL_echo s (s 265 ((x3 + 1)).toNatClampNeg) (s 265 ((x3 + 2)).toNatClampNeg) (s 265 ((x3 + 3)).toNatClampNeg) (s 265 ((x3 + 4)).toNatClampNeg)) fun v1 s1 =>
            gd (inb (x3 + 1) (s1 266 0).toNatClampNeg) (
              gd (inb (x3 + 2) (s1 266 0).toNatClampNeg) (
                gd (inb (x3 + 3) (s1 266 0).toNatClampNeg) (
                  gd (inb (x3 + 4) (s1 266 0).toNatClampNeg) (
                    bI (mo_echo s1 (s1 265 ((x3 + 1)).toNatClampNeg) (s1 265 ((x3 + 2)).toNatClampNeg) (s1 265 ((x3 + 3)).toNatClampNeg) (s1 265 ((x3 + 4)).toNatClampNeg)) fun v2 s2 =>
                      if v1 = v2 then
                        la_law_1580 s2 x3
                      else
                        rI 0 s2)))))))) : mO) := (EV_un 2000 248 949 [some (pA 265), some (pA 0), some (pA 183), some (pI x3)] [] s).trans rfl
set_option maxRecDepth 100000 in
set_option maxHeartbeats 4000000 in
theorem la_law_1002_eq (s : mSt) (x3 : Int32) : la_law_1002 s x3 = (
  gd (inb (x3 + 1) (s 266 0).toNatClampNeg) (
    gd (inb (x3 + 2) (s 266 0).toNatClampNeg) (
      bI (LL_breakOf s (s 265 ((x3 + 1)).toNatClampNeg) (s 265 ((x3 + 2)).toNatClampNeg)) fun v1 s1 =>
        gd (inb (x3 + 1) (s1 266 0).toNatClampNeg) (
          gd (inb (x3 + 2) (s1 266 0).toNatClampNeg) (
            bI (mo_breakOf s1 (s1 265 ((x3 + 1)).toNatClampNeg) (s1 265 ((x3 + 2)).toNatClampNeg)) fun v2 s2 =>
              if v1 = v2 then
                la_law_1580 s2 x3
              else
                rI 0 s2)))) : mO) := (EV_un 2000 248 1002 [some (pA 265), some (pA 0), some (pA 183), some (pI x3)] [] s).trans rfl
set_option maxRecDepth 100000 in
set_option maxHeartbeats 4000000 in
theorem la_law_1035_eq (s : mSt) (x3 : Int32) : la_law_1035 s x3 = (
  gd (inb (x3 + 1) (s 266 0).toNatClampNeg) (
    gd (inb (x3 + 2) (s 266 0).toNatClampNeg) (
      gd (inb (x3 + 3) (s 266 0).toNatClampNeg) (
        gd (inb (x3 + 4) (s 266 0).toNatClampNeg) (
          bI (LL_quake s (s 265 ((x3 + 1)).toNatClampNeg) (s 265 ((x3 + 2)).toNatClampNeg) (s 265 ((x3 + 3)).toNatClampNeg) (s 265 ((x3 + 4)).toNatClampNeg)) fun v1 s1 =>
            gd (inb (x3 + 1) (s1 266 0).toNatClampNeg) (
              gd (inb (x3 + 2) (s1 266 0).toNatClampNeg) (
                gd (inb (x3 + 3) (s1 266 0).toNatClampNeg) (
                  gd (inb (x3 + 4) (s1 266 0).toNatClampNeg) (
                    bI (mo_quake s1 (s1 265 ((x3 + 1)).toNatClampNeg) (s1 265 ((x3 + 2)).toNatClampNeg) (s1 265 ((x3 + 3)).toNatClampNeg) (s1 265 ((x3 + 4)).toNatClampNeg)) fun v2 s2 =>
                      if v1 = v2 then
                        la_law_1580 s2 x3
                      else
                        rI 0 s2)))))))) : mO) := (EV_un 2000 248 1035 [some (pA 265), some (pA 0), some (pA 183), some (pI x3)] [] s).trans rfl
set_option maxRecDepth 100000 in
set_option maxHeartbeats 4000000 in
theorem la_law_1088_eq (s : mSt) (x3 : Int32) : la_law_1088 s x3 = (
  gd (inb (x3 + 1) (s 266 0).toNatClampNeg) (
    gd (inb (x3 + 2) (s 266 0).toNatClampNeg) (
      gd (inb (x3 + 3) (s 266 0).toNatClampNeg) (
        bI (LL_shared s (s 265 ((x3 + 1)).toNatClampNeg) (s 265 ((x3 + 2)).toNatClampNeg) (s 265 ((x3 + 3)).toNatClampNeg)) fun v1 s1 =>
          gd (inb (x3 + 1) (s1 266 0).toNatClampNeg) (
            gd (inb (x3 + 2) (s1 266 0).toNatClampNeg) (
              gd (inb (x3 + 3) (s1 266 0).toNatClampNeg) (
                bI (mo_shared s1 (s1 265 ((x3 + 1)).toNatClampNeg) (s1 265 ((x3 + 2)).toNatClampNeg) (s1 265 ((x3 + 3)).toNatClampNeg)) fun v2 s2 =>
                  if v1 = v2 then
                    la_law_1580 s2 x3
                  else
                    rI 0 s2)))))) : mO) := (EV_un 2000 248 1088 [some (pA 265), some (pA 0), some (pA 183), some (pI x3)] [] s).trans rfl
set_option maxRecDepth 100000 in
set_option maxHeartbeats 4000000 in
theorem la_law_1131_eq (s : mSt) (x3 : Int32) : la_law_1131 s x3 = (
  gd (inb (x3 + 1) (s 266 0).toNatClampNeg) (
    gd (inb (x3 + 2) (s 266 0).toNatClampNeg) (
      gd (inb (x3 + 3) (s 266 0).toNatClampNeg) (
        bI (LL_ship s (s 265 ((x3 + 1)).toNatClampNeg) (s 265 ((x3 + 2)).toNatClampNeg) (s 265 ((x3 + 3)).toNatClampNeg)) fun v1 s1 =>
          gd (inb (x3 + 1) (s1 266 0).toNatClampNeg) (
            gd (inb (x3 + 2) (s1 266 0).toNatClampNeg) (
              gd (inb (x3 + 3) (s1 266 0).toNatClampNeg) (
                bI (mo_ship s1 (s1 265 ((x3 + 1)).toNatClampNeg) (s1 265 ((x3 + 2)).toNatClampNeg) (s1 265 ((x3 + 3)).toNatClampNeg)) fun v2 s2 =>
                  if v1 = v2 then
                    la_law_1580 s2 x3
                  else
                    rI 0 s2)))))) : mO) := (EV_un 2000 248 1131 [some (pA 265), some (pA 0), some (pA 183), some (pI x3)] [] s).trans rfl
set_option maxRecDepth 100000 in
set_option maxHeartbeats 4000000 in
theorem la_law_1174_eq (s : mSt) (x3 : Int32) : la_law_1174 s x3 = (
  gd (inb (x3 + 1) (s 266 0).toNatClampNeg) (
    gd (inb (x3 + 2) (s 266 0).toNatClampNeg) (
      bI (LL_shipOf s (s 265 ((x3 + 1)).toNatClampNeg) (s 265 ((x3 + 2)).toNatClampNeg)) fun v1 s1 =>
        gd (inb (x3 + 1) (s1 266 0).toNatClampNeg) (
          gd (inb (x3 + 2) (s1 266 0).toNatClampNeg) (
            bI (mo_shipOf s1 (s1 265 ((x3 + 1)).toNatClampNeg) (s1 265 ((x3 + 2)).toNatClampNeg)) fun v2 s2 =>
              if v1 = v2 then
                la_law_1580 s2 x3
              else
                rI 0 s2)))) : mO) := (EV_un 2000 248 1174 [some (pA 265), some (pA 0), some (pA 183), some (pI x3)] [] s).trans rfl
set_option maxRecDepth 100000 in
set_option maxHeartbeats 4000000 in
theorem la_law_1207_eq (s : mSt) (x3 : Int32) : la_law_1207 s x3 = (
  gd (inb (x3 + 1) (s 266 0).toNatClampNeg) (
    gd (inb (x3 + 2) (s 266 0).toNatClampNeg) (
      bI (LL_send s (s 265 ((x3 + 1)).toNatClampNeg) (s 265 ((x3 + 2)).toNatClampNeg)) fun v1 s1 =>
        gd (inb (x3 + 1) (s1 266 0).toNatClampNeg) (
          gd (inb (x3 + 2) (s1 266 0).toNatClampNeg) (
            bI (mo_send s1 (s1 265 ((x3 + 1)).toNatClampNeg) (s1 265 ((x3 + 2)).toNatClampNeg)) fun v2 s2 =>
              if v1 = v2 then
                la_law_1580 s2 x3
              else
                rI 0 s2)))) : mO) := (EV_un 2000 248 1207 [some (pA 265), some (pA 0), some (pA 183), some (pI x3)] [] s).trans rfl
set_option maxRecDepth 100000 in
set_option maxHeartbeats 4000000 in
theorem la_law_1240_eq (s : mSt) (x3 : Int32) : la_law_1240 s x3 = (
  gd (inb (x3 + 1) (s 266 0).toNatClampNeg) (
    bI (LL_order s (s 265 ((x3 + 1)).toNatClampNeg)) fun v1 s1 =>
      gd (inb (x3 + 1) (s1 266 0).toNatClampNeg) (
        bI (mo_order s1 (s1 265 ((x3 + 1)).toNatClampNeg)) fun v2 s2 =>
          if v1 = v2 then
            la_law_1580 s2 x3
          else
            rI 0 s2)) : mO) := (EV_un 2000 248 1240 [some (pA 265), some (pA 0), some (pA 183), some (pI x3)] [] s).trans rfl
set_option maxRecDepth 100000 in
set_option maxHeartbeats 4000000 in
theorem la_law_1263_eq (s : mSt) (x3 : Int32) : la_law_1263 s x3 = (
  gd (inb (x3 + 1) (s 266 0).toNatClampNeg) (
    bI (LL_plain s (s 265 ((x3 + 1)).toNatClampNeg)) fun v1 s1 =>
      gd (inb (x3 + 1) (s1 266 0).toNatClampNeg) (
        bI (mo_plain s1 (s1 265 ((x3 + 1)).toNatClampNeg)) fun v2 s2 =>
          if v1 = v2 then
            la_law_1580 s2 x3
          else
            rI 0 s2)) : mO) := (EV_un 2000 248 1263 [some (pA 265), some (pA 0), some (pA 183), some (pI x3)] [] s).trans rfl
set_option maxRecDepth 100000 in
set_option maxHeartbeats 4000000 in
theorem la_law_1286_eq (s : mSt) (x3 : Int32) : la_law_1286 s x3 = (
  gd (inb (x3 + 1) (s 266 0).toNatClampNeg) (
    gd (inb (x3 + 2) (s 266 0).toNatClampNeg) (
      bI (LL_owed s (s 265 ((x3 + 1)).toNatClampNeg) (s 265 ((x3 + 2)).toNatClampNeg)) fun v1 s1 =>
        gd (inb (x3 + 1) (s1 266 0).toNatClampNeg) (
          gd (inb (x3 + 2) (s1 266 0).toNatClampNeg) (
            bI (mo_owed s1 (s1 265 ((x3 + 1)).toNatClampNeg) (s1 265 ((x3 + 2)).toNatClampNeg)) fun v2 s2 =>
              if v1 = v2 then
                la_law_1580 s2 x3
              else
                rI 0 s2)))) : mO) := (EV_un 2000 248 1286 [some (pA 265), some (pA 0), some (pA 183), some (pI x3)] [] s).trans rfl
set_option maxRecDepth 100000 in
set_option maxHeartbeats 4000000 in
theorem la_law_1319_eq (s : mSt) (x3 : Int32) : la_law_1319 s x3 = (
  gd (inb (x3 + 1) (s 266 0).toNatClampNeg) (
    gd (inb (x3 + 2) (s 266 0).toNatClampNeg) (
      bI (LL_paid s (s 265 ((x3 + 1)).toNatClampNeg) (s 265 ((x3 + 2)).toNatClampNeg)) fun v1 s1 =>
        gd (inb (x3 + 1) (s1 266 0).toNatClampNeg) (
          gd (inb (x3 + 2) (s1 266 0).toNatClampNeg) (
            bI (mo_paid s1 (s1 265 ((x3 + 1)).toNatClampNeg) (s1 265 ((x3 + 2)).toNatClampNeg)) fun v2 s2 =>
              if v1 = v2 then
                la_law_1580 s2 x3
              else
                rI 0 s2)))) : mO) := (EV_un 2000 248 1319 [some (pA 265), some (pA 0), some (pA 183), some (pI x3)] [] s).trans rfl
set_option maxRecDepth 100000 in
set_option maxHeartbeats 4000000 in
theorem la_law_1352_eq (s : mSt) (x3 : Int32) : la_law_1352 s x3 = (
  gd (inb (x3 + 1) (s 266 0).toNatClampNeg) (
    gd (inb (x3 + 2) (s 266 0).toNatClampNeg) (
      gd (inb (x3 + 3) (s 266 0).toNatClampNeg) (
        bI (LL_plan s (s 265 ((x3 + 1)).toNatClampNeg) (s 265 ((x3 + 2)).toNatClampNeg) (s 265 ((x3 + 3)).toNatClampNeg)) fun v1 s1 =>
          gd (inb (x3 + 1) (s1 266 0).toNatClampNeg) (
            gd (inb (x3 + 2) (s1 266 0).toNatClampNeg) (
              gd (inb (x3 + 3) (s1 266 0).toNatClampNeg) (
                bI (mo_plan s1 (s1 265 ((x3 + 1)).toNatClampNeg) (s1 265 ((x3 + 2)).toNatClampNeg) (s1 265 ((x3 + 3)).toNatClampNeg)) fun v2 s2 =>
                  if v1 = v2 then
                    la_law_1580 s2 x3
                  else
                    rI 0 s2)))))) : mO) := (EV_un 2000 248 1352 [some (pA 265), some (pA 0), some (pA 183), some (pI x3)] [] s).trans rfl
set_option maxRecDepth 100000 in
set_option maxHeartbeats 4000000 in
theorem la_law_1395_eq (s : mSt) (x3 : Int32) : la_law_1395 s x3 = (
  gd (inb (x3 + 1) (s 266 0).toNatClampNeg) (
    gd (inb (x3 + 2) (s 266 0).toNatClampNeg) (
      bI (LL_safe s (s 265 ((x3 + 1)).toNatClampNeg) (s 265 ((x3 + 2)).toNatClampNeg)) fun v1 s1 =>
        gd (inb (x3 + 1) (s1 266 0).toNatClampNeg) (
          gd (inb (x3 + 2) (s1 266 0).toNatClampNeg) (
            bI (mo_safe s1 (s1 265 ((x3 + 1)).toNatClampNeg) (s1 265 ((x3 + 2)).toNatClampNeg)) fun v2 s2 =>
              if v1 = v2 then
                la_law_1580 s2 x3
              else
                rI 0 s2)))) : mO) := (EV_un 2000 248 1395 [some (pA 265), some (pA 0), some (pA 183), some (pI x3)] [] s).trans rfl
set_option maxRecDepth 100000 in
set_option maxHeartbeats 4000000 in
theorem la_law_1428_eq (s : mSt) (x3 : Int32) : la_law_1428 s x3 = (
  gd (inb (x3 + 1) (s 266 0).toNatClampNeg) (
    gd (inb (x3 + 2) (s 266 0).toNatClampNeg) (
      gd (inb (x3 + 3) (s 266 0).toNatClampNeg) (
        bI (LL_sheet s (s 265 ((x3 + 1)).toNatClampNeg) (s 265 ((x3 + 2)).toNatClampNeg) (s 265 ((x3 + 3)).toNatClampNeg)) fun v1 s1 =>
          gd (inb (x3 + 1) (s1 266 0).toNatClampNeg) (
            gd (inb (x3 + 2) (s1 266 0).toNatClampNeg) (
              gd (inb (x3 + 3) (s1 266 0).toNatClampNeg) (
                bI (mo_sheet s1 (s1 265 ((x3 + 1)).toNatClampNeg) (s1 265 ((x3 + 2)).toNatClampNeg) (s1 265 ((x3 + 3)).toNatClampNeg)) fun v2 s2 =>
                  if v1 = v2 then
                    la_law_1580 s2 x3
                  else
                    rI 0 s2)))))) : mO) := (EV_un 2000 248 1428 [some (pA 265), some (pA 0), some (pA 183), some (pI x3)] [] s).trans rfl
set_option maxRecDepth 100000 in
set_option maxHeartbeats 4000000 in
theorem la_law_1471_eq (s : mSt) (x3 : Int32) : la_law_1471 s x3 = (
  gd (inb (x3 + 1) (s 266 0).toNatClampNeg) (
    gd (inb (x3 + 2) (s 266 0).toNatClampNeg) (
      gd (inb (x3 + 3) (s 266 0).toNatClampNeg) (
        bI (LL_lay s (s 265 ((x3 + 1)).toNatClampNeg) (s 265 ((x3 + 2)).toNatClampNeg) (s 265 ((x3 + 3)).toNatClampNeg)) fun v1 s1 =>
          gd (inb (x3 + 1) (s1 266 0).toNatClampNeg) (
            gd (inb (x3 + 2) (s1 266 0).toNatClampNeg) (
              gd (inb (x3 + 3) (s1 266 0).toNatClampNeg) (
                bI (mo_lay s1 (s1 265 ((x3 + 1)).toNatClampNeg) (s1 265 ((x3 + 2)).toNatClampNeg) (s1 265 ((x3 + 3)).toNatClampNeg)) fun v2 s2 =>
                  if v1 = v2 then
                    la_law_1580 s2 x3
                  else
                    rI 0 s2)))))) : mO) := (EV_un 2000 248 1471 [some (pA 265), some (pA 0), some (pA 183), some (pI x3)] [] s).trans rfl
set_option maxRecDepth 100000 in
set_option maxHeartbeats 4000000 in
theorem la_law_1514_eq (s : mSt) (x3 : Int32) : la_law_1514 s x3 = (
  gd (inb (x3 + 1) (s 266 0).toNatClampNeg) (
    gd (inb (x3 + 2) (s 266 0).toNatClampNeg) (
      gd (inb (x3 + 3) (s 266 0).toNatClampNeg) (
        bI (LL_read s (s 265 ((x3 + 1)).toNatClampNeg) (s 265 ((x3 + 2)).toNatClampNeg) (s 265 ((x3 + 3)).toNatClampNeg)) fun v1 s1 =>
          gd (inb (x3 + 1) (s1 266 0).toNatClampNeg) (
            gd (inb (x3 + 2) (s1 266 0).toNatClampNeg) (
              gd (inb (x3 + 3) (s1 266 0).toNatClampNeg) (
                bI (mo_read s1 (s1 265 ((x3 + 1)).toNatClampNeg) (s1 265 ((x3 + 2)).toNatClampNeg) (s1 265 ((x3 + 3)).toNatClampNeg)) fun v2 s2 =>
                  if v1 = v2 then
                    la_law_1580 s2 x3
                  else
                    rI 0 s2)))))) : mO) := (EV_un 2000 248 1514 [some (pA 265), some (pA 0), some (pA 183), some (pI x3)] [] s).trans rfl
set_option maxRecDepth 100000 in
set_option maxHeartbeats 4000000 in
theorem la_law_1557_eq (s : mSt) (x3 : Int32) : la_law_1557 s x3 = (
  gd (inb (x3 + 1) (s 266 0).toNatClampNeg) (
    bI (LL_count s (s 265 ((x3 + 1)).toNatClampNeg)) fun v1 s1 =>
      gd (inb (x3 + 1) (s1 266 0).toNatClampNeg) (
        bI (mo_count s1 (s1 265 ((x3 + 1)).toNatClampNeg)) fun v2 s2 =>
          if v1 = v2 then
            la_law_1580 s2 x3
          else
            rI 0 s2)) : mO) := (EV_un 2000 248 1557 [some (pA 265), some (pA 0), some (pA 183), some (pI x3)] [] s).trans rfl
set_option maxRecDepth 100000 in
set_option maxHeartbeats 4000000 in
theorem la_law_1580_eq (s : mSt) (x3 : Int32) : la_law_1580 s x3 = (
  la_law_18 s (x3 + 7) : mO) := (EV_un 2000 248 1580 [some (pA 265), some (pA 0), some (pA 183), some (pI x3)] [] s).trans rfl
