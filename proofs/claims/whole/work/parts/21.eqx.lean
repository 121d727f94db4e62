set_option maxRecDepth 100000 in
set_option maxHeartbeats 4000000 in
theorem LL_land_eq (s : mSt) (x1 : Int32) (x2 : Int32) : LL_land s x1 x2 = (
  bI (LL_isWithin s x1 0 99) fun v1 s1 =>
    if v1 = 0 then
      rI (-1) s1
    else
      bI (LL_isWithin s1 x2 0 99) fun v2 s2 =>
        if v2 = 0 then
          rI (-1) s2
        else
          bI (ne_addLand s2 x1 x2) fun v3 s3 =>
            rI v3 s3 : mO) := (EV_un 2000 105 0 [some (pA 0), some (pI x1), some (pI x2)] [] s).trans rfl
set_option maxRecDepth 100000 in
set_option maxHeartbeats 4000000 in
theorem LL_line_eq (s : mSt) (x1 : Int32) (x2 : Int32) (x3 : Int32) (x4 : Int32) (x5 : Int32) (x6 : Int32) : LL_line s x1 x2 x3 x4 x5 x6 = (
  bI (LL_areTwoLands s x1 x2) fun v1 s1 =>
    if v1 = 0 then
      rI (-1) s1
    else
      bI (LL_isWithin s1 x3 0 1) fun v2 s2 =>
        if v2 = 0 then
          rI (-1) s2
        else
          bI (LL_isWithin s2 x6 0 99) fun v3 s3 =>
            if v3 = 0 then
              rI (-1) s3
            else
              bI (LL_isWithin s3 x4 1 8) fun v4 s4 =>
                if v4 = 0 then
                  rI (-1) s4
                else
                  bI (LL_isWithin s4 x5 0 20) fun v5 s5 =>
                    if v5 = 0 then
                      rI (-1) s5
                    else
                      bI (ne_addLine s5 x1 x2) fun v6 s6 =>
                        if v6 < 0 then
                          rI v6 s6
                        else
                          gd (inb v6 12) (
                            gd (inb v6 12) (
                              gd (inb v6 12) (
                                gd (inb v6 12) (
                                  rI v6 (wr (wr (wr (wr s6 30 v6.toNatClampNeg x3) 31 v6.toNatClampNeg x4) 32 v6.toNatClampNeg x5) 33 v6.toNatClampNeg x6))))) : mO) := (EV_un 2000 106 0 [some (pA 0), some (pI x1), some (pI x2), some (pI x3), some (pI x4), some (pI x5), some (pI x6), none] [] s).trans rfl
set_option maxRecDepth 100000 in
set_option maxHeartbeats 4000000 in
theorem LL_lineOf_eq (s : mSt) (x1 : Int32) (x2 : Int32) : LL_lineOf s x1 x2 = (
  bI (ne_hasLine s x1) fun v1 s1 =>
    if v1 = 0 then
      rI (-1) s1
    else
      if x2 = 0 then
        gd (inb x1 12) (
          rI (s1 28 x1.toNatClampNeg) s1)
      else
      if x2 = 1 then
        gd (inb x1 12) (
          rI (s1 29 x1.toNatClampNeg) s1)
      else
      if x2 = 2 then
        gd (inb x1 12) (
          rI (s1 30 x1.toNatClampNeg) s1)
      else
      if x2 = 3 then
        gd (inb x1 12) (
          rI (s1 31 x1.toNatClampNeg) s1)
      else
      if x2 = 4 then
        gd (inb x1 12) (
          rI (s1 32 x1.toNatClampNeg) s1)
      else
      if x2 = 5 then
        gd (inb x1 12) (
          rI (s1 33 x1.toNatClampNeg) s1)
      else
      if x2 = 6 then
        gd (inb x1 12) (
          rI (s1 34 x1.toNatClampNeg) s1)
      else
      if x2 = 7 then
        bI (br_stateOf s1 x1) fun v2 s2 =>
          rI v2 s2
      else
      if x2 = 8 then
        bI (br_roomOf s1 x1 0) fun v3 s3 =>
          rI v3 s3
      else
      if x2 = 9 then
        bI (tr_goesBy s1 x1) fun v4 s4 =>
          rI v4 s4
      else
      if x2 = 10 then
        bI (tr_ahead s1 x1) fun v5 s5 =>
          rI v5 s5
      else
        rI (-1) s1 : mO) := (EV_un 2000 107 0 [some (pA 0), some (pI x1), some (pI x2)] [] s).trans rfl
set_option maxRecDepth 100000 in
set_option maxHeartbeats 4000000 in
theorem LL_light_eq (s : mSt) (x1 : Int32) : LL_light s x1 = (
  bI (ne_hasLine s x1) fun v1 s1 =>
    if v1 = 0 then
      rI (-10000) s1
    else
      bI (ne_lightIn s1 x1 (s1 25 1)) fun v2 s2 =>
        rI v2 s2 : mO) := (EV_un 2000 108 0 [some (pA 0), some (pI x1)] [] s).trans rfl
set_option maxRecDepth 100000 in
set_option maxHeartbeats 4000000 in
theorem LL_until_eq (s : mSt) (x1 : Int32) : LL_until s x1 = (
  bI (ne_hasLine s x1) fun v1 s1 =>
    if v1 = 0 then
      rI (-1) s1
    else
      LL_until_15 s1 x1 0 : mO) := (EV_un 2000 109 0 [some (pA 0), some (pI x1), none] [] s).trans rfl
set_option maxRecDepth 100000 in
set_option maxHeartbeats 4000000 in
theorem LL_until_15_eq (s : mSt) (x1 : Int32) (x2 : Int32) : LL_until_15 s x1 x2 = (
  if (99 : Int32) < x2 then
    rI (-4) s
  else
    bI (ne_lightIn s x1 x2) fun v1 s1 =>
      if (s1 2 1) ≤ v1 then
        LL_until_15 s1 x1 (x2 + 1)
      else
        rI x2 s1 : mO) := (EV_un 2000 109 15 [some (pA 0), some (pI x1), some (pI x2)] [] s).trans rfl
set_option maxRecDepth 100000 in
set_option maxHeartbeats 4000000 in
theorem LL_change_eq (s : mSt) (x1 : Int32) (x2 : Int32) (x3 : Int32) : LL_change s x1 x2 x3 = (
  bI (ne_hasLine s x1) fun v1 s1 =>
    if v1 = 0 then
      rI (-1) s1
    else
      bI (LL_isWithin s1 x2 0 20) fun v2 s2 =>
        if v2 = 0 then
          rI (-1) s2
        else
          bI (LL_isWithin s2 x3 1 8) fun v3 s3 =>
            if v3 = 0 then
              rI (-1) s3
            else
              gd (inb x1 12) (
                gd (inb x1 12) (
                  gd (inb x1 12) (
                    rI (s3 32 x1.toNatClampNeg) (wr (wr s3 32 x1.toNatClampNeg x2) 31 x1.toNatClampNeg x3)))) : mO) := (EV_un 2000 110 0 [some (pA 0), some (pI x1), some (pI x2), some (pI x3), none] [] s).trans rfl
set_option maxRecDepth 100000 in
set_option maxHeartbeats 4000000 in
theorem LL_year_eq (s : mSt) (x1 : Int32) : LL_year s x1 = (
  bI (LL_isWithin s x1 (s 25 1) 99) fun v1 s1 =>
    if v1 = 0 then
      rI (-1) s1
    else
      rI (s1 25 1) (wr s1 25 1 x1) : mO) := (EV_un 2000 111 0 [some (pA 0), some (pI x1), none] [] s).trans rfl
set_option maxRecDepth 100000 in
set_option maxHeartbeats 4000000 in
theorem LL_hour_eq (s : mSt) (x1 : Int32) : LL_hour s x1 = (
  bI (LL_isWithin s x1 (s 35 1) 999) fun v1 s1 =>
    if v1 = 0 then
      rI (-1) s1
    else
      rI (s1 35 1) (wr s1 35 1 x1) : mO) := (EV_un 2000 112 0 [some (pA 0), some (pI x1), none] [] s).trans rfl
set_option maxRecDepth 100000 in
set_option maxHeartbeats 4000000 in
theorem LL_feed_eq (s : mSt) (x1 : Int64) : LL_feed s x1 = (
  bI (rd_takeBytes s x1) fun v1 s1 =>
    rI v1 s1 : mO) := (EV_un 2000 113 0 [some (pA 0), some (pJ x1), none] [] s).trans rfl
set_option maxRecDepth 100000 in
set_option maxHeartbeats 4000000 in
theorem LL_end_eq (s : mSt) (x1 : Int32) : LL_end s x1 = (
  bI (rd_keepFirst s x1) fun v1 s1 =>
    rI v1 s1 : mO) := (EV_un 2000 114 0 [some (pA 0), some (pI x1)] [] s).trans rfl
set_option maxRecDepth 100000 in
set_option maxHeartbeats 4000000 in
theorem LL_rules_eq (s : mSt) : LL_rules s = (
  bI (rd_tell_1 s) fun v1 s1 =>
    rI v1 s1 : mO) := (EV_un 2000 115 0 [some (pA 0)] [] s).trans rfl
set_option maxRecDepth 100000 in
set_option maxHeartbeats 4000000 in
theorem LL_fault_eq (s : mSt) : LL_fault s = (
  rI (s 12 3) s : mO) := (EV_un 2000 116 0 [some (pA 0)] [] s).trans rfl
set_option maxRecDepth 100000 in
set_option maxHeartbeats 4000000 in
theorem LL_rule_eq (s : mSt) (x1 : Int32) : LL_rule s x1 = (
  if x1 = 8 then
    rI (s 1 2) s
  else
    bI (LL_isWithin s x1 0 7) fun v1 s1 =>
      if v1 = 0 then
        rI (-1) s1
      else
        gd (inb x1 8) (
          rI (s1 2 x1.toNatClampNeg) s1) : mO) := (EV_un 2000 117 0 [some (pA 0), some (pI x1)] [] s).trans rfl
set_option maxRecDepth 100000 in
set_option maxHeartbeats 4000000 in
theorem LL_rent_eq (s : mSt) (x1 : Int32) (x2 : Int32) : LL_rent s x1 x2 = (
  bI (LL_isWithin s x1 0 ((s 1 2) - 1)) fun v1 s1 =>
    if v1 = 0 then
      rI (-1) s1
    else
      bI (LL_isWithin s1 x2 0 5) fun v2 s2 =>
        if v2 = 0 then
          rI (-1) s2
        else
          gd (inb x1 8) (
            gd (Nat.blt x1.toNatClampNeg 8) (gd (inb x2 6) (
              rI (s2 (4 + x1.toNatClampNeg) x2.toNatClampNeg) s2))) : mO) := (EV_un 2000 118 0 [some (pA 0), some (pI x1), some (pI x2)] [] s).trans rfl
set_option maxRecDepth 100000 in
set_option maxHeartbeats 4000000 in
theorem LL_demand_eq (s : mSt) (x1 : Int32) (x2 : Int32) (x3 : Int32) : LL_demand s x1 x2 x3 = (
  bI (LL_areTwoLands s x1 x2) fun v1 s1 =>
    if v1 = 0 then
      rI (-1) s1
    else
      bI (LL_isWithin s1 x3 1 99) fun v2 s2 =>
        if v2 = 0 then
          rI (-1) s2
        else
          bI (sp_add_43 s2 x1 x2 x3) fun v3 s3 =>
            rI v3 s3 : mO) := (EV_un 2000 119 0 [some (pA 0), some (pI x1), some (pI x2), some (pI x3)] [] s).trans rfl
set_option maxRecDepth 100000 in
set_option maxHeartbeats 4000000 in
theorem LL_much_eq (s : mSt) (x1 : Int32) (x2 : Int32) : LL_much s x1 x2 = (
  bI (sp_has_43 s x1) fun v1 s1 =>
    if v1 = 0 then
      rI (-1) s1
    else
      bI (LL_isWithin s1 x2 0 99) fun v2 s2 =>
        if v2 = 0 then
          rI (-1) s2
        else
          gd (inb x1 12) (
            gd (inb x1 12) (
              rI (s2 46 x1.toNatClampNeg) (wr s2 46 x1.toNatClampNeg x2))) : mO) := (EV_un 2000 120 0 [some (pA 0), some (pI x1), some (pI x2), none] [] s).trans rfl
set_option maxRecDepth 100000 in
set_option maxHeartbeats 4000000 in
theorem LL_led_eq (s : mSt) (x1 : Int32) : LL_led s x1 = (
  bI (LL_isWithin s x1 0 2) fun v1 s1 =>
    if v1 = 0 then
      rI (-1) s1
    else
      bV (tr_keepRooms s1 0) fun s2 =>
        bI (tr_lead s2 (-1)) fun v3 s3 =>
          if x1 = 0 then
            rI (s3 47 11) s3
          else
            if x1 = 1 then
              rI v3 s3
            else
              rI (s3 47 12) s3 : mO) := (EV_un 2000 121 0 [some (pA 0), some (pI x1), none] [] s).trans rfl
set_option maxRecDepth 100000 in
set_option maxHeartbeats 4000000 in
theorem LL_way_eq (s : mSt) (x1 : Int32) (x2 : Int32) : LL_way s x1 x2 = (
  bI (sp_has_43 s x1) fun v1 s1 =>
    if v1 = 0 then
      rI (-1) s1
    else
      if (0 : Int32) ≤ x2 then
        bV (tr_keepRooms s1 0) fun s2 =>
          bI (tr_lead s2 (-1)) fun v3 s3 =>
            bI (tr_stepOf s3 x1 x2) fun v4 s4 =>
              rI v4 s4
      else
        rI (-1) s1 : mO) := (EV_un 2000 122 0 [some (pA 0), some (pI x1), some (pI x2)] [] s).trans rfl
set_option maxRecDepth 100000 in
set_option maxHeartbeats 4000000 in
theorem LL_parts_eq (s : mSt) (x1 : Int32) (x2 : Int32) (x3 : Int32) : LL_parts s x1 x2 x3 = (
  bI (ne_hasLine s x1) fun v1 s1 =>
    if v1 = 0 then
      rI (-1) s1
    else
      bI (ne_hasLine s1 x2) fun v2 s2 =>
        if v2 = 0 then
          rI (-1) s2
        else
          bI (LL_isWithin s2 x3 0 400) fun v3 s3 =>
            if v3 = 0 then
              rI (-1) s3
            else
              bV (tr_keepRooms s3 0) fun s4 =>
                bI (tr_heapsWithout s4 x1 x2 x3) fun v5 s5 =>
                  rI v5 s5 : mO) := (EV_un 2000 123 0 [some (pA 0), some (pI x1), some (pI x2), some (pI x3)] [] s).trans rfl
set_option maxRecDepth 100000 in
set_option maxHeartbeats 4000000 in
theorem LL_worst_eq (s : mSt) (x1 : Int32) (x2 : Int32) : LL_worst s x1 x2 = (
  bI (LL_isWithin s x1 0 400) fun v1 s1 =>
    if v1 = 0 then
      rI (-1) s1
    else
      bI (LL_isWithin s1 x2 0 1) fun v2 s2 =>
        if v2 = 0 then
          rI (-1) s2
        else
          bV (tr_keepRooms s2 0) fun s3 =>
            LL_worst_39 s3 x1 x2 0 (-4) 0 : mO) := (EV_un 2000 124 0 [some (pA 0), some (pI x1), some (pI x2), none, none, none, none, none] [] s).trans rfl
set_option maxRecDepth 100000 in
set_option maxHeartbeats 4000000 in
theorem LL_worst_39_eq (s : mSt) (x1 : Int32) (x2 : Int32) (x3 : Int32) (x4 : Int32) (x5 : Int32) : LL_worst_39 s x1 x2 x3 x4 x5 = (
  if (s 25 5) ≤ x5 then
    if x2 = 0 then
      rI x4 s
    else
      if x4 = (-4) then
        rI x4 s
      else
        rI x3 s
  else
    LL_worst_57 s x1 x2 x3 x4 x5 (x5 + 1) : mO) := (EV_un 2000 124 39 [some (pA 0), some (pI x1), some (pI x2), some (pI x3), some (pI x4), some (pI x5), none, none] [] s).trans rfl
set_option maxRecDepth 100000 in
set_option maxHeartbeats 4000000 in
theorem LL_worst_57_eq (s : mSt) (x1 : Int32) (x2 : Int32) (x3 : Int32) (x4 : Int32) (x5 : Int32) (x6 : Int32) : LL_worst_57 s x1 x2 x3 x4 x5 x6 = (
  if (s 25 5) ≤ x6 then
    LL_worst_39 s x1 x2 x3 x4 (x5 + 1)
  else
    bI (tr_heapsWithout s x5 x6 x1) fun v1 s1 =>
      if v1 ≤ x3 then
        LL_worst_57 s1 x1 x2 x3 x4 x5 (x6 + 1)
      else
        LL_worst_57 s1 x1 x2 v1 ((100 * x5) + x6) x5 (x6 + 1) : mO) := (EV_un 2000 124 57 [some (pA 0), some (pI x1), some (pI x2), some (pI x3), some (pI x4), some (pI x5), some (pI x6), none] [] s).trans rfl
set_option maxRecDepth 100000 in
set_option maxHeartbeats 4000000 in
theorem LL_swing_eq (s : mSt) (x1 : Int32) (x2 : Int32) (x3 : Int32) : LL_swing s x1 x2 x3 = (
  bI (LL_isWithin s x1 0 60) fun v1 s1 =>
    if v1 = 0 then
      rI (-1) s1
    else
      bI (sp_has_43 s1 x2) fun v2 s2 =>
        if v2 = 0 then
          rI (-1) s2
        else
          if (0 : Int32) ≤ x3 then
            bV (tr_keepRooms s2 0) fun s3 =>
              bI (tr_swingUntilBack s3) fun v4 s4 =>
                bI (tr_sameTurn s4 x1) fun v5 s5 =>
                  bV (tr_chooseAll s5 v5) fun s6 =>
                    bI (tr_stepOf s6 x2 x3) fun v7 s7 =>
                      rI v7 s7
          else
            rI (-1) s2 : mO) := (EV_un 2000 125 0 [some (pA 0), some (pI x1), some (pI x2), some (pI x3)] [] s).trans rfl
set_option maxRecDepth 100000 in
set_option maxHeartbeats 4000000 in
theorem LL_swings_eq (s : mSt) (x1 : Int32) : LL_swings s x1 = (
  bI (LL_isWithin s x1 0 3) fun v1 s1 =>
    if v1 = 0 then
      rI (-1) s1
    else
      bV (tr_keepRooms s1 0) fun s2 =>
        bI (tr_swingUntilBack s2) fun v3 s3 =>
          if v3 = 0 then
            rI (-6) s3
          else
            if x1 = 0 then
              rI (s3 47 13) s3
            else
            if x1 = 1 then
              rI (s3 47 14) s3
            else
            if x1 = 2 then
              bI (tr_greatestLoad s3) fun v4 s4 =>
                rI v4 s4
            else
              bI (tr_overfull s3) fun v5 s5 =>
                rI v5 s5 : mO) := (EV_un 2000 126 0 [some (pA 0), some (pI x1)] [] s).trans rfl
set_option maxRecDepth 100000 in
set_option maxHeartbeats 4000000 in
theorem LL_cut_eq (s : mSt) (x1 : Int32) (x2 : Int32) : LL_cut s x1 x2 = (
  bI (ne_hasLine s x1) fun v1 s1 =>
    if v1 = 0 then
      rI (-1) s1
    else
      bI (LL_isWithin s1 x2 0 (s1 35 1)) fun v2 s2 =>
        if v2 = 0 then
          rI (-1) s2
        else
          bI (br_add s2 x1 x2) fun v3 s3 =>
            rI v3 s3 : mO) := (EV_un 2000 127 0 [some (pA 0), some (pI x1), some (pI x2)] [] s).trans rfl
set_option maxRecDepth 100000 in
set_option maxHeartbeats 4000000 in
theorem LL_echo_eq (s : mSt) (x1 : Int32) (x2 : Int32) (x3 : Int32) (x4 : Int32) : LL_echo s x1 x2 x3 x4 = (
  bI (br_has s x1) fun v1 s1 =>
    if v1 = 0 then
      rI (-1) s1
    else
      bI (LL_isWithin s1 x2 0 1) fun v2 s2 =>
        if v2 = 0 then
          rI (-1) s2
        else
          bI (LL_isWithin s2 x3 0 198) fun v3 s3 =>
            if v3 = 0 then
              rI (-1) s3
            else
              bI (LL_isWithin s3 x4 0 20) fun v4 s4 =>
                if v4 = 0 then
                  rI (-1) s4
                else
                  bI (br_isInHands s4 x1) fun v5 s5 =>
                    if v5 = 0 then
                      bI (br_narrow s5 x1 x2 x3 x4) fun v6 s6 =>
                        rI v6 s6
                    else
                      rI (-2) s5 : mO) := (EV_un 2000 128 0 [some (pA 0), some (pI x1), some (pI x2), some (pI x3), some (pI x4)] [] s).trans rfl
set_option maxRecDepth 100000 in
set_option maxHeartbeats 4000000 in
theorem LL_breakOf_eq (s : mSt) (x1 : Int32) (x2 : Int32) : LL_breakOf s x1 x2 = (
  bI (br_has s x1) fun v1 s1 =>
    if v1 = 0 then
      rI (-1) s1
    else
      gd (inb x1 8) (
        if x2 = 0 then
          rI (s1 36 x1.toNatClampNeg) s1
        else
        if x2 = 1 then
          gd (inb x1 8) (
            rI (s1 37 x1.toNatClampNeg) s1)
        else
        if x2 = 2 then
          gd (inb x1 8) (
            rI (s1 38 x1.toNatClampNeg) s1)
        else
        if x2 = 3 then
          gd (inb x1 8) (
            gd (inb x1 8) (
              rI (((s1 40 x1.toNatClampNeg) - (s1 39 x1.toNatClampNeg)) + 1) s1))
        else
        if x2 = 4 then
          gd (inb x1 8) (
            rI (s1 39 x1.toNatClampNeg) s1)
        else
        if x2 = 5 then
          gd (inb x1 8) (
            rI (s1 40 x1.toNatClampNeg) s1)
        else
        if x2 = 6 then
          bI (br_isInHands s1 x1) fun v2 s2 =>
            if v2 = 0 then
              rI (-4) s2
            else
              gd (inb x1 8) (
                rI (s2 41 x1.toNatClampNeg) s2)
        else
        if x2 = 7 then
          bI (br_isInHands s1 x1) fun v3 s3 =>
            if v3 = 0 then
              rI (-4) s3
            else
              gd (inb x1 8) (
                rI (s3 42 x1.toNatClampNeg) s3)
        else
        if x2 = 8 then
          bI (br_isOpen s1 x1) fun v4 s4 =>
            if v4 = 0 then
              rI 0 s4
            else
              rI 1 s4
        else
        if x2 = 9 then
          gd (inb x1 8) (
            bI (ne_placeX s1 (s1 36 x1.toNatClampNeg) (s1 39 x1.toNatClampNeg)) fun v5 s5 =>
              rI v5 s5)
        else
        if x2 = 10 then
          gd (inb x1 8) (
            bI (ne_placeY s1 (s1 36 x1.toNatClampNeg) (s1 39 x1.toNatClampNeg)) fun v6 s6 =>
              rI v6 s6)
        else
          rI (-1) s1) : mO) := (EV_un 2000 129 0 [some (pA 0), some (pI x1), some (pI x2), none] [] s).trans rfl
set_option maxRecDepth 100000 in
set_option maxHeartbeats 4000000 in
theorem LL_quake_eq (s : mSt) (x1 : Int32) (x2 : Int32) (x3 : Int32) (x4 : Int32) : LL_quake s x1 x2 x3 x4 = (
  bI (LL_isWithin s x1 0 99) fun v1 s1 =>
    if v1 = 0 then
      rI (-1) s1
    else
      bI (LL_isWithin s1 x2 0 99) fun v2 s2 =>
        if v2 = 0 then
          rI (-1) s2
        else
          bI (LL_isWithin s2 x3 0 99) fun v3 s3 =>
            if v3 = 0 then
              rI (-1) s3
            else
              bI (LL_isWithin s3 x4 0 999) fun v4 s4 =>
                if v4 = 0 then
                  rI (-1) s4
                else
                  LL_quake_52 s4 x1 x2 x3 x4 0 0 : mO) := (EV_un 2000 130 0 [some (pA 0), some (pI x1), some (pI x2), some (pI x3), some (pI x4), none, none, none] [] s).trans rfl
set_option maxRecDepth 100000 in
set_option maxHeartbeats 4000000 in
theorem LL_quake_52_eq (s : mSt) (x1 : Int32) (x2 : Int32) (x3 : Int32) (x4 : Int32) (x5 : Int32) (x6 : Int32) : LL_quake_52 s x1 x2 x3 x4 x5 x6 = (
  if (s 35 2) ≤ x6 then
    rI x5 s
  else
    gd (inb x6 8) (
      bI (LL_isWithin s (s 37 x6.toNatClampNeg) x4 (x4 + 2)) fun v1 s1 =>
        if v1 = 0 then
          LL_quake_52 s1 x1 x2 x3 x4 x5 (x6 + 1)
        else
          bI (br_farFrom s1 x6 x1 x2) fun v2 s2 =>
            if x3 < v2 then
              LL_quake_52 s2 x1 x2 x3 x4 x5 (x6 + 1)
            else
              LL_quake_52 s2 x1 x2 x3 x4 (x5 ||| (1 <<< (x6 &&& 31))) (x6 + 1)) : mO) := (EV_un 2000 130 52 [some (pA 0), some (pI x1), some (pI x2), some (pI x3), some (pI x4), some (pI x5), some (pI x6), none] [] s).trans rfl
set_option maxRecDepth 100000 in
set_option maxHeartbeats 4000000 in
theorem LL_shared_eq (s : mSt) (x1 : Int32) (x2 : Int32) (x3 : Int32) : LL_shared s x1 x2 x3 = (
  bI (br_has s x1) fun v1 s1 =>
    if v1 = 0 then
      rI (-1) s1
    else
      bI (br_has s1 x2) fun v2 s2 =>
        if v2 = 0 then
          rI (-1) s2
        else
          if x1 = x2 then
            rI (-1) s2
          else
            bI (LL_isWithin s2 x3 0 99) fun v3 s3 =>
              if v3 = 0 then
                rI (-1) s3
              else
                bI (br_couldShare s3 x1 x2 x3) fun v4 s4 =>
                  if v4 = 0 then
                    rI 0 s4
                  else
                    rI 1 s4 : mO) := (EV_un 2000 131 0 [some (pA 0), some (pI x1), some (pI x2), some (pI x3)] [] s).trans rfl
set_option maxRecDepth 100000 in
set_option maxHeartbeats 4000000 in
theorem LL_ship_eq (s : mSt) (x1 : Int32) (x2 : Int32) (x3 : Int32) : LL_ship s x1 x2 x3 = (
  bI (ne_hasLand s x1) fun v1 s1 =>
    if v1 = 0 then
      rI (-1) s1
    else
      bI (LL_isWithin s1 x2 0 99) fun v2 s2 =>
        if v2 = 0 then
          rI (-1) s2
        else
          bI (LL_isWithin s2 x3 0 3) fun v3 s3 =>
            if v3 = 0 then
              rI (-1) s3
            else
              bI (fl_add s3 x1 x2 x3) fun v4 s4 =>
                rI v4 s4 : mO) := (EV_un 2000 132 0 [some (pA 0), some (pI x1), some (pI x2), some (pI x3)] [] s).trans rfl
set_option maxRecDepth 100000 in
set_option maxHeartbeats 4000000 in
theorem LL_shipOf_eq (s : mSt) (x1 : Int32) (x2 : Int32) : LL_shipOf s x1 x2 = (
  bI (fl_has s x1) fun v1 s1 =>
    if v1 = 0 then
      rI (-1) s1
    else
      if x2 = 0 then
        gd (inb x1 3) (
          rI (s1 130 x1.toNatClampNeg) s1)
      else
      if x2 = 1 then
        gd (inb x1 3) (
          rI (s1 131 x1.toNatClampNeg) s1)
      else
      if x2 = 2 then
        gd (inb x1 3) (
          rI (s1 132 x1.toNatClampNeg) s1)
      else
      if x2 = 3 then
        gd (inb x1 3) (
          rI (s1 133 x1.toNatClampNeg) s1)
      else
      if x2 = 4 then
        gd (inb x1 3) (
          rI (s1 134 x1.toNatClampNeg) s1)
      else
        rI (-1) s1 : mO) := (EV_un 2000 133 0 [some (pA 0), some (pI x1), some (pI x2)] [] s).trans rfl
set_option maxRecDepth 100000 in
set_option maxHeartbeats 4000000 in
theorem LL_send_eq (s : mSt) (x1 : Int32) (x2 : Int32) : LL_send s x1 x2 = (
  bI (fl_has s x1) fun v1 s1 =>
    if v1 = 0 then
      rI (-1) s1
    else
      bI (br_has s1 x2) fun v2 s2 =>
        if v2 = 0 then
          rI (-1) s2
        else
          bI (br_isOpen s2 x2) fun v3 s3 =>
            if v3 = 0 then
              rI (-2) s3
            else
              bI (br_isInHands s3 x2) fun v4 s4 =>
                if v4 = 0 then
                  bI (fl_mayMend s4 x1 x2) fun v5 s5 =>
                    if v5 = 0 then
                      rI (-2) s5
                    else
                      bI (fl_takeInHands s5 x1 x2) fun v6 s6 =>
                        rI v6 s6
                else
                  rI (-2) s4 : mO) := (EV_un 2000 134 0 [some (pA 0), some (pI x1), some (pI x2)] [] s).trans rfl
set_option maxRecDepth 100000 in
set_option maxHeartbeats 4000000 in
theorem LL_order_eq (s : mSt) (x1 : Int32) : LL_order s x1 = (
  if x1 = 0 then
    LL_order_27 s x1 (x1 - 10)
  else
    if x1 = 1 then
      LL_order_27 s x1 (x1 - 10)
    else
      bI (br_has s (x1 - 10)) fun v1 s1 =>
        if v1 = 0 then
          rI (-1) s1
        else
          LL_order_27 s1 x1 (x1 - 10) : mO) := (EV_un 2000 135 0 [some (pA 0), some (pI x1), none] [] s).trans rfl
set_option maxRecDepth 100000 in
set_option maxHeartbeats 4000000 in
theorem LL_order_27_eq (s : mSt) (x1 : Int32) (x2 : Int32) : LL_order_27 s x1 x2 = (
  bI (me_gather s) fun v1 s1 =>
    if v1 = 0 then
      rI (-2) s1
    else
      if x1 = 1 then
        bI (me_jobBits s1) fun v6 s6 =>
          rI v6 s6
      else
        bV (me_weigh s1) fun s2 =>
          bV (me_measure s2) fun s3 =>
            bI (me_findBest s3) fun v4 s4 =>
              if v4 = 0 then
                rI (-4) s4
              else
                if x1 = 0 then
                  rI (s4 135 13) s4
                else
                  bI (me_bestShipOf s4 x2) fun v5 s5 =>
                    rI v5 s5 : mO) := (EV_un 2000 135 27 [some (pA 0), some (pI x1), some (pI x2)] [] s).trans rfl
set_option maxRecDepth 100000 in
set_option maxHeartbeats 4000000 in
theorem LL_plain_eq (s : mSt) (x1 : Int32) : LL_plain s x1 = (
  bI (LL_isWithin s x1 0 1) fun v1 s1 =>
    if v1 = 0 then
      rI (-1) s1
    else
      bI (me_gather s1) fun v2 s2 =>
        if v2 = 0 then
          rI (-2) s2
        else
          bV (me_weigh s2) fun s3 =>
            bV (me_goPlainly s3) fun s4 =>
              if x1 = 0 then
                rI (s4 135 19) s4
              else
                bI (me_plainLeft s4) fun v5 s5 =>
                  rI v5 s5 : mO) := (EV_un 2000 136 0 [some (pA 0), some (pI x1)] [] s).trans rfl
set_option maxRecDepth 100000 in
set_option maxHeartbeats 4000000 in
theorem LL_owed_eq (s : mSt) (x1 : Int32) (x2 : Int32) : LL_owed s x1 x2 = (
  bI (LL_isWithin s x1 0 5) fun v1 s1 =>
    if v1 = 0 then
      rI (-1) s1
    else
      bI (LL_isWithin s1 x2 0 999) fun v2 s2 =>
        if v2 = 0 then
          rI (-1) s2
        else
          bI (LL_coinsOf s2 x1 x2 1) fun v3 s3 =>
            rI v3 s3 : mO) := (EV_un 2000 137 0 [some (pA 0), some (pI x1), some (pI x2)] [] s).trans rfl
set_option maxRecDepth 100000 in
set_option maxHeartbeats 4000000 in
theorem LL_paid_eq (s : mSt) (x1 : Int32) (x2 : Int32) : LL_paid s x1 x2 = (
  bI (LL_isWithin s x1 0 5) fun v1 s1 =>
    if v1 = 0 then
      rI (-1) s1
    else
      bI (LL_isWithin s1 x2 0 999) fun v2 s2 =>
        if v2 = 0 then
          rI (-1) s2
        else
          bI (LL_coinsOf s2 x1 x2 0) fun v3 s3 =>
            rI v3 s3 : mO) := (EV_un 2000 138 0 [some (pA 0), some (pI x1), some (pI x2)] [] s).trans rfl
set_option maxRecDepth 100000 in
set_option maxHeartbeats 4000000 in
theorem LL_plan_eq (s : mSt) (x1 : Int32) (x2 : Int32) (x3 : Int32) : LL_plan s x1 x2 x3 = (
  bI (LL_areTwoLands s x1 x2) fun v1 s1 =>
    if v1 = 0 then
      rI (-1) s1
    else
      bI (LL_isWithin s1 x3 1 999) fun v2 s2 =>
        if v2 = 0 then
          rI (-1) s2
        else
          bI (sp_add_166 s2 x1 x2 x3) fun v3 s3 =>
            rI v3 s3 : mO) := (EV_un 2000 139 0 [some (pA 0), some (pI x1), some (pI x2), some (pI x3)] [] s).trans rfl
set_option maxRecDepth 100000 in
set_option maxHeartbeats 4000000 in
theorem LL_safe_eq (s : mSt) (x1 : Int32) (x2 : Int32) : LL_safe s x1 x2 = (
  bI (LL_isWithin s x1 0 ((1 <<< ((s 25 2) &&& 31)) - 1)) fun v1 s1 =>
    if v1 = 0 then
      rI (-1) s1
    else
      bI (LL_isWithin s1 x2 0 1) fun v2 s2 =>
        if v2 = 0 then
          rI (-1) s2
        else
          bI (sa_findBest s2 x1) fun v3 s3 =>
            if v3 = 0 then
              rI (-4) s3
            else
              if x2 = 0 then
                rI (s3 170 7) s3
              else
                rI (s3 170 8) s3 : mO) := (EV_un 2000 140 0 [some (pA 0), some (pI x1), some (pI x2)] [] s).trans rfl
set_option maxRecDepth 100000 in
set_option maxHeartbeats 4000000 in
theorem LL_sheet_eq (s : mSt) (x1 : Int32) (x2 : Int32) (x3 : Int32) : LL_sheet s x1 x2 x3 = (
  bI (sh_has s x1) fun v1 s1 =>
    if v1 = 0 then
      rI (-1) s1
    else
      bI (sh_isLane s1 x2) fun v2 s2 =>
        if v2 = 0 then
          rI (-1) s2
        else
          if x3 ≤ 40 then
            if (0 : Int32) ≤ x3 then
              bI (sh_begin s2 x1 x2 x3) fun v3 s3 =>
                rI v3 s3
            else
              rI (-14) s2
          else
            rI (-1) s2 : mO) := (EV_un 2000 141 0 [some (pA 0), some (pI x1), some (pI x2), some (pI x3)] [] s).trans rfl
set_option maxRecDepth 100000 in
set_option maxHeartbeats 4000000 in
theorem LL_lay_eq (s : mSt) (x1 : Int32) (x2 : Int32) (x3 : Int32) : LL_lay s x1 x2 x3 = (
  bI (sh_has s x1) fun v1 s1 =>
    if v1 = 0 then
      rI (-1) s1
    else
      bI (sh_isNothing s1 x1) fun v2 s2 =>
        if v2 = 0 then
          bI (sh_hasCell s2 x1 x2) fun v3 s3 =>
            if v3 = 0 then
              rI (-12) s3
            else
              bI (sh_put s3 x1 x2 x3) fun v4 s4 =>
                rI v4 s4
        else
          rI (-11) s2 : mO) := (EV_un 2000 142 0 [some (pA 0), some (pI x1), some (pI x2), some (pI x3)] [] s).trans rfl
set_option maxRecDepth 100000 in
set_option maxHeartbeats 4000000 in
theorem LL_read_eq (s : mSt) (x1 : Int32) (x2 : Int32) (x3 : Int32) : LL_read s x1 x2 x3 = (
  bI (sh_has s x1) fun v1 s1 =>
    if v1 = 0 then
      rI (-1) s1
    else
      bI (sh_isLane s1 x2) fun v2 s2 =>
        if v2 = 0 then
          rI (-1) s2
        else
          bI (sh_isNothing s2 x1) fun v3 s3 =>
            if v3 = 0 then
              gd (inb x1 4) (
                if (s3 176 x1.toNatClampNeg) = x2 then
                  LL_read_60 s3 x1 x3 0 0
                else
                  rI (-13) s3)
            else
              rI (-11) s3 : mO) := (EV_un 2000 143 0 [some (pA 0), some (pI x1), some (pI x2), some (pI x3), none, none, none] [] s).trans rfl
set_option maxRecDepth 100000 in
set_option maxHeartbeats 4000000 in
theorem LL_read_60_eq (s : mSt) (x1 : Int32) (x3 : Int32) (x4 : Int32) (x5 : Int32) : LL_read_60 s x1 x3 x4 x5 = (
  if (s 43 3) ≤ x5 then
    LL_read_139 s x1 x3 x4 0
  else
    bI (sh_hasCell s x1 (x3 + x5)) fun v1 s1 =>
      if v1 = 0 then
        rI (-12) s1
      else
        gd (inb x1 4) (
          gd (Nat.blt x1.toNatClampNeg 4) (gd (inb (x3 + x5) 40) (
            bI (LL_isWithin s1 (s1 (179 + x1.toNatClampNeg) ((x3 + x5)).toNatClampNeg) 0 99) fun v2 s2 =>
              if v2 = 0 then
                rI ((-20) - x5) s2
              else
                LL_read_60 s2 x1 x3 (x4 + (s1 (179 + x1.toNatClampNeg) ((x3 + x5)).toNatClampNeg)) (x5 + 1)))) : mO) := (EV_un 2000 143 60 [some (pA 0), some (pI x1), none, some (pI x3), some (pI x4), some (pI x5), none] [] s).trans rfl
set_option maxRecDepth 100000 in
set_option maxHeartbeats 4000000 in
theorem LL_read_139_eq (s : mSt) (x1 : Int32) (x3 : Int32) (x4 : Int32) (x5 : Int32) : LL_read_139 s x1 x3 x4 x5 = (
  if (s 43 3) ≤ x5 then
    rI x4 s
  else
    gd (inb x1 4) (
      gd (Nat.blt x1.toNatClampNeg 4) (gd (inb (x3 + x5) 40) (
        gd (inb x5 12) (
          LL_read_139 (wr s 46 x5.toNatClampNeg (s (179 + x1.toNatClampNeg) ((x3 + x5)).toNatClampNeg)) x1 x3 x4 (x5 + 1))))) : mO) := (EV_un 2000 143 139 [some (pA 0), some (pI x1), none, some (pI x3), some (pI x4), some (pI x5), none] [] s).trans rfl
set_option maxRecDepth 100000 in
set_option maxHeartbeats 4000000 in
theorem LL_count_eq (s : mSt) (x1 : Int32) : LL_count s x1 = (
  if x1 = 0 then
    rI (s 25 2) s
  else
  if x1 = 1 then
    rI (s 25 5) s
  else
  if x1 = 2 then
    rI (s 43 3) s
  else
  if x1 = 3 then
    rI (s 35 2) s
  else
  if x1 = 4 then
    bI (br_openOnes s) fun v1 s1 =>
      rI v1 s1
  else
  if x1 = 5 then
    rI (s 129 3) s
  else
  if x1 = 6 then
    rI (s 166 3) s
  else
  if x1 = 7 then
    rI (s 25 1) s
  else
  if x1 = 8 then
    rI (s 35 1) s
  else
  if x1 = 9 then
    bI (br_litLines s) fun v2 s2 =>
      rI v2 s2
  else
  if x1 = 10 then
    rI (s 12 2) s
  else
  if x1 = 11 then
    bI (sh_isNothing s 0) fun v3 s3 =>
      if v3 = 0 then
        rI (s3 177 0) s3
      else
        rI (-4) s3
  else
    rI (-1) s : mO) := (EV_un 2000 144 0 [some (pA 0), some (pI x1)] [] s).trans rfl
set_option maxRecDepth 100000 in
set_option maxHeartbeats 4000000 in
theorem LL_isWithin_eq (s : mSt) (x0 : Int32) (x1 : Int32) (x2 : Int32) : LL_isWithin s x0 x1 x2 = (
  if x0 < x1 then
    rI 0 s
  else
    if x2 < x0 then
      rI 0 s
    else
      rI 1 s : mO) := (EV_un 2000 145 0 [some (pI x0), some (pI x1), some (pI x2)] [] s).trans rfl
set_option maxRecDepth 100000 in
set_option maxHeartbeats 4000000 in
theorem ne_addLand_eq (s : mSt) (x1 : Int32) (x2 : Int32) : ne_addLand s x1 x2 = (
  if (s 25 2) < 8 then
    gd (inb (s 25 2) 8) (
      gd (inb (s 25 2) 8) (
        rI (((s 25 2) + 1) - 1) (wr (wr (wr s 26 ((s 25 2)).toNatClampNeg x1) 27 ((s 25 2)).toNatClampNeg x2) 25 2 ((s 25 2) + 1))))
  else
    rI (-3) s : mO) := (EV_un 2000 44 0 [some (pA 25), some (pI x1), some (pI x2)] [] s).trans rfl
set_option maxRecDepth 100000 in
set_option maxHeartbeats 4000000 in
theorem LL_areTwoLands_eq (s : mSt) (x1 : Int32) (x2 : Int32) : LL_areTwoLands s x1 x2 = (
  bI (ne_hasLand s x1) fun v1 s1 =>
    if v1 = 0 then
      rI 0 s1
    else
      bI (ne_hasLand s1 x2) fun v2 s2 =>
        if v2 = 0 then
          rI 0 s2
        else
          if x1 = x2 then
            rI 0 s2
          else
            rI 1 s2 : mO) := (EV_un 2000 146 0 [some (pA 0), some (pI x1), some (pI x2)] [] s).trans rfl
set_option maxRecDepth 100000 in
set_option maxHeartbeats 4000000 in
theorem ne_addLine_eq (s : mSt) (x1 : Int32) (x2 : Int32) : ne_addLine s x1 x2 = (
  if (s 25 5) < 12 then
    gd (inb (s 25 5) 12) (
      gd (inb (s 25 5) 12) (
        gd (inb x1 8) (
          gd (inb x2 8) (
            gd (inb x1 8) (
              gd (inb x2 8) (
                gd (inb (s 25 5) 12) (
                  rI (((s 25 5) + 1) - 1) (wr (wr (wr (wr s 28 ((s 25 5)).toNatClampNeg x1) 29 ((s 25 5)).toNatClampNeg x2) 34 ((s 25 5)).toNatClampNeg ((jAbs ((s 26 x1.toNatClampNeg) - (s 26 x2.toNatClampNeg))) + (jAbs ((s 27 x1.toNatClampNeg) - (s 27 x2.toNatClampNeg))))) 25 5 ((s 25 5) + 1)))))))))
  else
    rI (-3) s : mO) := (EV_un 2000 45 0 [some (pA 25), some (pI x1), some (pI x2)] [] s).trans rfl
set_option maxRecDepth 100000 in
set_option maxHeartbeats 4000000 in
theorem ne_hasLine_eq (s : mSt) (x1 : Int32) : ne_hasLine s x1 = (
  if x1 < 0 then
    rI 0 s
  else
    if (s 25 5) ≤ x1 then
      rI 0 s
    else
      rI 1 s : mO) := (EV_un 2000 43 0 [some (pA 25), some (pI x1)] [] s).trans rfl
set_option maxRecDepth 100000 in
set_option maxHeartbeats 4000000 in
theorem br_stateOf_eq (s : mSt) (x1 : Int32) : br_stateOf s x1 = (
  bI (br_isCut s x1) fun v1 s1 =>
    if v1 = 0 then
      bI (ne_isBright s1 x1) fun v2 s2 =>
        if v2 = 0 then
          rI 1 s2
        else
          rI 0 s2
    else
      rI 2 s1 : mO) := (EV_un 2000 7 0 [some (pA 35), some (pI x1)] [] s).trans rfl
set_option maxRecDepth 100000 in
set_option maxHeartbeats 4000000 in
theorem br_roomOf_eq (s : mSt) (x1 : Int32) (x2 : Int32) : br_roomOf s x1 x2 = (
  bI (ne_isBright s x1) fun v1 s1 =>
    if v1 = 0 then
      br_roomOf_28 s1 x1 0
    else
      if x2 = 0 then
        bI (br_isCut s1 x1) fun v2 s2 =>
          if v2 = 0 then
            br_roomOf_28 s2 x1 1
          else
            br_roomOf_28 s2 x1 0
      else
        br_roomOf_28 s1 x1 1 : mO) := (EV_un 2000 9 0 [some (pA 35), some (pI x1), some (pI x2), none] [] s).trans rfl
set_option maxRecDepth 100000 in
set_option maxHeartbeats 4000000 in
theorem br_roomOf_28_eq (s : mSt) (x1 : Int32) (t0 : Int32) : br_roomOf_28 s x1 t0 = (
  if t0 = 0 then
    rI 0 s
  else
    bI (ne_fullRoom s x1) fun v1 s1 =>
      rI v1 s1 : mO) := (EV_un 2000 9 28 [some (pA 35), some (pI x1), none, none] [(pI t0)] s).trans rfl
set_option maxRecDepth 100000 in
set_option maxHeartbeats 4000000 in
theorem tr_goesBy_eq (s : mSt) (x1 : Int32) : tr_goesBy s x1 = (
  bV (tr_keepRooms s 0) fun s1 =>
    bI (tr_lead s1 (-1)) fun v2 s2 =>
      gd (inb x1 12) (
        gd (inb x1 12) (
          rI ((s2 48 x1.toNatClampNeg) - (s2 49 x1.toNatClampNeg)) s2)) : mO) := (EV_un 2000 88 0 [some (pA 47), some (pI x1)] [] s).trans rfl
set_option maxRecDepth 100000 in
set_option maxHeartbeats 4000000 in
theorem tr_ahead_eq (s : mSt) (x1 : Int32) : tr_ahead s x1 = (
  bV (tr_keepRooms s 0) fun s1 =>
    bI (tr_lead s1 (-1)) fun v2 s2 =>
      bI (tr_lead s2 x1) fun v3 s3 =>
        rI (v3 - v2) s3 : mO) := (EV_un 2000 89 0 [some (pA 47), some (pI x1), none] [] s).trans rfl
set_option maxRecDepth 100000 in
set_option maxHeartbeats 4000000 in
theorem ne_lightIn_eq (s : mSt) (x1 : Int32) (x2 : Int32) : ne_lightIn s x1 x2 = (
  gd (inb x1 12) (
    gd (inb x1 12) (
      gd (inb x1 12) (
        rI ((((s 2 0) - ((s 2 2) * (s 34 x1.toNatClampNeg))) - ((s 2 3) * (s 32 x1.toNatClampNeg))) - ((s 2 4) * (jMax 0 (x2 - (s 33 x1.toNatClampNeg))))) s))) : mO) := (EV_un 2000 46 0 [some (pA 25), some (pI x1), some (pI x2), none] [] s).trans rfl
set_option maxRecDepth 100000 in
set_option maxHeartbeats 4000000 in
theorem rd_takeBytes_eq (s : mSt) (x1 : Int64) : rd_takeBytes s x1 = (
  if ((s 12 2) + 8) ≤ 240 then
    rd_takeBytes_19 s x1 56
  else
    rI (-3) s : mO) := (EV_un 2000 53 0 [some (pA 12), some (pJ x1), none, none] [] s).trans rfl
set_option maxRecDepth 100000 in
set_option maxHeartbeats 4000000 in
theorem rd_takeBytes_19_eq (s : mSt) (x1 : Int64) (x3 : Int32) : rd_takeBytes_19 s x1 x3 = (
  if x3 < 0 then
    rI (s 12 2) s
  else
    gd (inb (s 12 2) 240) (
      rd_takeBytes_19 (wr (wr s 13 ((s 12 2)).toNatClampNeg ((x1.toUInt64 >>> (x3.toInt64.toUInt64 &&& Int64.toUInt64 63)).toInt64.toInt32 &&& 255)) 12 2 ((s 12 2) + 1)) x1 (x3 + (-8))) : mO) := (EV_un 2000 53 19 [some (pA 12), some (pJ x1), none, some (pI x3)] [] s).trans rfl
set_option maxRecDepth 100000 in
set_option maxHeartbeats 4000000 in
theorem rd_keepFirst_eq (s : mSt) (x1 : Int32) : rd_keepFirst s x1 = (
  bI (LL_isWithin s x1 0 (s 12 2)) fun v1 s1 =>
    if v1 = 0 then
      rI (-1) s1
    else
      rI (s1 12 2) (wr s1 12 2 x1) : mO) := (EV_un 2000 54 0 [some (pA 12), some (pI x1), none] [] s).trans rfl
set_option maxRecDepth 100000 in
set_option maxHeartbeats 4000000 in
theorem rd_tell_1_eq (s : mSt) : rd_tell_1 s = (
  bV (ru_setAtFirst_14 s) fun s1 =>
    rd_tell_1_24 (wr (wr (wr s1 12 9 0) 12 5 0) 12 3 0) 0 : mO) := (EV_un 2000 55 0 [some (pA 12), some (pA 1), none] [] s).trans rfl
set_option maxRecDepth 100000 in
set_option maxHeartbeats 4000000 in
theorem rd_tell_1_24_eq (s : mSt) (x2 : Int32) : rd_tell_1_24 s x2 = (
  if (240 : Int32) < x2 then
    rd_tell_1_61 s x2
  else
    bI (rd_nextToken s) fun v1 s1 =>
      if v1 = 0 then
        rd_tell_1_61 s1 x2
      else
        if (s1 12 6) = 0 then
          rd_tell_1_61 s1 x2
        else
          bI (rd_readLine s1) fun v2 s2 =>
            if v2 = 0 then
              rd_tell_1_61 s2 x2
            else
              rd_tell_1_24 s2 (x2 + 1) : mO) := (EV_un 2000 55 24 [some (pA 12), some (pA 1), some (pI x2)] [] s).trans rfl
set_option maxRecDepth 100000 in
set_option maxHeartbeats 4000000 in
theorem rd_tell_1_61_eq (s : mSt) (x2 : Int32) : rd_tell_1_61 s x2 = (
  if (s 12 3) = 0 then
    bV (ru_copyFrom_1_14 (wr s 12 2 0)) fun s1 =>
      rI x2 s1
  else
    rI ((-10) - (s 12 4)) (wr s 12 2 0) : mO) := (EV_un 2000 55 61 [some (pA 12), some (pA 1), some (pI x2)] [] s).trans rfl
set_option maxRecDepth 100000 in
set_option maxHeartbeats 4000000 in
theorem sp_add_43_eq (s : mSt) (x1 : Int32) (x2 : Int32) (x3 : Int32) : sp_add_43 s x1 x2 x3 = (
  if (s 43 3) < 12 then
    gd (inb (s 43 3) 12) (
      gd (inb (s 43 3) 12) (
        gd (inb (s 43 3) 12) (
          rI (((s 43 3) + 1) - 1) (wr (wr (wr (wr s 44 ((s 43 3)).toNatClampNeg x1) 45 ((s 43 3)).toNatClampNeg x2) 46 ((s 43 3)).toNatClampNeg x3) 43 3 ((s 43 3) + 1)))))
  else
    rI (-3) s : mO) := (EV_un 2000 86 0 [some (pA 43), some (pI x1), some (pI x2), some (pI x3)] [] s).trans rfl
set_option maxRecDepth 100000 in
set_option maxHeartbeats 4000000 in
theorem sp_has_43_eq (s : mSt) (x1 : Int32) : sp_has_43 s x1 = (
  if x1 < 0 then
    rI 0 s
  else
    if (s 43 3) ≤ x1 then
      rI 0 s
    else
      rI 1 s : mO) := (EV_un 2000 85 0 [some (pA 43), some (pI x1)] [] s).trans rfl
set_option maxRecDepth 100000 in
set_option maxHeartbeats 4000000 in
theorem tr_keepRooms_eq (s : mSt) (x1 : Int32) : tr_keepRooms s x1 = (
  tr_keepRooms_2 s x1 0 : mO) := (EV_un 2000 87 0 [some (pA 47), some (pI x1), none] [] s).trans rfl
set_option maxRecDepth 100000 in
set_option maxHeartbeats 4000000 in
theorem tr_keepRooms_2_eq (s : mSt) (x1 : Int32) (x2 : Int32) : tr_keepRooms_2 s x1 x2 = (
  if (s 25 5) ≤ x2 then
    rV s
  else
    bI (br_roomOf s x2 x1) fun v1 s1 =>
      gd (inb x2 12) (
        tr_keepRooms_2 (wr s1 48 x2.toNatClampNeg v1) x1 (x2 + 1)) : mO) := (EV_un 2000 87 2 [some (pA 47), some (pI x1), some (pI x2)] [] s).trans rfl
set_option maxRecDepth 100000 in
set_option maxHeartbeats 4000000 in
theorem tr_lead_eq (s : mSt) (x1 : Int32) : tr_lead s x1 = (
  tr_lead_2 s x1 0 : mO) := (EV_un 2000 90 0 [some (pA 47), some (pI x1), none, none] [] s).trans rfl
set_option maxRecDepth 100000 in
set_option maxHeartbeats 4000000 in
theorem tr_lead_2_eq (s : mSt) (x1 : Int32) (x2 : Int32) : tr_lead_2 s x1 x2 = (
  if (s 25 5) ≤ x2 then
    tr_lead_54 (wr (wr s 47 11 0) 47 12 0) 0 0
  else
    if x2 = x1 then
      gd (inb x2 12) (
        tr_lead_2 (wr s 49 x2.toNatClampNeg 0) x1 (x2 + 1))
    else
      gd (inb x2 12) (
        gd (inb x2 12) (
          tr_lead_2 (wr s 49 x2.toNatClampNeg (s 48 x2.toNatClampNeg)) x1 (x2 + 1))) : mO) := (EV_un 2000 90 2 [some (pA 47), some (pI x1), some (pI x2), none] [] s).trans rfl
set_option maxRecDepth 100000 in
set_option maxHeartbeats 4000000 in
theorem tr_lead_54_eq (s : mSt) (x2 : Int32) (x3 : Int32) : tr_lead_54 s x2 x3 = (
  if (s 43 3) ≤ x3 then
    rI x2 s
  else
    gd (inb x3 12) (
      gd (inb x3 12) (
        if (s 46 x3.toNatClampNeg) = 0 then
          tr_lead_54 (wr s 66 x3.toNatClampNeg 0) x2 (x3 + 1)
        else
          bV (tr_leadOne (wr s 66 x3.toNatClampNeg 0) x3) fun s1 =>
            gd (inb x3 12) (
              if (s1 66 x3.toNatClampNeg) = 0 then
                gd (inb x3 12) (
                  tr_lead_54 (wr s1 47 12 ((s1 47 12) ||| (1 <<< (x3 &&& 31)))) (x2 + (s1 46 x3.toNatClampNeg)) (x3 + 1))
              else
                gd (inb x3 12) (
                  tr_lead_54 (wr s1 47 11 ((s1 47 11) + (s1 46 x3.toNatClampNeg))) x2 (x3 + 1))))) : mO) := (EV_un 2000 90 54 [some (pA 47), none, some (pI x2), some (pI x3)] [] s).trans rfl
set_option maxRecDepth 100000 in
set_option maxHeartbeats 4000000 in
theorem tr_stepOf_eq (s : mSt) (x1 : Int32) (x2 : Int32) : tr_stepOf s x1 x2 = (
  if x2 < 0 then
    rI (-4) s
  else
    gd (inb x1 12) (
      if (s 66 x1.toNatClampNeg) ≤ x2 then
        rI (-4) s
      else
        gd (inb x1 12) (
          gd (Nat.blt x1.toNatClampNeg 12) (gd (inb x2 7) (
            rI (s (54 + x1.toNatClampNeg) x2.toNatClampNeg) s)))) : mO) := (EV_un 2000 92 0 [some (pA 47), some (pI x1), some (pI x2)] [] s).trans rfl
set_option maxRecDepth 100000 in
set_option maxHeartbeats 4000000 in
theorem tr_heapsWithout_eq (s : mSt) (x1 : Int32) (x2 : Int32) (x3 : Int32) : tr_heapsWithout s x1 x2 x3 = (
  tr_heapsWithout_3 s x1 x2 x3 0 : mO) := (EV_un 2000 96 0 [some (pA 47), some (pI x1), some (pI x2), some (pI x3), none, none, none] [] s).trans rfl
set_option maxRecDepth 100000 in
set_option maxHeartbeats 4000000 in
theorem tr_heapsWithout_3_eq (s : mSt) (x1 : Int32) (x2 : Int32) (x3 : Int32) (x4 : Int32) : tr_heapsWithout_3 s x1 x2 x3 x4 = (
  if (s 25 2) ≤ x4 then
    tr_heapsWithout_42 s x1 x2 x3 (s 25 2) 0
  else
    gd (inb x4 8) (
      tr_heapsWithout_3 (wr s 52 x4.toNatClampNeg x4) x1 x2 x3 (x4 + 1)) : mO) := (EV_un 2000 96 3 [some (pA 47), some (pI x1), some (pI x2), some (pI x3), some (pI x4), none, none] [] s).trans rfl
set_option maxRecDepth 100000 in
set_option maxHeartbeats 4000000 in
theorem tr_heapsWithout_42_eq (s : mSt) (x1 : Int32) (x2 : Int32) (x3 : Int32) (x4 : Int32) (x5 : Int32) : tr_heapsWithout_42 s x1 x2 x3 x4 x5 = (
  if (s 25 5) ≤ x5 then
    rI x4 s
  else
    if x5 = x1 then
      tr_heapsWithout_82 s x1 x2 x3 x4 x5 0
    else
      if x5 = x2 then
        tr_heapsWithout_82 s x1 x2 x3 x4 x5 0
      else
        gd (inb x5 12) (
          if (s 48 x5.toNatClampNeg) < x3 then
            tr_heapsWithout_82 s x1 x2 x3 x4 x5 0
          else
            tr_heapsWithout_82 s x1 x2 x3 x4 x5 1) : mO) := (EV_un 2000 96 42 [some (pA 47), some (pI x1), some (pI x2), some (pI x3), some (pI x4), some (pI x5), none] [] s).trans rfl
set_option maxRecDepth 100000 in
set_option maxHeartbeats 4000000 in
theorem tr_heapsWithout_82_eq (s : mSt) (x1 : Int32) (x2 : Int32) (x3 : Int32) (x4 : Int32) (x5 : Int32) (t0 : Int32) : tr_heapsWithout_82 s x1 x2 x3 x4 x5 t0 = (
  if t0 = 0 then
    tr_heapsWithout_42 s x1 x2 x3 x4 (x5 + 1)
  else
    gd (inb x5 12) (
      gd (inb (s 28 x5.toNatClampNeg) 8) (
        gd (inb x5 12) (
          gd (inb (s 29 x5.toNatClampNeg) 8) (
            if (s 52 ((s 28 x5.toNatClampNeg)).toNatClampNeg) = (s 52 ((s 29 x5.toNatClampNeg)).toNatClampNeg) then
              tr_heapsWithout_42 s x1 x2 x3 x4 (x5 + 1)
            else
              gd (inb x5 12) (
                gd (inb (s 28 x5.toNatClampNeg) 8) (
                  gd (inb x5 12) (
                    gd (inb (s 29 x5.toNatClampNeg) 8) (
                      bV (tr_joinHeaps s (s 52 ((s 28 x5.toNatClampNeg)).toNatClampNeg) (s 52 ((s 29 x5.toNatClampNeg)).toNatClampNeg)) fun s1 =>
                        tr_heapsWithout_42 s1 x1 x2 x3 (x4 + (-1)) (x5 + 1))))))))) : mO) := (EV_un 2000 96 82 [some (pA 47), some (pI x1), some (pI x2), some (pI x3), some (pI x4), some (pI x5), none] [(pI t0)] s).trans rfl
set_option maxRecDepth 100000 in
set_option maxHeartbeats 4000000 in
theorem tr_swingUntilBack_eq (s : mSt) : tr_swingUntilBack s = (
  tr_swingUntilBack_13 (wr (wr s 47 13 61) 47 14 1) 0 : mO) := (EV_un 2000 98 0 [some (pA 47), none, none] [] s).trans rfl
set_option maxRecDepth 100000 in
set_option maxHeartbeats 4000000 in
theorem tr_swingUntilBack_13_eq (s : mSt) (x1 : Int32) : tr_swingUntilBack_13 s x1 = (
  if (60 : Int32) < x1 then
    rI 0 s
  else
    bV (tr_chooseAll s x1) fun s1 =>
      tr_swingUntilBack_26 s1 x1 0 : mO) := (EV_un 2000 98 13 [some (pA 47), some (pI x1), none] [] s).trans rfl
set_option maxRecDepth 100000 in
set_option maxHeartbeats 4000000 in
theorem tr_swingUntilBack_26_eq (s : mSt) (x1 : Int32) (x2 : Int32) : tr_swingUntilBack_26 s x1 x2 = (
  if x1 ≤ x2 then
    tr_swingUntilBack_13 s (x1 + 1)
  else
    bI (tr_areLike s x2 x1) fun v1 s1 =>
      if v1 = 0 then
        tr_swingUntilBack_26 s1 x1 (x2 + 1)
      else
        rI 1 (wr (wr s1 47 13 x2) 47 14 (x1 - x2)) : mO) := (EV_un 2000 98 26 [some (pA 47), some (pI x1), some (pI x2)] [] s).trans rfl
set_option maxRecDepth 100000 in
set_option maxHeartbeats 4000000 in
theorem tr_sameTurn_eq (s : mSt) (x1 : Int32) : tr_sameTurn s x1 = (
  if x1 ≤ (s 47 13) then
    rI x1 s
  else
    if (1 : Int32) ≤ (s 47 14) then
      gd (!(decide ((s 47 14) = (0 : Int32)))) (
        rI (((s 47 13) + 1) + (((x1 - (s 47 13)) - 1) - ((x1 - (s 47 13)) - 1) / (s 47 14) * (s 47 14))) s)
    else
      rI x1 s : mO) := (EV_un 2000 99 0 [some (pA 47), some (pI x1)] [] s).trans rfl
set_option maxRecDepth 100000 in
set_option maxHeartbeats 4000000 in
theorem tr_chooseAll_eq (s : mSt) (x1 : Int32) : tr_chooseAll s x1 = (
  if x1 < 0 then
    rV s
  else
    if x1 ≤ 60 then
      tr_chooseAll_13 s x1 0
    else
      rV s : mO) := (EV_un 2000 101 0 [some (pA 47), some (pI x1), none, none] [] s).trans rfl
set_option maxRecDepth 100000 in
set_option maxHeartbeats 4000000 in
theorem tr_chooseAll_13_eq (s : mSt) (x1 : Int32) (x2 : Int32) : tr_chooseAll_13 s x1 x2 = (
  if (s 25 5) ≤ x2 then
    tr_chooseAll_87 s x1 0
  else
    if x1 = 0 then
      tr_chooseAll_42 s x1 x2 0
    else
      gd (inb (x1 - 1) 61) (
        gd (Nat.blt ((x1 - 1)).toNatClampNeg 61) (gd (inb x2 12) (
          tr_chooseAll_42 s x1 x2 (s (68 + ((x1 - 1)).toNatClampNeg) x2.toNatClampNeg)))) : mO) := (EV_un 2000 101 13 [some (pA 47), some (pI x1), some (pI x2), none] [] s).trans rfl
set_option maxRecDepth 100000 in
set_option maxHeartbeats 4000000 in
theorem tr_chooseAll_87_eq (s : mSt) (x1 : Int32) (x2 : Int32) : tr_chooseAll_87 s x1 x2 = (
  if (s 25 2) ≤ x2 then
    rV s
  else
    bV (tr_chooseTo s x2 x1) fun s1 =>
      tr_chooseAll_87 s1 x1 (x2 + 1) : mO) := (EV_un 2000 101 87 [some (pA 47), some (pI x1), some (pI x2), none] [] s).trans rfl
set_option maxRecDepth 100000 in
set_option maxHeartbeats 4000000 in
theorem tr_chooseAll_42_eq (s : mSt) (x1 : Int32) (x2 : Int32) (t0 : Int32) : tr_chooseAll_42 s x1 x2 t0 = (
  gd (inb x2 12) (
    if (s 48 x2.toNatClampNeg) ≤ 0 then
      tr_chooseAll_69 s x1 x2 0 x2
    else
      tr_chooseAll_69 s x1 x2 (((1 + t0) * 16) + 1) x2) : mO) := (EV_un 2000 101 42 [some (pA 47), some (pI x1), some (pI x2), none] [(pI t0)] s).trans rfl
set_option maxRecDepth 100000 in
set_option maxHeartbeats 4000000 in
theorem tr_chooseAll_69_eq (s : mSt) (x1 : Int32) (x2 : Int32) (t0 : Int32) (t1 : Int32) : tr_chooseAll_69 s x1 x2 t0 t1 = (
  gd (inb t1 12) (
    gd (inb x1 61) (
      gd (Nat.blt x1.toNatClampNeg 61) (gd (inb x2 12) (
        tr_chooseAll_13 (wr (wr s 50 t1.toNatClampNeg t0) (68 + x1.toNatClampNeg) x2.toNatClampNeg 0) x1 (x2 + 1))))) : mO) := (EV_un 2000 101 69 [some (pA 47), some (pI x1), some (pI x2), none] [(pI t0), (pI t1), (pA 50)] s).trans rfl
set_option maxRecDepth 100000 in
set_option maxHeartbeats 4000000 in
theorem tr_greatestLoad_eq (s : mSt) : tr_greatestLoad s = (
  tr_greatestLoad_7 s 0 (s 47 13) : mO) := (EV_un 2000 103 0 [some (pA 47), none, none, none] [] s).trans rfl
set_option maxRecDepth 100000 in
set_option maxHeartbeats 4000000 in
theorem tr_greatestLoad_7_eq (s : mSt) (x1 : Int32) (x2 : Int32) : tr_greatestLoad_7 s x1 x2 = (
  if ((s 47 13) + (s 47 14)) ≤ x2 then
    rI x1 s
  else
    if (60 : Int32) < x2 then
      rI x1 s
    else
      tr_greatestLoad_28 s x1 x2 0 : mO) := (EV_un 2000 103 7 [some (pA 47), some (pI x1), some (pI x2), none] [] s).trans rfl
set_option maxRecDepth 100000 in
set_option maxHeartbeats 4000000 in
theorem tr_greatestLoad_28_eq (s : mSt) (x1 : Int32) (x2 : Int32) (x3 : Int32) : tr_greatestLoad_28 s x1 x2 x3 = (
  if (s 25 5) ≤ x3 then
    tr_greatestLoad_7 s x1 (x2 + 1)
  else
    gd (inb x2 61) (
      gd (Nat.blt x2.toNatClampNeg 61) (gd (inb x3 12) (
        tr_greatestLoad_28 s (jMax x1 (s (68 + x2.toNatClampNeg) x3.toNatClampNeg)) x2 (x3 + 1)))) : mO) := (EV_un 2000 103 28 [some (pA 47), some (pI x1), some (pI x2), some (pI x3)] [] s).trans rfl
set_option maxRecDepth 100000 in
set_option maxHeartbeats 4000000 in
theorem tr_overfull_eq (s : mSt) : tr_overfull s = (
  tr_overfull_7 s 0 (s 47 13) : mO) := (EV_un 2000 104 0 [some (pA 47), none, none, none] [] s).trans rfl
set_option maxRecDepth 100000 in
set_option maxHeartbeats 4000000 in
theorem tr_overfull_7_eq (s : mSt) (x1 : Int32) (x2 : Int32) : tr_overfull_7 s x1 x2 = (
  if ((s 47 13) + (s 47 14)) ≤ x2 then
    rI x1 s
  else
    if (60 : Int32) < x2 then
      rI x1 s
    else
      tr_overfull_28 s x1 x2 0 : mO) := (EV_un 2000 104 7 [some (pA 47), some (pI x1), some (pI x2), none] [] s).trans rfl
set_option maxRecDepth 100000 in
set_option maxHeartbeats 4000000 in
theorem tr_overfull_28_eq (s : mSt) (x1 : Int32) (x2 : Int32) (x3 : Int32) : tr_overfull_28 s x1 x2 x3 = (
  if (s 25 5) ≤ x3 then
    tr_overfull_7 s x1 (x2 + 1)
  else
    gd (inb x2 61) (
      gd (Nat.blt x2.toNatClampNeg 61) (gd (inb x3 12) (
        gd (inb x3 12) (
          if (s (68 + x2.toNatClampNeg) x3.toNatClampNeg) ≤ (s 48 x3.toNatClampNeg) then
            tr_overfull_28 s (x1 ||| 0) x2 (x3 + 1)
          else
            tr_overfull_28 s (x1 ||| (1 <<< (x3 &&& 31))) x2 (x3 + 1))))) : mO) := (EV_un 2000 104 28 [some (pA 47), some (pI x1), some (pI x2), some (pI x3)] [] s).trans rfl
set_option maxRecDepth 100000 in
set_option maxHeartbeats 4000000 in
theorem br_add_eq (s : mSt) (x1 : Int32) (x2 : Int32) : br_add s x1 x2 = (
  if (s 35 2) < 8 then
    gd (inb (s 35 2) 8) (
      gd (inb (s 35 2) 8) (
        gd (inb (s 35 2) 8) (
          gd (inb (s 35 2) 8) (
            gd (inb x1 12) (
              gd (inb (s 35 2) 8) (
                gd (inb (s 35 2) 8) (
                  gd (inb (s 35 2) 8) (
                    rI (((s 35 2) + 1) - 1) (wr (wr (wr (wr (wr (wr (wr (wr s 36 ((s 35 2)).toNatClampNeg x1) 37 ((s 35 2)).toNatClampNeg x2) 38 ((s 35 2)).toNatClampNeg (s 35 1)) 39 ((s 35 2)).toNatClampNeg 0) 40 ((s 35 2)).toNatClampNeg (s 34 x1.toNatClampNeg)) 41 ((s 35 2)).toNatClampNeg 1000000) 42 ((s 35 2)).toNatClampNeg (-1)) 35 2 ((s 35 2) + 1))))))))))
  else
    rI (-3) s : mO) := (EV_un 2000 1 0 [some (pA 35), some (pI x1), some (pI x2)] [] s).trans rfl
set_option maxRecDepth 100000 in
set_option maxHeartbeats 4000000 in
theorem br_has_eq (s : mSt) (x1 : Int32) : br_has s x1 = (
  if x1 < 0 then
    rI 0 s
  else
    if (s 35 2) ≤ x1 then
      rI 0 s
    else
      rI 1 s : mO) := (EV_un 2000 0 0 [some (pA 35), some (pI x1)] [] s).trans rfl
set_option maxRecDepth 100000 in
set_option maxHeartbeats 4000000 in
theorem br_isInHands_eq (s : mSt) (x1 : Int32) : br_isInHands s x1 = (
  gd (inb x1 8) (
    if (s 42 x1.toNatClampNeg) = (-1) then
      rI 0 s
    else
      rI 1 s) : mO) := (EV_un 2000 3 0 [some (pA 35), some (pI x1)] [] s).trans rfl
set_option maxRecDepth 100000 in
set_option maxHeartbeats 4000000 in
theorem br_narrow_eq (s : mSt) (x1 : Int32) (x2 : Int32) (x3 : Int32) (x4 : Int32) : br_narrow s x1 x2 x3 x4 = (
  if x2 = 0 then
    br_narrow_24 s x1 x4 x3
  else
    gd (inb x1 8) (
      gd (inb (s 36 x1.toNatClampNeg) 12) (
        br_narrow_24 s x1 x4 ((s 34 ((s 36 x1.toNatClampNeg)).toNatClampNeg) - x3))) : mO) := (EV_un 2000 2 0 [some (pA 35), some (pI x1), some (pI x2), some (pI x3), some (pI x4), none, none, none] [] s).trans rfl
set_option maxRecDepth 100000 in
set_option maxHeartbeats 4000000 in
theorem br_narrow_24_eq (s : mSt) (x1 : Int32) (x4 : Int32) (t0 : Int32) : br_narrow_24 s x1 x4 t0 = (
  gd (inb x1 8) (
    gd (inb x1 8) (
      if (jMax (s 39 x1.toNatClampNeg) (t0 - x4)) ≤ (jMin (s 40 x1.toNatClampNeg) (t0 + x4)) then
        gd (inb x1 8) (
          gd (inb x1 8) (
            rI (((jMin (s 40 x1.toNatClampNeg) (t0 + x4)) - (jMax (s 39 x1.toNatClampNeg) (t0 - x4))) + 1) (wr (wr s 39 x1.toNatClampNeg (jMax (s 39 x1.toNatClampNeg) (t0 - x4))) 40 x1.toNatClampNeg (jMin (s 40 x1.toNatClampNeg) (t0 + x4)))))
      else
        rI (-2) s)) : mO) := (EV_un 2000 2 24 [some (pA 35), some (pI x1), none, none, some (pI x4), none, none, none] [(pI t0)] s).trans rfl
set_option maxRecDepth 100000 in
set_option maxHeartbeats 4000000 in
theorem br_isOpen_eq (s : mSt) (x1 : Int32) : br_isOpen s x1 = (
  gd (inb x1 8) (
    if (s 41 x1.toNatClampNeg) ≤ (s 35 1) then
      rI 0 s
    else
      rI 1 s) : mO) := (EV_un 2000 4 0 [some (pA 35), some (pI x1)] [] s).trans rfl
set_option maxRecDepth 100000 in
set_option maxHeartbeats 4000000 in
theorem ne_placeX_eq (s : mSt) (x1 : Int32) (x2 : Int32) : ne_placeX s x1 x2 = (
  gd (inb x1 12) (
    gd (inb (s 28 x1.toNatClampNeg) 8) (
      bI (ne_stepsAlongX s x1) fun v1 s1 =>
        gd (inb x1 12) (
          gd (inb (s1 29 x1.toNatClampNeg) 8) (
            if (s 26 ((s 28 x1.toNatClampNeg)).toNatClampNeg) ≤ (s1 26 ((s1 29 x1.toNatClampNeg)).toNatClampNeg) then
              rI ((s 26 ((s 28 x1.toNatClampNeg)).toNatClampNeg) + (jMin x2 v1)) s1
            else
              rI ((s 26 ((s 28 x1.toNatClampNeg)).toNatClampNeg) - (jMin x2 v1)) s1)))) : mO) := (EV_un 2000 51 0 [some (pA 25), some (pI x1), some (pI x2), none, none] [] s).trans rfl
set_option maxRecDepth 100000 in
set_option maxHeartbeats 4000000 in
theorem ne_placeY_eq (s : mSt) (x1 : Int32) (x2 : Int32) : ne_placeY s x1 x2 = (
  gd (inb x1 12) (
    gd (inb (s 28 x1.toNatClampNeg) 8) (
      bI (ne_stepsAlongX s x1) fun v1 s1 =>
        gd (inb x1 12) (
          gd (inb (s1 29 x1.toNatClampNeg) 8) (
            if (s 27 ((s 28 x1.toNatClampNeg)).toNatClampNeg) ≤ (s1 27 ((s1 29 x1.toNatClampNeg)).toNatClampNeg) then
              rI ((s 27 ((s 28 x1.toNatClampNeg)).toNatClampNeg) + (jMax 0 (x2 - v1))) s1
            else
              rI ((s 27 ((s 28 x1.toNatClampNeg)).toNatClampNeg) - (jMax 0 (x2 - v1))) s1)))) : mO) := (EV_un 2000 52 0 [some (pA 25), some (pI x1), some (pI x2), none, none] [] s).trans rfl
set_option maxRecDepth 100000 in
set_option maxHeartbeats 4000000 in
theorem br_farFrom_eq (s : mSt) (x1 : Int32) (x2 : Int32) (x3 : Int32) : br_farFrom s x1 x2 x3 = (
  gd (inb x1 8) (
    bI (ne_stepsAlongX s (s 36 x1.toNatClampNeg)) fun v1 s1 =>
      gd (inb x1 8) (
        if v1 < (s1 39 x1.toNatClampNeg) then
          br_farFrom_61 s1 x1 x2 x3 v1 1000000
        else
          gd (inb x1 8) (
            gd (inb x1 8) (
              gd (inb x1 8) (
                bI (br_farFromRow s1 (s1 36 x1.toNatClampNeg) (s1 39 x1.toNatClampNeg) (jMin (s1 40 x1.toNatClampNeg) v1) x2 x3) fun v2 s2 =>
                  br_farFrom_61 s2 x1 x2 x3 v1 v2))))) : mO) := (EV_un 2000 10 0 [some (pA 35), some (pI x1), some (pI x2), some (pI x3), none, none] [] s).trans rfl
set_option maxRecDepth 100000 in
set_option maxHeartbeats 4000000 in
theorem br_farFrom_61_eq (s : mSt) (x1 : Int32) (x2 : Int32) (x3 : Int32) (x4 : Int32) (x5 : Int32) : br_farFrom_61 s x1 x2 x3 x4 x5 = (
  gd (inb x1 8) (
    if (s 40 x1.toNatClampNeg) ≤ x4 then
      rI x5 s
    else
      gd (inb x1 8) (
        gd (inb x1 8) (
          gd (inb x1 8) (
            bI (br_farFromRow s (s 36 x1.toNatClampNeg) (jMax (s 39 x1.toNatClampNeg) x4) (s 40 x1.toNatClampNeg) x2 x3) fun v1 s1 =>
              rI (jMin x5 v1) s1)))) : mO) := (EV_un 2000 10 61 [some (pA 35), some (pI x1), some (pI x2), some (pI x3), some (pI x4), some (pI x5)] [] s).trans rfl
set_option maxRecDepth 100000 in
set_option maxHeartbeats 4000000 in
theorem br_couldShare_eq (s : mSt) (x1 : Int32) (x2 : Int32) (x3 : Int32) : br_couldShare s x1 x2 x3 = (
  gd (inb x1 8) (
    gd (inb x2 8) (
      if (jAbs ((s 37 x1.toNatClampNeg) - (s 37 x2.toNatClampNeg))) ≤ 2 then
        gd (inb x1 8) (
          br_couldShare_30 s x1 x2 x3 (s 39 x1.toNatClampNeg))
      else
        rI 0 s)) : mO) := (EV_un 2000 13 0 [some (pA 35), some (pI x1), some (pI x2), some (pI x3), none] [] s).trans rfl
set_option maxRecDepth 100000 in
set_option maxHeartbeats 4000000 in
theorem br_couldShare_30_eq (s : mSt) (x1 : Int32) (x2 : Int32) (x3 : Int32) (x4 : Int32) : br_couldShare_30 s x1 x2 x3 x4 = (
  gd (inb x1 8) (
    if (s 40 x1.toNatClampNeg) < x4 then
      rI 0 s
    else
      gd (inb x1 8) (
        bI (ne_placeX s (s 36 x1.toNatClampNeg) x4) fun v1 s1 =>
          gd (inb x1 8) (
            bI (ne_placeY s1 (s1 36 x1.toNatClampNeg) x4) fun v2 s2 =>
              bI (br_farFrom s2 x2 v1 v2) fun v3 s3 =>
                if (2 * x3) < v3 then
                  br_couldShare_30 s3 x1 x2 x3 (x4 + 1)
                else
                  rI 1 s3))) : mO) := (EV_un 2000 13 30 [some (pA 35), some (pI x1), some (pI x2), some (pI x3), some (pI x4)] [] s).trans rfl
set_option maxRecDepth 100000 in
set_option maxHeartbeats 4000000 in
theorem ne_hasLand_eq (s : mSt) (x1 : Int32) : ne_hasLand s x1 = (
  if x1 < 0 then
    rI 0 s
  else
    if (s 25 2) ≤ x1 then
      rI 0 s
    else
      rI 1 s : mO) := (EV_un 2000 42 0 [some (pA 25), some (pI x1)] [] s).trans rfl
set_option maxRecDepth 100000 in
set_option maxHeartbeats 4000000 in
theorem fl_add_eq (s : mSt) (x1 : Int32) (x2 : Int32) (x3 : Int32) : fl_add s x1 x2 x3 = (
  if (s 129 3) < 3 then
    gd (inb x1 8) (
      gd (inb (s 129 3) 3) (
        gd (inb x1 8) (
          gd (inb (s 129 3) 3) (
            gd (inb (s 129 3) 3) (
              gd (inb (s 129 3) 3) (
                gd (inb (s 129 3) 3) (
                  rI (((s 129 3) + 1) - 1) (wr (wr (wr (wr (wr (wr s 130 ((s 129 3)).toNatClampNeg (s 26 x1.toNatClampNeg)) 131 ((s 129 3)).toNatClampNeg (s 27 x1.toNatClampNeg)) 132 ((s 129 3)).toNatClampNeg x2) 133 ((s 129 3)).toNatClampNeg x3) 134 ((s 129 3)).toNatClampNeg 0) 129 3 ((s 129 3) + 1)))))))))
  else
    rI (-3) s : mO) := (EV_un 2000 17 0 [some (pA 129), some (pI x1), some (pI x2), some (pI x3)] [] s).trans rfl
set_option maxRecDepth 100000 in
set_option maxHeartbeats 4000000 in
theorem fl_has_eq (s : mSt) (x1 : Int32) : fl_has s x1 = (
  if x1 < 0 then
    rI 0 s
  else
    if (s 129 3) ≤ x1 then
      rI 0 s
    else
      rI 1 s : mO) := (EV_un 2000 16 0 [some (pA 129), some (pI x1)] [] s).trans rfl
set_option maxRecDepth 100000 in
set_option maxHeartbeats 4000000 in
theorem fl_mayMend_eq (s : mSt) (x1 : Int32) (x2 : Int32) : fl_mayMend s x1 x2 = (
  bI (fl_hasLeave s x1 x2) fun v1 s1 =>
    if v1 = 0 then
      rI 0 s1
    else
      gd (inb x1 3) (
        bI (fl_reelFor s1 x2) fun v2 s2 =>
          if (s1 132 x1.toNatClampNeg) < v2 then
            rI 0 s2
          else
            rI 1 s2) : mO) := (EV_un 2000 23 0 [some (pA 129), some (pI x1), some (pI x2)] [] s).trans rfl
set_option maxRecDepth 100000 in
set_option maxHeartbeats 4000000 in
theorem fl_takeInHands_eq (s : mSt) (x1 : Int32) (x2 : Int32) : fl_takeInHands s x1 x2 = (
  bI (fl_beginsIn s x1) fun v1 s1 =>
    gd (inb x1 3) (
      gd (inb x1 3) (
        bI (fl_hoursTo s1 x2 (s1 130 x1.toNatClampNeg) (s1 131 x1.toNatClampNeg)) fun v2 s2 =>
          gd (inb x1 3) (
            bI (fl_reelFor s2 x2) fun v3 s3 =>
              gd (inb x1 3) (
                bI (fl_placeX (wr s3 132 x1.toNatClampNeg ((s2 132 x1.toNatClampNeg) - v3)) x2) fun v4 s4 =>
                  gd (inb x1 3) (
                    bI (fl_placeY (wr s4 130 x1.toNatClampNeg v4) x2) fun v5 s5 =>
                      gd (inb x1 3) (
                        gd (inb x1 3) (
                          gd (inb x2 8) (
                            gd (inb x2 8) (
                              rI (v1 + v2) (wr (wr (wr (wr s5 131 x1.toNatClampNeg v5) 134 x1.toNatClampNeg (v1 + v2)) 41 x2.toNatClampNeg (v1 + v2)) 42 x2.toNatClampNeg x1)))))))))) : mO) := (EV_un 2000 25 0 [some (pA 129), some (pI x1), some (pI x2), none] [] s).trans rfl
set_option maxRecDepth 100000 in
set_option maxHeartbeats 4000000 in
theorem me_gather_eq (s : mSt) : me_gather s = (
  me_gather_7 (wr s 135 3 0) 0 : mO) := (EV_un 2000 26 0 [some (pA 135), none] [] s).trans rfl
set_option maxRecDepth 100000 in
set_option maxHeartbeats 4000000 in
theorem me_gather_7_eq (s : mSt) (x1 : Int32) : me_gather_7 s x1 = (
  if (s 35 2) ≤ x1 then
    rI 1 s
  else
    bI (br_isOpen s x1) fun v1 s1 =>
      if v1 = 0 then
        me_gather_7 s1 (x1 + 1)
      else
        bI (br_isInHands s1 x1) fun v2 s2 =>
          if v2 = 0 then
            if (s2 135 3) < 7 then
              gd (inb (s2 135 3) 7) (
                me_gather_7 (wr (wr s2 136 ((s2 135 3)).toNatClampNeg x1) 135 3 ((s2 135 3) + 1)) (x1 + 1))
            else
              rI 0 s2
          else
            me_gather_7 s2 (x1 + 1) : mO) := (EV_un 2000 26 7 [some (pA 135), some (pI x1)] [] s).trans rfl
set_option maxRecDepth 100000 in
set_option maxHeartbeats 4000000 in
theorem me_weigh_eq (s : mSt) : me_weigh s = (
  bV (tr_keepRooms s 1) fun s1 =>
    bI (tr_lead s1 (-1)) fun v2 s2 =>
      me_weigh_19 s2 v2 0 : mO) := (EV_un 2000 28 0 [some (pA 135), none, none] [] s).trans rfl
set_option maxRecDepth 100000 in
set_option maxHeartbeats 4000000 in
theorem me_weigh_19_eq (s : mSt) (x1 : Int32) (x2 : Int32) : me_weigh_19 s x1 x2 = (
  if (s 135 3) ≤ x2 then
    rV s
  else
    gd (inb x2 7) (
      gd (inb (s 136 x2.toNatClampNeg) 8) (
        bI (tr_lead s (s 36 ((s 136 x2.toNatClampNeg)).toNatClampNeg)) fun v1 s1 =>
          gd (inb x2 7) (
            me_weigh_19 (wr s1 137 x2.toNatClampNeg (v1 - x1)) x1 (x2 + 1)))) : mO) := (EV_un 2000 28 19 [some (pA 135), some (pI x1), some (pI x2)] [] s).trans rfl
set_option maxRecDepth 100000 in
set_option maxHeartbeats 4000000 in
theorem me_measure_eq (s : mSt) : me_measure s = (
  me_measure_2 s 0 : mO) := (EV_un 2000 29 0 [some (pA 135), none, none] [] s).trans rfl
set_option maxRecDepth 100000 in
set_option maxHeartbeats 4000000 in
theorem me_measure_2_eq (s : mSt) (x1 : Int32) : me_measure_2 s x1 = (
  if (s 135 3) ≤ x1 then
    me_measure_81 s 0
  else
    me_measure_12 s x1 0 : mO) := (EV_un 2000 29 2 [some (pA 135), some (pI x1), none] [] s).trans rfl
set_option maxRecDepth 100000 in
set_option maxHeartbeats 4000000 in
theorem me_measure_81_eq (s : mSt) (x1 : Int32) : me_measure_81 s x1 = (
  if (1 <<< ((s 135 3) &&& 31)) ≤ x1 then
    me_measure_140 s 0
  else
    bI (me_weightOf s x1) fun v1 s1 =>
      gd (inb x1 128) (
        me_measure_104 (wr s1 146 x1.toNatClampNeg v1) x1 0) : mO) := (EV_un 2000 29 81 [some (pA 135), some (pI x1), none] [] s).trans rfl
set_option maxRecDepth 100000 in
set_option maxHeartbeats 4000000 in
theorem me_measure_12_eq (s : mSt) (x1 : Int32) (x2 : Int32) : me_measure_12 s x1 x2 = (
  if (s 135 3) ≤ x2 then
    me_measure_2 s (x1 + 1)
  else
    gd (inb x1 7) (
      gd (inb x2 7) (
        gd (inb x1 7) (
          bI (fl_placeX s (s 136 x1.toNatClampNeg)) fun v1 s1 =>
            gd (inb x1 7) (
              bI (fl_placeY s1 (s1 136 x1.toNatClampNeg)) fun v2 s2 =>
                bI (fl_hoursTo s2 (s 136 x2.toNatClampNeg) v1 v2) fun v3 s3 =>
                  gd (Nat.blt x1.toNatClampNeg 7) (gd (inb x2 7) (
                    me_measure_12 (wr s3 (139 + x1.toNatClampNeg) x2.toNatClampNeg v3) x1 (x2 + 1))))))) : mO) := (EV_un 2000 29 12 [some (pA 135), some (pI x1), some (pI x2)] [] s).trans rfl
set_option maxRecDepth 100000 in
set_option maxHeartbeats 4000000 in
theorem me_measure_140_eq (s : mSt) (x1 : Int32) : me_measure_140 s x1 = (
  if (s 129 3) ≤ x1 then
    rV s
  else
    me_measure_153 s x1 0 : mO) := (EV_un 2000 29 140 [some (pA 135), some (pI x1), none] [] s).trans rfl
set_option maxRecDepth 100000 in
set_option maxHeartbeats 4000000 in
theorem me_measure_104_eq (s : mSt) (x1 : Int32) (x2 : Int32) : me_measure_104 s x1 x2 = (
  if (s 135 3) ≤ x2 then
    me_measure_81 s (x1 + 1)
  else
    gd (inb x2 7) (
      bI (me_costFrom s x2 x1) fun v1 s1 =>
        gd (Nat.blt x2.toNatClampNeg 7) (gd (inb x1 128) (
          me_measure_104 (wr s1 (148 + x2.toNatClampNeg) x1.toNatClampNeg v1) x1 (x2 + 1)))) : mO) := (EV_un 2000 29 104 [some (pA 135), some (pI x1), some (pI x2)] [] s).trans rfl
set_option maxRecDepth 100000 in
set_option maxHeartbeats 4000000 in
theorem me_measure_153_eq (s : mSt) (x1 : Int32) (x2 : Int32) : me_measure_153 s x1 x2 = (
  if (1 <<< ((s 135 3) &&& 31)) ≤ x2 then
    me_measure_140 s (x1 + 1)
  else
    gd (inb x1 3) (
      bI (me_costFor s x1 x2) fun v1 s1 =>
        gd (Nat.blt x1.toNatClampNeg 3) (gd (inb x2 128) (
          me_measure_153 (wr s1 (156 + x1.toNatClampNeg) x2.toNatClampNeg v1) x1 (x2 + 1)))) : mO) := (EV_un 2000 29 153 [some (pA 135), some (pI x1), some (pI x2)] [] s).trans rfl
set_option maxRecDepth 100000 in
set_option maxHeartbeats 4000000 in
theorem me_findBest_eq (s : mSt) : me_findBest s = (
  if (s 135 3) = 0 then
    me_findBest_14 s 0
  else
    me_findBest_14 s 2147483647 : mO) := (EV_un 2000 33 0 [some (pA 135), none, none, none] [] s).trans rfl
set_option maxRecDepth 100000 in
set_option maxHeartbeats 4000000 in
theorem me_findBest_14_eq (s : mSt) (t0 : Int32) : me_findBest_14 s t0 = (
  if (s 135 3) = 0 then
    me_findBest_34 (wr s 135 13 t0)
  else
    if (s 129 3) = 0 then
      me_findBest_34 (wr s 135 13 t0)
    else
      bV (ay_fill_159 (wr s 135 13 t0) 0) fun s1 =>
        bV (ay_fill_160 s1 0) fun s2 =>
          me_findBest_81 (wr s2 160 0 ((1 <<< ((s2 135 3) &&& 31)) - 1)) 1 0 : mO) := (EV_un 2000 33 14 [some (pA 135), none, none, none] [(pI t0), (pA 135)] s).trans rfl
set_option maxRecDepth 100000 in
set_option maxHeartbeats 4000000 in
theorem me_findBest_34_eq (s : mSt) : me_findBest_34 s = (
  if (s 135 3) = 0 then
    rI 1 s
  else
    rI 0 s : mO) := (EV_un 2000 33 34 [some (pA 135), none, none, none] [] s).trans rfl
set_option maxRecDepth 100000 in
set_option maxHeartbeats 4000000 in
theorem me_findBest_81_eq (s : mSt) (x1 : Int32) (x2 : Int32) : me_findBest_81 s x1 x2 = (
  if x1 = 0 then
    me_findBest_138 s
  else
    if (2187 : Int32) ≤ x2 then
      me_findBest_138 s
    else
      bI (me_costOfParting s) fun v1 s1 =>
        if (s1 135 13) ≤ v1 then
          me_findBest_127 s1 x2
        else
          gd (cpOK 0 0 (s1 135 3) 7 7) (
            me_findBest_127 (cpw (wr s1 135 13 v1) 161 ((wr s1 135 13 v1) 159) 0 0 ((s1 135 3)).toNatClampNeg) x2) : mO) := (EV_un 2000 33 81 [some (pA 135), some (pI x1), some (pI x2), none] [] s).trans rfl
set_option maxRecDepth 100000 in
set_option maxHeartbeats 4000000 in
theorem me_findBest_138_eq (s : mSt) : me_findBest_138 s = (
  if (s 135 13) = 2147483647 then
    rI 0 s
  else
    rI 1 s : mO) := (EV_un 2000 33 138 [some (pA 135), none, none, none] [] s).trans rfl
set_option maxRecDepth 100000 in
set_option maxHeartbeats 4000000 in
theorem me_findBest_127_eq (s : mSt) (x2 : Int32) : me_findBest_127 s x2 = (
  bI (me_nextParting s) fun v1 s1 =>
    me_findBest_81 s1 v1 (x2 + 1) : mO) := (EV_un 2000 33 127 [some (pA 135), none, some (pI x2), none] [] s).trans rfl
set_option maxRecDepth 100000 in
set_option maxHeartbeats 4000000 in
theorem me_bestShipOf_eq (s : mSt) (x1 : Int32) : me_bestShipOf s x1 = (
  me_bestShipOf_2 s x1 0 : mO) := (EV_un 2000 36 0 [some (pA 135), some (pI x1), none] [] s).trans rfl
set_option maxRecDepth 100000 in
set_option maxHeartbeats 4000000 in
theorem me_bestShipOf_2_eq (s : mSt) (x1 : Int32) (x2 : Int32) : me_bestShipOf_2 s x1 x2 = (
  if (s 135 3) ≤ x2 then
    rI (-4) s
  else
    gd (inb x2 7) (
      if (s 136 x2.toNatClampNeg) = x1 then
        gd (inb x2 7) (
          rI (s 161 x2.toNatClampNeg) s)
      else
        me_bestShipOf_2 s x1 (x2 + 1)) : mO) := (EV_un 2000 36 2 [some (pA 135), some (pI x1), some (pI x2)] [] s).trans rfl
set_option maxRecDepth 100000 in
set_option maxHeartbeats 4000000 in
theorem me_jobBits_eq (s : mSt) : me_jobBits s = (
  me_jobBits_4 s 0 0 : mO) := (EV_un 2000 27 0 [some (pA 135), none, none] [] s).trans rfl
set_option maxRecDepth 100000 in
set_option maxHeartbeats 4000000 in
theorem me_jobBits_4_eq (s : mSt) (x1 : Int32) (x2 : Int32) : me_jobBits_4 s x1 x2 = (
  if (s 135 3) ≤ x2 then
    rI x1 s
  else
    gd (inb x2 7) (
      me_jobBits_4 s (x1 ||| (1 <<< ((s 136 x2.toNatClampNeg) &&& 31))) (x2 + 1)) : mO) := (EV_un 2000 27 4 [some (pA 135), some (pI x1), some (pI x2)] [] s).trans rfl
set_option maxRecDepth 100000 in
set_option maxHeartbeats 4000000 in
theorem me_goPlainly_eq (s : mSt) : me_goPlainly s = (
  me_goPlainly_2 s 0 : mO) := (EV_un 2000 37 0 [some (pA 135), none, none, none, none] [] s).trans rfl
set_option maxRecDepth 100000 in
set_option maxHeartbeats 4000000 in
theorem me_goPlainly_2_eq (s : mSt) (x1 : Int32) : me_goPlainly_2 s x1 = (
  if (s 129 3) ≤ x1 then
    me_goPlainly_99 (wr (wr s 135 19 0) 135 18 ((1 <<< ((s 135 3) &&& 31)) - 1)) 0 0
  else
    gd (inb x1 3) (
      gd (inb x1 3) (
        gd (inb x1 3) (
          gd (inb x1 3) (
            gd (inb x1 3) (
              gd (inb x1 3) (
                bI (fl_beginsIn (wr (wr (wr s 162 x1.toNatClampNeg (s 130 x1.toNatClampNeg)) 163 x1.toNatClampNeg (s 131 x1.toNatClampNeg)) 164 x1.toNatClampNeg (s 132 x1.toNatClampNeg)) x1) fun v1 s1 =>
                  gd (inb x1 3) (
                    me_goPlainly_2 (wr s1 165 x1.toNatClampNeg v1) (x1 + 1)))))))) : mO) := (EV_un 2000 37 2 [some (pA 135), some (pI x1), none, none, none] [] s).trans rfl
set_option maxRecDepth 100000 in
set_option maxHeartbeats 4000000 in
theorem me_goPlainly_99_eq (s : mSt) (x1 : Int32) (x2 : Int32) : me_goPlainly_99 s x1 x2 = (
  if (10 : Int32) ≤ x2 then
    rV s
  else
    bI (me_firstFree s x1) fun v1 s1 =>
      if (0 : Int32) ≤ v1 then
        bI (me_soonestFor s1 v1) fun v2 s2 =>
          if (0 : Int32) ≤ v2 then
            bV (me_doPlainly s2 v1 v2) fun s3 =>
              me_goPlainly_99 s3 x1 (x2 + 1)
          else
            me_goPlainly_99 s2 (x1 ||| (1 <<< (v1 &&& 31))) (x2 + 1)
      else
        rV s1 : mO) := (EV_un 2000 37 99 [some (pA 135), some (pI x1), some (pI x2), none, none] [] s).trans rfl
set_option maxRecDepth 100000 in
set_option maxHeartbeats 4000000 in
theorem me_plainLeft_eq (s : mSt) : me_plainLeft s = (
  bI (ig_bitCount s (s 135 18)) fun v1 s1 =>
    rI v1 s1 : mO) := (EV_un 2000 41 0 [some (pA 135)] [] s).trans rfl
set_option maxRecDepth 100000 in
set_option maxHeartbeats 4000000 in
theorem LL_coinsOf_eq (s : mSt) (x1 : Int32) (x2 : Int32) (x3 : Int32) : LL_coinsOf s x1 x2 x3 = (
  LL_coinsOf_6 s x1 x2 x3 0 0 : mO) := (EV_un 2000 147 0 [some (pA 0), some (pI x1), some (pI x2), some (pI x3), none, none, none, none, none, none] [] s).trans rfl
set_option maxRecDepth 100000 in
set_option maxHeartbeats 4000000 in
theorem LL_coinsOf_6_eq (s : mSt) (x1 : Int32) (x2 : Int32) (x3 : Int32) (x4 : Int32) (x5 : Int32) : LL_coinsOf_6 s x1 x2 x3 x4 x5 = (
  if (s 1 2) ≤ x5 then
    rI x4 s
  else
    gd (inb x5 8) (
      gd (Nat.blt x5.toNatClampNeg 8) (gd (inb 4 6) (
        gd (Nat.blt x5.toNatClampNeg 8) (gd (inb 0 6) (
          if (s (4 + x5.toNatClampNeg) 0) = x1 then
            gd (Nat.blt x5.toNatClampNeg 8) (gd (inb 3 6) (
              if (s (4 + x5.toNatClampNeg) 3) < (jMin (s (4 + x5.toNatClampNeg) 4) (s 35 1)) then
                gd (Nat.blt x5.toNatClampNeg 8) (gd (inb 1 6) (
                  gd (Nat.blt x5.toNatClampNeg 8) (gd (inb 3 6) (
                    bI (br_downHours s (s (4 + x5.toNatClampNeg) 1) (s (4 + x5.toNatClampNeg) 3) (jMin (s (4 + x5.toNatClampNeg) 4) (s 35 1)) x2) fun v1 s1 =>
                      if x3 = 0 then
                        gd (Nat.blt x5.toNatClampNeg 8) (gd (inb 3 6) (
                          LL_coinsOf_105 s1 x1 x2 x3 x4 x5 x5.toNatClampNeg (((jMin (s (4 + x5.toNatClampNeg) 4) (s 35 1)) - (s1 (4 + x5.toNatClampNeg) 3)) - v1)))
                      else
                        LL_coinsOf_105 s1 x1 x2 x3 x4 x5 x5.toNatClampNeg v1))))
              else
                LL_coinsOf_6 s x1 x2 x3 x4 (x5 + 1)))
          else
            LL_coinsOf_6 s x1 x2 x3 x4 (x5 + 1)))))) : mO) := (EV_un 2000 147 6 [some (pA 0), some (pI x1), some (pI x2), some (pI x3), some (pI x4), some (pI x5), none, none, none, none] [] s).trans rfl
set_option maxRecDepth 100000 in
set_option maxHeartbeats 4000000 in
theorem LL_coinsOf_105_eq (s : mSt) (x1 : Int32) (x2 : Int32) (x3 : Int32) (x4 : Int32) (x5 : Int32) (r6 : Nat) (t0 : Int32) : LL_coinsOf_105 s x1 x2 x3 x4 x5 r6 t0 = (
  gd (Nat.blt r6 8) (gd (inb 5 6) (
    LL_coinsOf_6 s x1 x2 x3 (x4 + (t0 * (s (4 + r6) 5))) (x5 + 1))) : mO) := (EV_un 2000 147 105 [some (pA 0), some (pI x1), some (pI x2), some (pI x3), some (pI x4), some (pI x5), some (.inr (3, r6)), none, none, none] [(pI t0)] s).trans rfl
set_option maxRecDepth 100000 in
set_option maxHeartbeats 4000000 in
theorem sp_add_166_eq (s : mSt) (x1 : Int32) (x2 : Int32) (x3 : Int32) : sp_add_166 s x1 x2 x3 = (
  if (s 166 3) < 8 then
    gd (inb (s 166 3) 8) (
      gd (inb (s 166 3) 8) (
        gd (inb (s 166 3) 8) (
          rI (((s 166 3) + 1) - 1) (wr (wr (wr (wr s 167 ((s 166 3)).toNatClampNeg x1) 168 ((s 166 3)).toNatClampNeg x2) 169 ((s 166 3)).toNatClampNeg x3) 166 3 ((s 166 3) + 1)))))
  else
    rI (-3) s : mO) := (EV_un 2000 86 0 [some (pA 166), some (pI x1), some (pI x2), some (pI x3)] [] s).trans rfl
set_option maxRecDepth 100000 in
set_option maxHeartbeats 4000000 in
theorem sa_findBest_eq (s : mSt) (x1 : Int32) : sa_findBest s x1 = (
  bI (sa_isSafe s ((1 <<< ((s 166 3) &&& 31)) - 1) x1) fun v1 s1 =>
    if v1 = 0 then
      rI 0 s1
    else
      bI (sa_coinsOf (wr s1 170 8 ((1 <<< ((s 166 3) &&& 31)) - 1)) ((1 <<< ((s 166 3) &&& 31)) - 1)) fun v2 s2 =>
        sa_findBest_39 (wr s2 170 7 v2) x1 ((1 <<< ((s 166 3) &&& 31)) - 1) 0 : mO) := (EV_un 2000 70 0 [some (pA 170), some (pI x1), none, none, none] [] s).trans rfl
set_option maxRecDepth 100000 in
set_option maxHeartbeats 4000000 in
theorem sa_findBest_39_eq (s : mSt) (x1 : Int32) (x2 : Int32) (x3 : Int32) : sa_findBest_39 s x1 x2 x3 = (
  if x2 ≤ x3 then
    rI 1 s
  else
    bI (sa_coinsOf s x3) fun v1 s1 =>
      bI (sa_isBetter s1 x3 v1) fun v2 s2 =>
        if v2 = 0 then
          sa_findBest_39 s2 x1 x2 (x3 + 1)
        else
          bI (sa_isSafe s2 x3 x1) fun v3 s3 =>
            if v3 = 0 then
              sa_findBest_39 s3 x1 x2 (x3 + 1)
            else
              sa_findBest_39 (wr (wr s3 170 8 x3) 170 7 v1) x1 x2 (x3 + 1) : mO) := (EV_un 2000 70 39 [some (pA 170), some (pI x1), some (pI x2), some (pI x3), none] [] s).trans rfl
set_option maxRecDepth 100000 in
set_option maxHeartbeats 4000000 in
theorem sh_has_eq (s : mSt) (x1 : Int32) : sh_has s x1 = (
  if x1 < 0 then
    rI 0 s
  else
    if (4 : Int32) ≤ x1 then
      rI 0 s
    else
      rI 1 s : mO) := (EV_un 2000 79 0 [some (pA 175), some (pI x1)] [] s).trans rfl
set_option maxRecDepth 100000 in
set_option maxHeartbeats 4000000 in
theorem sh_isLane_eq (s : mSt) (x1 : Int32) : sh_isLane s x1 = (
  if x1 < 0 then
    rI 0 s
  else
    if (2 : Int32) < x1 then
      rI 0 s
    else
      rI 1 s : mO) := (EV_un 2000 80 0 [some (pA 175), some (pI x1)] [] s).trans rfl
set_option maxRecDepth 100000 in
set_option maxHeartbeats 4000000 in
theorem sh_begin_eq (s : mSt) (x1 : Int32) (x2 : Int32) (x3 : Int32) : sh_begin s x1 x2 x3 = (
  gd (inb x1 4) (
    gd (inb x1 4) (
      gd (inb x1 4) (
        bV (ay_fill_r178 (wr (wr s 176 x1.toNatClampNeg x2) 177 x1.toNatClampNeg x3) x1.toNatClampNeg 0) fun s1 =>
          rI 1 s1))) : mO) := (EV_un 2000 83 0 [some (pA 175), some (pI x1), some (pI x2), some (pI x3)] [] s).trans rfl
set_option maxRecDepth 100000 in
set_option maxHeartbeats 4000000 in
theorem sh_isNothing_eq (s : mSt) (x1 : Int32) : sh_isNothing s x1 = (
  gd (inb x1 4) (
    if (s 176 x1.toNatClampNeg) = (-1) then
      rI 1 s
    else
      rI 0 s) : mO) := (EV_un 2000 81 0 [some (pA 175), some (pI x1)] [] s).trans rfl
set_option maxRecDepth 100000 in
set_option maxHeartbeats 4000000 in
theorem sh_hasCell_eq (s : mSt) (x1 : Int32) (x2 : Int32) : sh_hasCell s x1 x2 = (
  if x2 < 0 then
    rI 0 s
  else
    gd (inb x1 4) (
      if (s 177 x1.toNatClampNeg) ≤ x2 then
        rI 0 s
      else
        rI 1 s) : mO) := (EV_un 2000 82 0 [some (pA 175), some (pI x1), some (pI x2)] [] s).trans rfl
set_option maxRecDepth 100000 in
set_option maxHeartbeats 4000000 in
theorem sh_put_eq (s : mSt) (x1 : Int32) (x2 : Int32) (x3 : Int32) : sh_put s x1 x2 x3 = (
  gd (inb x1 4) (
    if (s 176 x1.toNatClampNeg) = 0 then
      gd (inb x1 4) (
        gd (Nat.blt x1.toNatClampNeg 4) (gd (inb x2 40) (
          rI 1 (wr s (179 + x1.toNatClampNeg) x2.toNatClampNeg x3.toInt8.toInt32))))
    else
      gd (inb x1 4) (
        if (s 176 x1.toNatClampNeg) = 1 then
          gd (inb x1 4) (
            gd (Nat.blt x1.toNatClampNeg 4) (gd (inb x2 40) (
              rI 1 (wr s (179 + x1.toNatClampNeg) x2.toNatClampNeg x3.toInt16.toInt32))))
        else
          gd (inb x1 4) (
            gd (Nat.blt x1.toNatClampNeg 4) (gd (inb x2 40) (
              rI 1 (wr s (179 + x1.toNatClampNeg) x2.toNatClampNeg x3)))))) : mO) := (EV_un 2000 84 0 [some (pA 175), some (pI x1), some (pI x2), some (pI x3)] [] s).trans rfl
set_option maxRecDepth 100000 in
set_option maxHeartbeats 4000000 in
theorem br_openOnes_eq (s : mSt) : br_openOnes s = (
  br_openOnes_4 s 0 0 : mO) := (EV_un 2000 5 0 [some (pA 35), none, none] [] s).trans rfl
set_option maxRecDepth 100000 in
set_option maxHeartbeats 4000000 in
theorem br_openOnes_4_eq (s : mSt) (x1 : Int32) (x2 : Int32) : br_openOnes_4 s x1 x2 = (
  if (s 35 2) ≤ x2 then
    rI x1 s
  else
    bI (br_isOpen s x2) fun v1 s1 =>
      if v1 = 0 then
        br_openOnes_4 s1 (x1 + 0) (x2 + 1)
      else
        br_openOnes_4 s1 (x1 + 1) (x2 + 1) : mO) := (EV_un 2000 5 4 [some (pA 35), some (pI x1), some (pI x2)] [] s).trans rfl
set_option maxRecDepth 100000 in
set_option maxHeartbeats 4000000 in
theorem br_litLines_eq (s : mSt) : br_litLines s = (
  br_litLines_4 s 0 0 : mO) := (EV_un 2000 8 0 [some (pA 35), none, none] [] s).trans rfl
set_option maxRecDepth 100000 in
set_option maxHeartbeats 4000000 in
theorem br_litLines_4_eq (s : mSt) (x1 : Int32) (x2 : Int32) : br_litLines_4 s x1 x2 = (
  if (s 25 5) ≤ x2 then
    rI x1 s
  else
    bI (br_stateOf s x2) fun v1 s1 =>
      if v1 = 0 then
        br_litLines_4 s1 (x1 + 1) (x2 + 1)
      else
        br_litLines_4 s1 (x1 + 0) (x2 + 1) : mO) := (EV_un 2000 8 4 [some (pA 35), some (pI x1), some (pI x2)] [] s).trans rfl
set_option maxRecDepth 100000 in
set_option maxHeartbeats 4000000 in
theorem br_isCut_eq (s : mSt) (x1 : Int32) : br_isCut s x1 = (
  br_isCut_2 s x1 0 : mO) := (EV_un 2000 6 0 [some (pA 35), some (pI x1), none] [] s).trans rfl
set_option maxRecDepth 100000 in
set_option maxHeartbeats 4000000 in
theorem br_isCut_2_eq (s : mSt) (x1 : Int32) (x2 : Int32) : br_isCut_2 s x1 x2 = (
  if (s 35 2) ≤ x2 then
    rI 0 s
  else
    gd (inb x2 8) (
      if (s 36 x2.toNatClampNeg) = x1 then
        bI (br_isOpen s x2) fun v1 s1 =>
          if v1 = 0 then
            br_isCut_2 s1 x1 (x2 + 1)
          else
            rI 1 s1
      else
        br_isCut_2 s x1 (x2 + 1)) : mO) := (EV_un 2000 6 2 [some (pA 35), some (pI x1), some (pI x2)] [] s).trans rfl
set_option maxRecDepth 100000 in
set_option maxHeartbeats 4000000 in
theorem ne_isBright_eq (s : mSt) (x1 : Int32) : ne_isBright s x1 = (
  bI (ne_lightIn s x1 (s 25 1)) fun v1 s1 =>
    if v1 < (s1 2 1) then
      rI 0 s1
    else
      rI 1 s1 : mO) := (EV_un 2000 47 0 [some (pA 25), some (pI x1)] [] s).trans rfl
set_option maxRecDepth 100000 in
set_option maxHeartbeats 4000000 in
theorem ne_fullRoom_eq (s : mSt) (x1 : Int32) : ne_fullRoom s x1 = (
  gd (inb x1 12) (
    rI ((s 2 5) * (s 31 x1.toNatClampNeg)) s) : mO) := (EV_un 2000 48 0 [some (pA 25), some (pI x1)] [] s).trans rfl
set_option maxRecDepth 100000 in
set_option maxHeartbeats 4000000 in
theorem ru_setAtFirst_14_eq (s : mSt) : ru_setAtFirst_14 s = (
  
    rV (wr (cpw s 15 (fun j => ([100, 20, 1, 2, 1, 5, 4, 2] : List Int32).getD j 0) 0 0 8) 14 2 0) : mO) := (EV_un 2000 68 0 [some (pA 14)] [] s).trans rfl
set_option maxRecDepth 100000 in
set_option maxHeartbeats 4000000 in
theorem rd_nextToken_eq (s : mSt) : rd_nextToken s = (
  if (s 12 2) ≤ (s 12 5) then
    rd_nextToken_38 s
  else
    gd (inb (s 12 5) 240) (
      if (s 13 ((s 12 5)).toNatClampNeg) = 32 then
        rd_nextToken_0 (wr s 12 5 ((s 12 5) + 1))
      else
        rd_nextToken_38 s) : mO) := (EV_un 2000 63 0 [some (pA 12)] [] s).trans rfl
set_option maxRecDepth 100000 in
set_option maxHeartbeats 4000000 in
theorem rd_nextToken_38_eq (s : mSt) : rd_nextToken_38 s = (
  if (s 12 5) < (s 12 2) then
    gd (inb (s 12 5) 240) (
      if (s 13 ((s 12 5)).toNatClampNeg) = 59 then
        rI 1 (wr (wr (wr s 12 7 (s 12 5)) 12 6 3) 12 5 ((s 12 5) + 1))
      else
        gd (inb (s 12 5) 240) (
          bI (LL_isWithin (wr s 12 7 (s 12 5)) (s 13 ((s 12 5)).toNatClampNeg) 97 122) fun v1 s1 =>
            if v1 = 0 then
              bI (rd_nextNumber s1) fun v2 s2 =>
                gd (bz v2) (rI v2 s2)
            else
              rd_nextToken_119 (wr s1 12 6 1)))
  else
    rI 1 (wr (wr s 12 7 (s 12 5)) 12 6 0) : mO) := (EV_un 2000 63 38 [some (pA 12)] [] s).trans rfl
set_option maxRecDepth 100000 in
set_option maxHeartbeats 4000000 in
theorem rd_nextToken_0_eq (s : mSt) : rd_nextToken_0 s = (
  if (s 12 2) ≤ (s 12 5) then
    rd_nextToken_38 s
  else
    gd (inb (s 12 5) 240) (
      if (s 13 ((s 12 5)).toNatClampNeg) = 32 then
        rd_nextToken_0 (wr s 12 5 ((s 12 5) + 1))
      else
        rd_nextToken_38 s) : mO) := (EV_un 2000 63 0 [some (pA 12)] [] s).trans rfl
set_option maxRecDepth 100000 in
set_option maxHeartbeats 4000000 in
theorem rd_nextToken_119_eq (s : mSt) : rd_nextToken_119 s = (
  if (s 12 2) ≤ (s 12 5) then
    rI 1 s
  else
    gd (inb (s 12 5) 240) (
      bI (LL_isWithin s (s 13 ((s 12 5)).toNatClampNeg) 97 122) fun v1 s1 =>
        if v1 = 0 then
          rI 1 s1
        else
          rd_nextToken_119 (wr s1 12 5 ((s1 12 5) + 1))) : mO) := (EV_un 2000 63 119 [some (pA 12)] [] s).trans rfl
set_option maxRecDepth 100000 in
set_option maxHeartbeats 4000000 in
theorem rd_readLine_eq (s : mSt) : rd_readLine s = (
  if (s 12 6) = 1 then
    bI (rd_isWord_240 s) fun v1 s1 =>
      if v1 = 0 then
        rd_readLine_22 s1
      else
        bI (rd_readRent s1) fun v2 s2 =>
          gd (bz v2) (rI v2 s2)
  else
    rd_readLine_22 s : mO) := (EV_un 2000 56 0 [some (pA 12), none] [] s).trans rfl
set_option maxRecDepth 100000 in
set_option maxHeartbeats 4000000 in
theorem rd_readLine_22_eq (s : mSt) : rd_readLine_22 s = (
  if (s 12 6) = 1 then
    bI (rd_ruleNamed s) fun v1 s1 =>
      rd_readLine_39 s1 v1
  else
    rd_readLine_39 s 8 : mO) := (EV_un 2000 56 22 [some (pA 12), none] [] s).trans rfl
set_option maxRecDepth 100000 in
set_option maxHeartbeats 4000000 in
theorem rd_readLine_39_eq (s : mSt) (t0 : Int32) : rd_readLine_39 s t0 = (
  if t0 = 8 then
    bI (rd_fail s 2) fun v4 s4 =>
      gd (bz v4) (rI v4 s4)
  else
    if (((s 12 9) >>> (t0 &&& 31)) &&& 1) = 1 then
      bI (rd_fail s 4) fun v3 s3 =>
        gd (bz v3) (rI v3 s3)
    else
      gd (inb t0 8) (
        gd (inb t0 8) (
          bI (rd_readNumber_15 (wr s 12 9 ((s 12 9) ||| (1 <<< (t0 &&& 31)))) t0 ([0, 0, 0, 0, 0, 1, 1, 1].getD t0.toNatClampNeg 0 : Int32) ([999, 999, 20, 20, 20, 50, 20, 20].getD t0.toNatClampNeg 0 : Int32)) fun v1 s1 =>
            if v1 = 0 then
              rI 0 s1
            else
              bI (rd_readStop s1) fun v2 s2 =>
                if v2 = 0 then
                  rI 0 s2
                else
                  rI 1 s2)) : mO) := (EV_un 2000 56 39 [some (pA 12), none] [(pI t0)] s).trans rfl
set_option maxRecDepth 100000 in
set_option maxHeartbeats 4000000 in
theorem ru_copyFrom_1_14_eq (s : mSt) : ru_copyFrom_1_14 s = (
  
    ru_copyFrom_1_14_17 (cpw s 2 (s 15) 0 0 8) 0 : mO) := (EV_un 2000 69 0 [some (pA 1), some (pA 14), none] [] s).trans rfl
set_option maxRecDepth 100000 in
set_option maxHeartbeats 4000000 in
theorem ru_copyFrom_1_14_17_eq (s : mSt) (x2 : Int32) : ru_copyFrom_1_14_17 s x2 = (
  if (s 14 2) ≤ x2 then
    rV (wr s 1 2 (s 14 2))
  else
    gd (inb x2 8) (
      gd (inb x2 8) (
        gd (Nat.blt x2.toNatClampNeg 8) (gd (Nat.blt x2.toNatClampNeg 8) (
          ru_copyFrom_1_14_17 (cpw s (4 + x2.toNatClampNeg) (s (17 + x2.toNatClampNeg)) 0 0 6) (x2 + 1))))) : mO) := (EV_un 2000 69 17 [some (pA 1), some (pA 14), some (pI x2)] [] s).trans rfl
set_option maxRecDepth 100000 in
set_option maxHeartbeats 4000000 in
theorem tr_leadOne_eq (s : mSt) (x1 : Int32) : tr_leadOne s x1 = (
  tr_leadOne_2 s x1 0 : mO) := (EV_un 2000 91 0 [some (pA 47), some (pI x1), none] [] s).trans rfl
set_option maxRecDepth 100000 in
set_option maxHeartbeats 4000000 in
theorem tr_leadOne_2_eq (s : mSt) (x1 : Int32) (x2 : Int32) : tr_leadOne_2 s x1 x2 = (
  if (s 25 5) ≤ x2 then
    gd (inb x1 12) (
      bV (tr_measureTo s (s 45 x1.toNatClampNeg)) fun s1 =>
        bV (tr_follow s1 x1) fun s2 =>
          tr_leadOne_68 s2 x1 0)
  else
    gd (inb x2 12) (
      gd (inb x1 12) (
        if (s 49 x2.toNatClampNeg) < (s 46 x1.toNatClampNeg) then
          gd (inb x2 12) (
            tr_leadOne_2 (wr s 50 x2.toNatClampNeg 0) x1 (x2 + 1))
        else
          gd (inb x2 12) (
            tr_leadOne_2 (wr s 50 x2.toNatClampNeg 1) x1 (x2 + 1)))) : mO) := (EV_un 2000 91 2 [some (pA 47), some (pI x1), some (pI x2)] [] s).trans rfl
set_option maxRecDepth 100000 in
set_option maxHeartbeats 4000000 in
theorem tr_leadOne_68_eq (s : mSt) (x1 : Int32) (x2 : Int32) : tr_leadOne_68 s x1 x2 = (
  gd (inb x1 12) (
    if (s 66 x1.toNatClampNeg) ≤ x2 then
      rV s
    else
      gd (inb x1 12) (
        gd (Nat.blt x1.toNatClampNeg 12) (gd (inb x2 7) (
          gd (inb (s (54 + x1.toNatClampNeg) x2.toNatClampNeg) 12) (
            gd (inb x1 12) (
              gd (inb (s (54 + x1.toNatClampNeg) x2.toNatClampNeg) 12) (
                tr_leadOne_68 (wr s 49 ((s (54 + x1.toNatClampNeg) x2.toNatClampNeg)).toNatClampNeg ((s 49 ((s (54 + x1.toNatClampNeg) x2.toNatClampNeg)).toNatClampNeg) - (s 46 x1.toNatClampNeg))) x1 (x2 + 1)))))))) : mO) := (EV_un 2000 91 68 [some (pA 47), some (pI x1), some (pI x2)] [] s).trans rfl
set_option maxRecDepth 100000 in
set_option maxHeartbeats 4000000 in
theorem tr_joinHeaps_eq (s : mSt) (x1 : Int32) (x2 : Int32) : tr_joinHeaps s x1 x2 = (
  tr_joinHeaps_2 s x1 x2 0 : mO) := (EV_un 2000 97 0 [some (pA 47), some (pI x1), some (pI x2), none] [] s).trans rfl
set_option maxRecDepth 100000 in
set_option maxHeartbeats 4000000 in
theorem tr_joinHeaps_2_eq (s : mSt) (x1 : Int32) (x2 : Int32) (x3 : Int32) : tr_joinHeaps_2 s x1 x2 x3 = (
  if (s 25 2) ≤ x3 then
    rV s
  else
    gd (inb x3 8) (
      if (s 52 x3.toNatClampNeg) = x2 then
        gd (inb x3 8) (
          tr_joinHeaps_2 (wr s 52 x3.toNatClampNeg x1) x1 x2 (x3 + 1))
      else
        tr_joinHeaps_2 s x1 x2 (x3 + 1)) : mO) := (EV_un 2000 97 2 [some (pA 47), some (pI x1), some (pI x2), some (pI x3)] [] s).trans rfl
set_option maxRecDepth 100000 in
set_option maxHeartbeats 4000000 in
theorem tr_areLike_eq (s : mSt) (x1 : Int32) (x2 : Int32) : tr_areLike s x1 x2 = (
  tr_areLike_2 s x1 x2 0 : mO) := (EV_un 2000 100 0 [some (pA 47), some (pI x1), some (pI x2), none] [] s).trans rfl
set_option maxRecDepth 100000 in
set_option maxHeartbeats 4000000 in
theorem tr_areLike_2_eq (s : mSt) (x1 : Int32) (x2 : Int32) (x3 : Int32) : tr_areLike_2 s x1 x2 x3 = (
  if (s 25 5) ≤ x3 then
    rI 1 s
  else
    gd (inb x1 61) (
      gd (Nat.blt x1.toNatClampNeg 61) (gd (inb x3 12) (
        gd (inb x2 61) (
          gd (Nat.blt x2.toNatClampNeg 61) (gd (inb x3 12) (
            if (s (68 + x1.toNatClampNeg) x3.toNatClampNeg) = (s (68 + x2.toNatClampNeg) x3.toNatClampNeg) then
              tr_areLike_2 s x1 x2 (x3 + 1)
            else
              rI 0 s)))))) : mO) := (EV_un 2000 100 2 [some (pA 47), some (pI x1), some (pI x2), some (pI x3)] [] s).trans rfl
set_option maxRecDepth 100000 in
set_option maxHeartbeats 4000000 in
theorem tr_chooseTo_eq (s : mSt) (x1 : Int32) (x2 : Int32) : tr_chooseTo s x1 x2 = (
  tr_chooseTo_5 s x1 x2 0 0 : mO) := (EV_un 2000 102 0 [some (pA 47), some (pI x1), some (pI x2), none, none, none] [] s).trans rfl
set_option maxRecDepth 100000 in
set_option maxHeartbeats 4000000 in
theorem tr_chooseTo_5_eq (s : mSt) (x1 : Int32) (x2 : Int32) (x3 : Int32) (x4 : Int32) : tr_chooseTo_5 s x1 x2 x3 x4 = (
  if (s 43 3) ≤ x4 then
    rV s
  else
    gd (inb x4 12) (
      if (s 45 x4.toNatClampNeg) = x1 then
        gd (inb x4 12) (
          gd (inb x4 12) (
            if (s 46 x4.toNatClampNeg) = 0 then
              tr_chooseTo_5 (wr s 66 x4.toNatClampNeg 0) x1 x2 x3 (x4 + 1)
            else
              if x3 = 0 then
                bV (tr_measureTo (wr s 66 x4.toNatClampNeg 0) x1) fun s1 =>
                  tr_chooseTo_69 s1 x1 x2 1 x4
              else
                tr_chooseTo_69 (wr s 66 x4.toNatClampNeg 0) x1 x2 x3 x4))
      else
        tr_chooseTo_5 s x1 x2 x3 (x4 + 1)) : mO) := (EV_un 2000 102 5 [some (pA 47), some (pI x1), some (pI x2), some (pI x3), some (pI x4), none] [] s).trans rfl
set_option maxRecDepth 100000 in
set_option maxHeartbeats 4000000 in
theorem tr_chooseTo_69_eq (s : mSt) (x1 : Int32) (x2 : Int32) (x3 : Int32) (x4 : Int32) : tr_chooseTo_69 s x1 x2 x3 x4 = (
  bV (tr_follow s x4) fun s1 =>
    tr_chooseTo_78 s1 x1 x2 x3 x4 0 : mO) := (EV_un 2000 102 69 [some (pA 47), some (pI x1), some (pI x2), some (pI x3), some (pI x4), none] [] s).trans rfl
set_option maxRecDepth 100000 in
set_option maxHeartbeats 4000000 in
theorem tr_chooseTo_78_eq (s : mSt) (x1 : Int32) (x2 : Int32) (x3 : Int32) (x4 : Int32) (x5 : Int32) : tr_chooseTo_78 s x1 x2 x3 x4 x5 = (
  gd (inb x4 12) (
    if (s 66 x4.toNatClampNeg) ≤ x5 then
      tr_chooseTo_5 s x1 x2 x3 (x4 + 1)
    else
      gd (inb x2 61) (
        gd (inb x4 12) (
          gd (Nat.blt x4.toNatClampNeg 12) (gd (inb x5 7) (
            gd (Nat.blt x2.toNatClampNeg 61) (gd (inb (s (54 + x4.toNatClampNeg) x5.toNatClampNeg) 12) (
              gd (inb x4 12) (
                gd (Nat.blt x2.toNatClampNeg 61) (gd (inb (s (54 + x4.toNatClampNeg) x5.toNatClampNeg) 12) (
                  tr_chooseTo_78 (wr s (68 + x2.toNatClampNeg) ((s (54 + x4.toNatClampNeg) x5.toNatClampNeg)).toNatClampNeg ((s (68 + x2.toNatClampNeg) ((s (54 + x4.toNatClampNeg) x5.toNatClampNeg)).toNatClampNeg) + (s 46 x4.toNatClampNeg))) x1 x2 x3 x4 (x5 + 1))))))))))) : mO) := (EV_un 2000 102 78 [some (pA 47), some (pI x1), some (pI x2), some (pI x3), some (pI x4), some (pI x5)] [] s).trans rfl
set_option maxRecDepth 100000 in
set_option maxHeartbeats 4000000 in
theorem ne_stepsAlongX_eq (s : mSt) (x1 : Int32) : ne_stepsAlongX s x1 = (
  gd (inb x1 12) (
    gd (inb (s 29 x1.toNatClampNeg) 8) (
      gd (inb x1 12) (
        gd (inb (s 28 x1.toNatClampNeg) 8) (
          rI (jAbs ((s 26 ((s 29 x1.toNatClampNeg)).toNatClampNeg) - (s 26 ((s 28 x1.toNatClampNeg)).toNatClampNeg))) s)))) : mO) := (EV_un 2000 50 0 [some (pA 25), some (pI x1)] [] s).trans rfl
set_option maxRecDepth 100000 in
set_option maxHeartbeats 4000000 in
theorem br_farFromRow_eq (s : mSt) (x1 : Int32) (x2 : Int32) (x3 : Int32) (x4 : Int32) (x5 : Int32) : br_farFromRow s x1 x2 x3 x4 x5 = (
  bI (ne_placeX s x1 x2) fun v1 s1 =>
    bI (ne_placeX s1 x1 x3) fun v2 s2 =>
      bI (br_gap s2 v1 v2 x4) fun v3 s3 =>
        bI (ne_placeY s3 x1 x2) fun v4 s4 =>
          bI (ne_placeY s4 x1 x3) fun v5 s5 =>
            bI (br_gap s5 v4 v5 x5) fun v6 s6 =>
              rI (v3 + v6) s6 : mO) := (EV_un 2000 11 0 [some (pA 35), some (pI x1), some (pI x2), some (pI x3), some (pI x4), some (pI x5)] [] s).trans rfl
set_option maxRecDepth 100000 in
set_option maxHeartbeats 4000000 in
theorem fl_hasLeave_eq (s : mSt) (x1 : Int32) (x2 : Int32) : fl_hasLeave s x1 x2 = (
  gd (inb x2 8) (
    gd (inb (s 36 x2.toNatClampNeg) 12) (
      if (s 30 ((s 36 x2.toNatClampNeg)).toNatClampNeg) = 1 then
        fl_hasLeave_26 s x1 2
      else
        fl_hasLeave_26 s x1 1)) : mO) := (EV_un 2000 18 0 [some (pA 129), some (pI x1), some (pI x2), none] [] s).trans rfl
set_option maxRecDepth 100000 in
set_option maxHeartbeats 4000000 in
theorem fl_hasLeave_26_eq (s : mSt) (x1 : Int32) (t0 : Int32) : fl_hasLeave_26 s x1 t0 = (
  gd (inb x1 3) (
    if ((s 133 x1.toNatClampNeg) &&& t0) = 0 then
      rI 0 s
    else
      rI 1 s) : mO) := (EV_un 2000 18 26 [some (pA 129), some (pI x1), none, none] [(pI t0)] s).trans rfl
set_option maxRecDepth 100000 in
set_option maxHeartbeats 4000000 in
theorem fl_reelFor_eq (s : mSt) (x1 : Int32) : fl_reelFor s x1 = (
  gd (inb x1 8) (
    gd (inb x1 8) (
      rI ((3 + (s 40 x1.toNatClampNeg)) - (s 39 x1.toNatClampNeg)) s)) : mO) := (EV_un 2000 19 0 [some (pA 129), some (pI x1)] [] s).trans rfl
set_option maxRecDepth 100000 in
set_option maxHeartbeats 4000000 in
theorem fl_beginsIn_eq (s : mSt) (x1 : Int32) : fl_beginsIn s x1 = (
  gd (inb x1 3) (
    rI (jMax (s 35 1) (s 134 x1.toNatClampNeg)) s) : mO) := (EV_un 2000 24 0 [some (pA 129), some (pI x1)] [] s).trans rfl
set_option maxRecDepth 100000 in
set_option maxHeartbeats 4000000 in
theorem fl_hoursTo_eq (s : mSt) (x1 : Int32) (x2 : Int32) (x3 : Int32) : fl_hoursTo s x1 x2 x3 = (
  bI (fl_placeX s x1) fun v1 s1 =>
    bI (fl_placeY s1 x1) fun v2 s2 =>
      gd (!(decide ((jMax 1 (s2 2 7)) = (0 : Int32)))) (
        rI ((((((jAbs (v1 - x2)) + (jAbs (v2 - x3))) + (jMax 1 (s2 2 7))) - 1) / (jMax 1 (s2 2 7))) + (s2 2 6)) s2) : mO) := (EV_un 2000 22 0 [some (pA 129), some (pI x1), some (pI x2), some (pI x3), none, none] [] s).trans rfl
set_option maxRecDepth 100000 in
set_option maxHeartbeats 4000000 in
theorem fl_placeX_eq (s : mSt) (x1 : Int32) : fl_placeX s x1 = (
  gd (inb x1 8) (
    gd (inb x1 8) (
      bI (ne_placeX s (s 36 x1.toNatClampNeg) (s 39 x1.toNatClampNeg)) fun v1 s1 =>
        rI v1 s1)) : mO) := (EV_un 2000 20 0 [some (pA 129), some (pI x1)] [] s).trans rfl
set_option maxRecDepth 100000 in
set_option maxHeartbeats 4000000 in
theorem fl_placeY_eq (s : mSt) (x1 : Int32) : fl_placeY s x1 = (
  gd (inb x1 8) (
    gd (inb x1 8) (
      bI (ne_placeY s (s 36 x1.toNatClampNeg) (s 39 x1.toNatClampNeg)) fun v1 s1 =>
        rI v1 s1)) : mO) := (EV_un 2000 21 0 [some (pA 129), some (pI x1)] [] s).trans rfl
set_option maxRecDepth 100000 in
set_option maxHeartbeats 4000000 in
theorem me_weightOf_eq (s : mSt) (x1 : Int32) : me_weightOf s x1 = (
  me_weightOf_4 s x1 0 0 : mO) := (EV_un 2000 30 0 [some (pA 135), some (pI x1), none, none] [] s).trans rfl
set_option maxRecDepth 100000 in
set_option maxHeartbeats 4000000 in
theorem me_weightOf_4_eq (s : mSt) (x1 : Int32) (x2 : Int32) (x3 : Int32) : me_weightOf_4 s x1 x2 x3 = (
  if (s 135 3) ≤ x3 then
    rI x2 s
  else
    gd (inb x3 7) (
      me_weightOf_4 s x1 (x2 + (((x1 >>> (x3 &&& 31)) &&& 1) * (s 137 x3.toNatClampNeg))) (x3 + 1)) : mO) := (EV_un 2000 30 4 [some (pA 135), some (pI x1), some (pI x2), some (pI x3)] [] s).trans rfl
set_option maxRecDepth 100000 in
set_option maxHeartbeats 4000000 in
theorem me_costFrom_eq (s : mSt) (x1 : Int32) (x2 : Int32) : me_costFrom s x1 x2 = (
  if x2 = 0 then
    me_costFrom_14 s x1 x2 0 0
  else
    me_costFrom_14 s x1 x2 2147483647 0 : mO) := (EV_un 2000 31 0 [some (pA 135), some (pI x1), some (pI x2), none, none] [] s).trans rfl
set_option maxRecDepth 100000 in
set_option maxHeartbeats 4000000 in
theorem me_costFrom_14_eq (s : mSt) (x1 : Int32) (x2 : Int32) (x3 : Int32) (x4 : Int32) : me_costFrom_14 s x1 x2 x3 x4 = (
  if (s 135 3) ≤ x4 then
    rI x3 s
  else
    if ((x2 >>> (x4 &&& 31)) &&& 1) = 1 then
      gd (inb x2 128) (
        gd (inb x1 7) (
          gd (Nat.blt x1.toNatClampNeg 7) (gd (inb x4 7) (
            gd (inb x4 7) (
              gd (Nat.blt x4.toNatClampNeg 7) (gd (inb (x2 ^^^ (1 <<< (x4 &&& 31))) 128) (
                me_costFrom_14 s x1 x2 (jMin x3 (((s 146 x2.toNatClampNeg) * (s (139 + x1.toNatClampNeg) x4.toNatClampNeg)) + (s (148 + x4.toNatClampNeg) ((x2 ^^^ (1 <<< (x4 &&& 31)))).toNatClampNeg))) (x4 + 1))))))))
    else
      me_costFrom_14 s x1 x2 x3 (x4 + 1) : mO) := (EV_un 2000 31 14 [some (pA 135), some (pI x1), some (pI x2), some (pI x3), some (pI x4)] [] s).trans rfl
set_option maxRecDepth 100000 in
set_option maxHeartbeats 4000000 in
theorem me_costFor_eq (s : mSt) (x1 : Int32) (x2 : Int32) : me_costFor s x1 x2 = (
  if x2 = 0 then
    me_costFor_10 s x1 x2 0
  else
    me_costFor_10 s x1 x2 2147483647 : mO) := (EV_un 2000 32 0 [some (pA 135), some (pI x1), some (pI x2), none, none, none, none, none] [] s).trans rfl
set_option maxRecDepth 100000 in
set_option maxHeartbeats 4000000 in
theorem me_costFor_10_eq (s : mSt) (x1 : Int32) (x2 : Int32) (t0 : Int32) : me_costFor_10 s x1 x2 t0 = (
  bI (fl_beginsIn s x1) fun v1 s1 =>
    me_costFor_35 s1 x1 x2 t0 0 (v1 - (s1 35 1)) 0 : mO) := (EV_un 2000 32 10 [some (pA 135), some (pI x1), some (pI x2), none, none, none, none, none] [(pI t0)] s).trans rfl
set_option maxRecDepth 100000 in
set_option maxHeartbeats 4000000 in
theorem me_costFor_35_eq (s : mSt) (x1 : Int32) (x2 : Int32) (x3 : Int32) (x4 : Int32) (x5 : Int32) (x6 : Int32) : me_costFor_35 s x1 x2 x3 x4 x5 x6 = (
  if (s 135 3) ≤ x6 then
    rI x3 s
  else
    if ((x2 >>> (x6 &&& 31)) &&& 1) = 0 then
      me_costFor_35 s x1 x2 x3 x4 x5 (x6 + 1)
    else
      gd (inb x6 7) (
        bI (fl_reelFor s (s 136 x6.toNatClampNeg)) fun v1 s1 =>
          gd (inb x6 7) (
            bI (fl_hasLeave s1 x1 (s1 136 x6.toNatClampNeg)) fun v2 s2 =>
              if v2 = 0 then
                rI 2147483647 s2
              else
                gd (inb x1 3) (
                  if (x4 + v1) ≤ (s2 132 x1.toNatClampNeg) then
                    gd (inb x6 7) (
                      gd (inb x1 3) (
                        gd (inb x1 3) (
                          bI (fl_hoursTo s2 (s2 136 x6.toNatClampNeg) (s2 130 x1.toNatClampNeg) (s2 131 x1.toNatClampNeg)) fun v3 s3 =>
                            gd (inb x2 128) (
                              gd (inb x6 7) (
                                gd (Nat.blt x6.toNatClampNeg 7) (gd (inb (x2 ^^^ (1 <<< (x6 &&& 31))) 128) (
                                  me_costFor_35 s3 x1 x2 (jMin x3 (((s3 146 x2.toNatClampNeg) * (x5 + v3)) + (s3 (148 + x6.toNatClampNeg) ((x2 ^^^ (1 <<< (x6 &&& 31)))).toNatClampNeg))) (x4 + v1) x5 (x6 + 1))))))))
                  else
                    rI 2147483647 s2))) : mO) := (EV_un 2000 32 35 [some (pA 135), some (pI x1), some (pI x2), some (pI x3), some (pI x4), some (pI x5), some (pI x6), none] [] s).trans rfl
set_option maxRecDepth 100000 in
set_option maxHeartbeats 4000000 in
theorem me_costOfParting_eq (s : mSt) : me_costOfParting s = (
  me_costOfParting_4 s 0 0 : mO) := (EV_un 2000 34 0 [some (pA 135), none, none, none] [] s).trans rfl
set_option maxRecDepth 100000 in
set_option maxHeartbeats 4000000 in
theorem me_costOfParting_4_eq (s : mSt) (x1 : Int32) (x2 : Int32) : me_costOfParting_4 s x1 x2 = (
  if (s 129 3) ≤ x2 then
    rI x1 s
  else
    gd (inb x2 3) (
      gd (inb x2 3) (
        gd (Nat.blt x2.toNatClampNeg 3) (gd (inb (s 160 x2.toNatClampNeg) 128) (
          if (s (156 + x2.toNatClampNeg) ((s 160 x2.toNatClampNeg)).toNatClampNeg) = 2147483647 then
            rI 2147483647 s
          else
            me_costOfParting_4 s (x1 + (s (156 + x2.toNatClampNeg) ((s 160 x2.toNatClampNeg)).toNatClampNeg)) (x2 + 1))))) : mO) := (EV_un 2000 34 4 [some (pA 135), some (pI x1), some (pI x2), none] [] s).trans rfl
set_option maxRecDepth 100000 in
set_option maxHeartbeats 4000000 in
theorem me_nextParting_eq (s : mSt) : me_nextParting s = (
  me_nextParting_7 s ((s 135 3) - 1) : mO) := (EV_un 2000 35 0 [some (pA 135), none, none, none] [] s).trans rfl
set_option maxRecDepth 100000 in
set_option maxHeartbeats 4000000 in
theorem me_nextParting_7_eq (s : mSt) (x1 : Int32) : me_nextParting_7 s x1 = (
  if x1 < 0 then
    rI 0 s
  else
    gd (inb x1 7) (
      if (s 129 3) ≤ ((s 159 x1.toNatClampNeg) + 1) then
        me_nextParting_38 s x1 (s 159 x1.toNatClampNeg) 0
      else
        me_nextParting_38 s x1 (s 159 x1.toNatClampNeg) ((s 159 x1.toNatClampNeg) + 1)) : mO) := (EV_un 2000 35 7 [some (pA 135), some (pI x1), none, none] [] s).trans rfl
set_option maxRecDepth 100000 in
set_option maxHeartbeats 4000000 in
theorem me_nextParting_38_eq (s : mSt) (x1 : Int32) (x2 : Int32) (t0 : Int32) : me_nextParting_38 s x1 x2 t0 = (
  gd (inb x2 3) (
    gd (inb x2 3) (
      gd (inb t0 3) (
        gd (inb t0 3) (
          gd (inb x1 7) (
            if t0 ≤ x2 then
              me_nextParting_7 (wr (wr (wr s 160 x2.toNatClampNeg ((s 160 x2.toNatClampNeg) ^^^ (1 <<< (x1 &&& 31)))) 160 t0.toNatClampNeg (((wr s 160 x2.toNatClampNeg ((s 160 x2.toNatClampNeg) ^^^ (1 <<< (x1 &&& 31)))) 160 t0.toNatClampNeg) ^^^ (1 <<< (x1 &&& 31)))) 159 x1.toNatClampNeg t0) (x1 + (-1))
            else
              rI 1 (wr (wr (wr s 160 x2.toNatClampNeg ((s 160 x2.toNatClampNeg) ^^^ (1 <<< (x1 &&& 31)))) 160 t0.toNatClampNeg (((wr s 160 x2.toNatClampNeg ((s 160 x2.toNatClampNeg) ^^^ (1 <<< (x1 &&& 31)))) 160 t0.toNatClampNeg) ^^^ (1 <<< (x1 &&& 31)))) 159 x1.toNatClampNeg t0)))))) : mO) := (EV_un 2000 35 38 [some (pA 135), some (pI x1), some (pI x2), none] [(pI t0)] s).trans rfl
set_option maxRecDepth 100000 in
set_option maxHeartbeats 4000000 in
theorem me_firstFree_eq (s : mSt) (x1 : Int32) : me_firstFree s x1 = (
  me_firstFree_4 s x1 (-1) 0 : mO) := (EV_un 2000 38 0 [some (pA 135), some (pI x1), none, none, none] [] s).trans rfl
set_option maxRecDepth 100000 in
set_option maxHeartbeats 4000000 in
theorem me_firstFree_4_eq (s : mSt) (x1 : Int32) (x2 : Int32) (x3 : Int32) : me_firstFree_4 s x1 x2 x3 = (
  if (s 129 3) ≤ x3 then
    rI x2 s
  else
    if ((x1 >>> (x3 &&& 31)) &&& 1) = 0 then
      me_firstFree_28 s x1 x2 x3 1
    else
      me_firstFree_28 s x1 x2 x3 0 : mO) := (EV_un 2000 38 4 [some (pA 135), some (pI x1), some (pI x2), some (pI x3), none] [] s).trans rfl
set_option maxRecDepth 100000 in
set_option maxHeartbeats 4000000 in
theorem me_firstFree_28_eq (s : mSt) (x1 : Int32) (x2 : Int32) (x3 : Int32) (t0 : Int32) : me_firstFree_28 s x1 x2 x3 t0 = (
  if t0 = 0 then
    me_firstFree_4 s x1 x2 (x3 + 1)
  else
    if x2 < 0 then
      me_firstFree_4 s x1 x3 (x3 + 1)
    else
      gd (inb x3 3) (
        gd (inb x2 3) (
          if (s 165 x2.toNatClampNeg) ≤ (s 165 x3.toNatClampNeg) then
            me_firstFree_4 s x1 x2 (x3 + 1)
          else
            me_firstFree_4 s x1 x3 (x3 + 1))) : mO) := (EV_un 2000 38 28 [some (pA 135), some (pI x1), some (pI x2), some (pI x3), none] [(pI t0)] s).trans rfl
set_option maxRecDepth 100000 in
set_option maxHeartbeats 4000000 in
theorem me_soonestFor_eq (s : mSt) (x1 : Int32) : me_soonestFor s x1 = (
  me_soonestFor_8 s x1 (-1) 2147483647 0 : mO) := (EV_un 2000 39 0 [some (pA 135), some (pI x1), none, none, none, none, none, none] [] s).trans rfl
set_option maxRecDepth 100000 in
set_option maxHeartbeats 4000000 in
theorem me_soonestFor_8_eq (s : mSt) (x1 : Int32) (x2 : Int32) (x3 : Int32) (x4 : Int32) : me_soonestFor_8 s x1 x2 x3 x4 = (
  if (s 135 3) ≤ x4 then
    rI x2 s
  else
    if (((s 135 18) >>> (x4 &&& 31)) &&& 1) = 1 then
      me_soonestFor_35 s x1 x2 x3 x4 1
    else
      me_soonestFor_35 s x1 x2 x3 x4 0 : mO) := (EV_un 2000 39 8 [some (pA 135), some (pI x1), some (pI x2), some (pI x3), some (pI x4), none, none, none] [] s).trans rfl
set_option maxRecDepth 100000 in
set_option maxHeartbeats 4000000 in
theorem me_soonestFor_35_eq (s : mSt) (x1 : Int32) (x2 : Int32) (x3 : Int32) (x4 : Int32) (t0 : Int32) : me_soonestFor_35 s x1 x2 x3 x4 t0 = (
  gd (inb x4 7) (
    bI (fl_hasLeave s x1 (s 136 x4.toNatClampNeg)) fun v1 s1 =>
      if v1 = 0 then
        me_soonestFor_83 s1 x1 x2 x3 x4 t0 0
      else
        gd (inb x4 7) (
          bI (fl_reelFor s1 (s1 136 x4.toNatClampNeg)) fun v2 s2 =>
            gd (inb x1 3) (
              if (s2 164 x1.toNatClampNeg) < v2 then
                me_soonestFor_83 s2 x1 x2 x3 x4 t0 0
              else
                me_soonestFor_83 s2 x1 x2 x3 x4 t0 1))) : mO) := (EV_un 2000 39 35 [some (pA 135), some (pI x1), some (pI x2), some (pI x3), some (pI x4), none, none, none] [(pI t0)] s).trans rfl
set_option maxRecDepth 100000 in
set_option maxHeartbeats 4000000 in
theorem me_soonestFor_83_eq (s : mSt) (x1 : Int32) (x2 : Int32) (x3 : Int32) (x4 : Int32) (x5 : Int32) (t0 : Int32) : me_soonestFor_83 s x1 x2 x3 x4 x5 t0 = (
  gd (inb x4 7) (
    gd (inb x1 3) (
      gd (inb x1 3) (
        bI (fl_hoursTo s (s 136 x4.toNatClampNeg) (s 162 x1.toNatClampNeg) (s 163 x1.toNatClampNeg)) fun v1 s1 =>
          if x5 = 0 then
            me_soonestFor_8 s1 x1 x2 x3 (x4 + 1)
          else
            if t0 = 0 then
              me_soonestFor_8 s1 x1 x2 x3 (x4 + 1)
            else
              if x3 ≤ v1 then
                me_soonestFor_8 s1 x1 x2 x3 (x4 + 1)
              else
                me_soonestFor_8 s1 x1 x4 v1 (x4 + 1)))) : mO) := (EV_un 2000 39 83 [some (pA 135), some (pI x1), some (pI x2), some (pI x3), some (pI x4), some (pI x5), none, none] [(pI t0)] s).trans rfl
set_option maxRecDepth 100000 in
set_option maxHeartbeats 4000000 in
theorem me_doPlainly_eq (s : mSt) (x1 : Int32) (x2 : Int32) : me_doPlainly s x1 x2 = (
  gd (inb x1 3) (
    gd (inb x2 7) (
      gd (inb x1 3) (
        gd (inb x1 3) (
          bI (fl_hoursTo s (s 136 x2.toNatClampNeg) (s 162 x1.toNatClampNeg) (s 163 x1.toNatClampNeg)) fun v1 s1 =>
            gd (inb x1 3) (
              gd (inb x2 7) (
                gd (inb x1 3) (
                  gd (inb x1 3) (
                    gd (inb x2 7) (
                      bI (fl_reelFor (wr (wr s1 165 x1.toNatClampNeg ((s 165 x1.toNatClampNeg) + v1)) 135 19 ((s1 135 19) + ((s1 137 x2.toNatClampNeg) * (((wr s1 165 x1.toNatClampNeg ((s 165 x1.toNatClampNeg) + v1)) 165 x1.toNatClampNeg) - (s1 35 1))))) (s1 136 x2.toNatClampNeg)) fun v2 s2 =>
                        gd (inb x1 3) (
                          gd (inb x2 7) (
                            bI (fl_placeX (wr s2 164 x1.toNatClampNeg ((s1 164 x1.toNatClampNeg) - v2)) (s2 136 x2.toNatClampNeg)) fun v3 s3 =>
                              gd (inb x1 3) (
                                gd (inb x2 7) (
                                  bI (fl_placeY (wr s3 162 x1.toNatClampNeg v3) (s3 136 x2.toNatClampNeg)) fun v4 s4 =>
                                    gd (inb x1 3) (
                                      rV (wr (wr s4 163 x1.toNatClampNeg v4) 135 18 ((s4 135 18) ^^^ (1 <<< (x2 &&& 31)))))))))))))))))) : mO) := (EV_un 2000 40 0 [some (pA 135), some (pI x1), some (pI x2)] [] s).trans rfl
set_option maxRecDepth 100000 in
set_option maxHeartbeats 4000000 in
theorem br_downHours_eq (s : mSt) (x1 : Int32) (x2 : Int32) (x3 : Int32) (x4 : Int32) : br_downHours s x1 x2 x3 x4 = (
  br_downHours_9 s x1 x3 x4 0 x2 0 : mO) := (EV_un 2000 14 0 [some (pA 35), some (pI x1), some (pI x2), some (pI x3), some (pI x4), none, none, none, none, none] [] s).trans rfl
set_option maxRecDepth 100000 in
set_option maxHeartbeats 4000000 in
theorem br_downHours_9_eq (s : mSt) (x1 : Int32) (x3 : Int32) (x4 : Int32) (x5 : Int32) (x6 : Int32) (x7 : Int32) : br_downHours_9 s x1 x3 x4 x5 x6 x7 = (
  if (s 35 2) ≤ x7 then
    rI x5 s
  else
    bI (br_nextDown s x1 x6 x4) fun v1 s1 =>
      if v1 < 0 then
        rI x5 s1
      else
        gd (inb v1 8) (
          if x3 ≤ (s1 37 v1.toNatClampNeg) then
            rI x5 s1
          else
            if x6 < x3 then
              gd (inb v1 8) (
                gd (inb v1 8) (
                  br_downHours_9 s1 x1 x3 x4 (x5 + ((jMin (s1 41 v1.toNatClampNeg) x3) - (jMax (s1 37 v1.toNatClampNeg) x6))) (jMin (s1 41 v1.toNatClampNeg) x3) (x7 + 1)))
            else
              rI x5 s1) : mO) := (EV_un 2000 14 9 [some (pA 35), some (pI x1), none, some (pI x3), some (pI x4), some (pI x5), some (pI x6), some (pI x7), none, none] [] s).trans rfl
set_option maxRecDepth 100000 in
set_option maxHeartbeats 4000000 in
theorem sa_isSafe_eq (s : mSt) (x1 : Int32) (x2 : Int32) : sa_isSafe s x1 x2 = (
  bV (sa_gatherTies s x1) fun s1 =>
    bI (ig_numberOfTrailingZeros s1 x2) fun v2 s2 =>
      sa_isSafe_15 s2 x2 v2 (v2 + 1) : mO) := (EV_un 2000 73 0 [some (pA 170), some (pI x1), some (pI x2), none, none] [] s).trans rfl
set_option maxRecDepth 100000 in
set_option maxHeartbeats 4000000 in
theorem sa_isSafe_15_eq (s : mSt) (x2 : Int32) (x3 : Int32) (x4 : Int32) : sa_isSafe_15 s x2 x3 x4 = (
  if (s 25 2) ≤ x4 then
    rI 1 s
  else
    if ((x2 >>> (x4 &&& 31)) &&& 1) = 1 then
      bI (sa_areJoinedWell s x3 x4) fun v1 s1 =>
        if v1 = 0 then
          rI 0 s1
        else
          sa_isSafe_15 s1 x2 x3 (x4 + 1)
    else
      sa_isSafe_15 s x2 x3 (x4 + 1) : mO) := (EV_un 2000 73 15 [some (pA 170), none, some (pI x2), some (pI x3), some (pI x4)] [] s).trans rfl
set_option maxRecDepth 100000 in
set_option maxHeartbeats 4000000 in
theorem sa_coinsOf_eq (s : mSt) (x1 : Int32) : sa_coinsOf s x1 = (
  sa_coinsOf_4 s x1 0 0 : mO) := (EV_un 2000 72 0 [some (pA 170), some (pI x1), none, none] [] s).trans rfl
set_option maxRecDepth 100000 in
set_option maxHeartbeats 4000000 in
theorem sa_coinsOf_4_eq (s : mSt) (x1 : Int32) (x2 : Int32) (x3 : Int32) : sa_coinsOf_4 s x1 x2 x3 = (
  if (s 166 3) ≤ x3 then
    rI x2 s
  else
    gd (inb x3 8) (
      sa_coinsOf_4 s x1 (x2 + (((x1 >>> (x3 &&& 31)) &&& 1) * (s 169 x3.toNatClampNeg))) (x3 + 1)) : mO) := (EV_un 2000 72 4 [some (pA 170), some (pI x1), some (pI x2), some (pI x3)] [] s).trans rfl
set_option maxRecDepth 100000 in
set_option maxHeartbeats 4000000 in
theorem sa_isBetter_eq (s : mSt) (x1 : Int32) (x2 : Int32) : sa_isBetter s x1 x2 = (
  if x2 = (s 170 7) then
    bI (ig_bitCount s x1) fun v1 s1 =>
      bI (ig_bitCount s1 (s1 170 8)) fun v2 s2 =>
        if v2 ≤ v1 then
          rI 0 s2
        else
          rI 1 s2
  else
    if (s 170 7) ≤ x2 then
      rI 0 s
    else
      rI 1 s : mO) := (EV_un 2000 71 0 [some (pA 170), some (pI x1), some (pI x2)] [] s).trans rfl
set_option maxRecDepth 100000 in
set_option maxHeartbeats 4000000 in
theorem rd_nextNumber_eq (s : mSt) : rd_nextNumber s = (
  rd_nextNumber_10 (wr (wr s 12 6 2) 12 8 0) : mO) := (EV_un 2000 64 0 [some (pA 12)] [] s).trans rfl
set_option maxRecDepth 100000 in
set_option maxHeartbeats 4000000 in
theorem rd_nextNumber_10_eq (s : mSt) : rd_nextNumber_10 s = (
  if (s 12 2) ≤ (s 12 5) then
    rd_nextNumber_77 s
  else
    gd (inb (s 12 5) 240) (
      bI (LL_isWithin s (s 13 ((s 12 5)).toNatClampNeg) 48 57) fun v1 s1 =>
        if v1 = 0 then
          rd_nextNumber_77 s1
        else
          gd (inb (s1 12 5) 240) (
            rd_nextNumber_10 (wr (wr s1 12 8 ((((s1 12 8) * 10) + (s1 13 ((s1 12 5)).toNatClampNeg)) - 48)) 12 5 ((s1 12 5) + 1)))) : mO) := (EV_un 2000 64 10 [some (pA 12)] [] s).trans rfl
set_option maxRecDepth 100000 in
set_option maxHeartbeats 4000000 in
theorem rd_nextNumber_77_eq (s : mSt) : rd_nextNumber_77 s = (
  bI (LL_isWithin s ((s 12 5) - (s 12 7)) 1 3) fun v1 s1 =>
    if v1 = 0 then
      bI (rd_fail s1 1) fun v2 s2 =>
        if v2 = 0 then
          rI 0 s2
        else
          rI 1 s2
    else
      rI 1 s1 : mO) := (EV_un 2000 64 77 [some (pA 12)] [] s).trans rfl
set_option maxRecDepth 100000 in
set_option maxHeartbeats 4000000 in
theorem rd_isWord_240_eq (s : mSt) : rd_isWord_240 s = (
  bI (sg_length_240 s) fun v1 s1 =>
    if ((s 12 5) - (s 12 7)) = v1 then
      rd_isWord_240_20 s1 0
    else
      rI 0 s1 : mO) := (EV_un 2000 65 0 [some (pA 12), some (pA 240), none] [] s).trans rfl
set_option maxRecDepth 100000 in
set_option maxHeartbeats 4000000 in
theorem rd_isWord_240_20_eq (s : mSt) (x2 : Int32) : rd_isWord_240_20 s x2 = (
  bI (sg_length_240 s) fun v1 s1 =>
    if v1 ≤ x2 then
      rI 1 s1
    else
      gd (inb ((s1 12 7) + x2) 240) (
        bI (sg_charAt_240 s1 x2) fun v2 s2 =>
          if (s1 13 (((s1 12 7) + x2)).toNatClampNeg) = v2 then
            rd_isWord_240_20 s2 (x2 + 1)
          else
            rI 0 s2) : mO) := (EV_un 2000 65 20 [some (pA 12), some (pA 240), some (pI x2)] [] s).trans rfl
set_option maxRecDepth 100000 in
set_option maxHeartbeats 4000000 in
theorem rd_readRent_eq (s : mSt) : rd_readRent s = (
  if (s 14 2) < 8 then
    gd (inb (s 14 2) 8) (
      bI (rd_readHouse_r16 s ((s 14 2)).toNatClampNeg) fun v1 s1 =>
        if v1 = 0 then
          rd_readRent_147 s1 0
        else
          bI (rd_readNumber_r16 s1 ((s 14 2)).toNatClampNeg 1 0 11) fun v2 s2 =>
            if v2 = 0 then
              rd_readRent_147 s2 0
            else
              bI (rd_readNumber_r16 s2 ((s 14 2)).toNatClampNeg 2 1 8) fun v3 s3 =>
                if v3 = 0 then
                  rd_readRent_147 s3 0
                else
                  bI (rd_readWord_241 s3) fun v4 s4 =>
                    if v4 = 0 then
                      rd_readRent_147 s4 0
                    else
                      bI (rd_readNumber_r16 s4 ((s 14 2)).toNatClampNeg 3 0 998) fun v5 s5 =>
                        if v5 = 0 then
                          rd_readRent_147 s5 0
                        else
                          bI (rd_readWord_242 s5) fun v6 s6 =>
                            if v6 = 0 then
                              rd_readRent_147 s6 0
                            else
                              gd (Nat.blt ((s 14 2)).toNatClampNeg 8) (gd (inb 3 6) (
                                bI (rd_readNumber_r16 s6 ((s 14 2)).toNatClampNeg 4 ((s6 (17 + ((s 14 2)).toNatClampNeg) 3) + 1) 999) fun v7 s7 =>
                                  if v7 = 0 then
                                    rd_readRent_147 s7 0
                                  else
                                    bI (rd_readWord_243 s7) fun v8 s8 =>
                                      if v8 = 0 then
                                        rd_readRent_147 s8 0
                                      else
                                        bI (rd_readNumber_r16 s8 ((s 14 2)).toNatClampNeg 5 0 99) fun v9 s9 =>
                                          if v9 = 0 then
                                            rd_readRent_147 s9 0
                                          else
                                            bI (rd_readStop s9) fun v10 s10 =>
                                              if v10 = 0 then
                                                rd_readRent_147 s10 0
                                              else
                                                rd_readRent_147 s10 1)))
  else
    bI (rd_fail s 5) fun v11 s11 =>
      gd (bz v11) (rI v11 s11) : mO) := (EV_un 2000 57 0 [some (pA 12), none, none] [] s).trans rfl
set_option maxRecDepth 100000 in
set_option maxHeartbeats 4000000 in
theorem rd_readRent_147_eq (s : mSt) (t0 : Int32) : rd_readRent_147 s t0 = (
  if t0 = 0 then
    gd (bz t0) (rI t0 s)
  else
    gd (bz t0) (rI t0 (wr s 14 2 ((s 14 2) + 1))) : mO) := (EV_un 2000 57 147 [some (pA 12), none, none] [(pI t0)] s).trans rfl
set_option maxRecDepth 100000 in
set_option maxHeartbeats 4000000 in
theorem rd_ruleNamed_eq (s : mSt) : rd_ruleNamed s = (
  rd_ruleNamed_2 s 0 : mO) := (EV_un 2000 66 0 [some (pA 12), none] [] s).trans rfl
set_option maxRecDepth 100000 in
set_option maxHeartbeats 4000000 in
theorem rd_ruleNamed_2_eq (s : mSt) (x1 : Int32) : rd_ruleNamed_2 s x1 = (
  if (8 : Int32) ≤ x1 then
    rI 8 s
  else
    bA (rd_nameOf s x1) fun v1 s1 =>
      bI (EV 65 0 [some (pA 12), some (pA v1), none] [] s1) fun v2 s2 =>
        if v2 = 0 then
          rd_ruleNamed_2 s2 (x1 + 1)
        else
          rI x1 s2 : mO) := (EV_un 2000 66 2 [some (pA 12), some (pI x1)] [] s).trans rfl
set_option maxRecDepth 100000 in
set_option maxHeartbeats 4000000 in
theorem rd_readNumber_15_eq (s : mSt) (x2 : Int32) (x3 : Int32) (x4 : Int32) : rd_readNumber_15 s x2 x3 x4 = (
  bI (rd_nextToken s) fun v1 s1 =>
    if v1 = 0 then
      rI 0 s1
    else
      if (s1 12 6) = 2 then
        bI (LL_isWithin s1 (s1 12 8) x3 x4) fun v2 s2 =>
          if v2 = 0 then
            bI (rd_fail s2 3) fun v3 s3 =>
              gd (bz v3) (rI v3 s3)
          else
            gd (inb x2 8) (
              rI 1 (wr s2 15 x2.toNatClampNeg (s2 12 8)))
      else
        bI (rd_fail s1 2) fun v4 s4 =>
          gd (bz v4) (rI v4 s4) : mO) := (EV_un 2000 61 0 [some (pA 12), some (pA 15), some (pI x2), some (pI x3), some (pI x4)] [] s).trans rfl
set_option maxRecDepth 100000 in
set_option maxHeartbeats 4000000 in
theorem rd_readStop_eq (s : mSt) : rd_readStop s = (
  bI (rd_nextToken s) fun v1 s1 =>
    if v1 = 0 then
      rI 0 s1
    else
      if (s1 12 6) = 3 then
        rI 1 s1
      else
        bI (rd_fail s1 2) fun v2 s2 =>
          if v2 = 0 then
            rI 0 s2
          else
            rI 1 s2 : mO) := (EV_un 2000 60 0 [some (pA 12)] [] s).trans rfl
set_option maxRecDepth 100000 in
set_option maxHeartbeats 4000000 in
theorem rd_fail_eq (s : mSt) (x1 : Int32) : rd_fail s x1 = (
  rI 0 (wr (wr s 12 3 x1) 12 4 (s 12 7)) : mO) := (EV_un 2000 62 0 [some (pA 12), some (pI x1)] [] s).trans rfl
set_option maxRecDepth 100000 in
set_option maxHeartbeats 4000000 in
theorem tr_measureTo_eq (s : mSt) (x1 : Int32) : tr_measureTo s x1 = (
  bV (ay_fill_51 s 268435456) fun s1 =>
    gd (inb x1 8) (
      tr_measureTo_20 (wr s1 51 x1.toNatClampNeg 0) 1 0) : mO) := (EV_un 2000 93 0 [some (pA 47), some (pI x1), none, none, none, none, none] [] s).trans rfl
set_option maxRecDepth 100000 in
set_option maxHeartbeats 4000000 in
theorem tr_measureTo_20_eq (s : mSt) (x2 : Int32) (x3 : Int32) : tr_measureTo_20 s x2 x3 = (
  if x2 = 0 then
    rV s
  else
    if (8 : Int32) ≤ x3 then
      rV s
    else
      tr_measureTo_35 s 0 x3 0 : mO) := (EV_un 2000 93 20 [some (pA 47), none, some (pI x2), some (pI x3), none, none, none] [] s).trans rfl
set_option maxRecDepth 100000 in
set_option maxHeartbeats 4000000 in
theorem tr_measureTo_35_eq (s : mSt) (x2 : Int32) (x3 : Int32) (x4 : Int32) : tr_measureTo_35 s x2 x3 x4 = (
  if (s 25 5) ≤ x4 then
    tr_measureTo_20 s x2 (x3 + 1)
  else
    gd (inb x4 12) (
      if (s 50 x4.toNatClampNeg) = 0 then
        tr_measureTo_35 s x2 x3 (x4 + 1)
      else
        gd (inb x4 12) (
          gd (inb x4 12) (
            gd (inb (s 28 x4.toNatClampNeg) 8) (
              gd (inb x4 12) (
                gd (inb (s 29 x4.toNatClampNeg) 8) (
                  if (s 51 ((s 29 x4.toNatClampNeg)).toNatClampNeg) ≤ ((s 51 ((s 28 x4.toNatClampNeg)).toNatClampNeg) + (s 50 x4.toNatClampNeg)) then
                    gd (inb (s 29 x4.toNatClampNeg) 8) (
                      gd (inb x4 12) (
                        gd (inb (s 28 x4.toNatClampNeg) 8) (
                          if (s 51 ((s 28 x4.toNatClampNeg)).toNatClampNeg) ≤ ((s 51 ((s 29 x4.toNatClampNeg)).toNatClampNeg) + (s 50 x4.toNatClampNeg)) then
                            tr_measureTo_35 s x2 x3 (x4 + 1)
                          else
                            gd (inb (s 29 x4.toNatClampNeg) 8) (
                              gd (inb x4 12) (
                                gd (inb (s 28 x4.toNatClampNeg) 8) (
                                  tr_measureTo_35 (wr s 51 ((s 28 x4.toNatClampNeg)).toNatClampNeg ((s 51 ((s 29 x4.toNatClampNeg)).toNatClampNeg) + (s 50 x4.toNatClampNeg))) 1 x3 (x4 + 1)))))))
                  else
                    gd (inb (s 28 x4.toNatClampNeg) 8) (
                      gd (inb x4 12) (
                        gd (inb (s 29 x4.toNatClampNeg) 8) (
                          tr_measureTo_35 (wr s 51 ((s 29 x4.toNatClampNeg)).toNatClampNeg ((s 51 ((s 28 x4.toNatClampNeg)).toNatClampNeg) + (s 50 x4.toNatClampNeg))) 1 x3 (x4 + 1)))))))))) : mO) := (EV_un 2000 93 35 [some (pA 47), none, some (pI x2), some (pI x3), some (pI x4), none, none] [] s).trans rfl
set_option maxRecDepth 100000 in
set_option maxHeartbeats 4000000 in
theorem tr_follow_eq (s : mSt) (x1 : Int32) : tr_follow s x1 = (
  gd (inb x1 12) (
    gd (inb x1 12) (
      gd (inb (s 44 x1.toNatClampNeg) 8) (
        if (s 51 ((s 44 x1.toNatClampNeg)).toNatClampNeg) < 268435456 then
          tr_follow_31 (wr s 66 x1.toNatClampNeg 0) x1 (s 44 x1.toNatClampNeg) 0
        else
          rV (wr s 66 x1.toNatClampNeg 0)))) : mO) := (EV_un 2000 94 0 [some (pA 47), some (pI x1), none, none, none] [] s).trans rfl
set_option maxRecDepth 100000 in
set_option maxHeartbeats 4000000 in
theorem tr_follow_31_eq (s : mSt) (x1 : Int32) (x2 : Int32) (x3 : Int32) : tr_follow_31 s x1 x2 x3 = (
  if (7 : Int32) ≤ x3 then
    rV s
  else
    gd (inb x1 12) (
      if x2 = (s 45 x1.toNatClampNeg) then
        rV s
      else
        bI (tr_leastStep s x2) fun v1 s1 =>
          if v1 = (-1) then
            rV s1
          else
            gd (inb x1 12) (
              gd (Nat.blt x1.toNatClampNeg 12) (gd (inb x3 7) (
                gd (inb x1 12) (
                  bI (ne_otherEnd (wr (wr s1 (54 + x1.toNatClampNeg) x3.toNatClampNeg v1) 66 x1.toNatClampNeg (x3 + 1)) v1 x2) fun v2 s2 =>
                    tr_follow_31 s2 x1 v2 (x3 + 1)))))) : mO) := (EV_un 2000 94 31 [some (pA 47), some (pI x1), some (pI x2), some (pI x3), none] [] s).trans rfl
set_option maxRecDepth 100000 in
set_option maxHeartbeats 4000000 in
theorem br_gap_eq (s : mSt) (x0 : Int32) (x1 : Int32) (x2 : Int32) : br_gap s x0 x1 x2 = (
  rI (jMax 0 (jMax ((jMin x0 x1) - x2) (x2 - (jMax x0 x1)))) s : mO) := (EV_un 2000 12 0 [some (pI x0), some (pI x1), some (pI x2)] [] s).trans rfl
set_option maxRecDepth 100000 in
set_option maxHeartbeats 4000000 in
theorem br_nextDown_eq (s : mSt) (x1 : Int32) (x2 : Int32) (x3 : Int32) : br_nextDown s x1 x2 x3 = (
  br_nextDown_6 s x1 x2 x3 (-1) 0 : mO) := (EV_un 2000 15 0 [some (pA 35), some (pI x1), some (pI x2), some (pI x3), none, none, none] [] s).trans rfl
set_option maxRecDepth 100000 in
set_option maxHeartbeats 4000000 in
theorem br_nextDown_6_eq (s : mSt) (x1 : Int32) (x2 : Int32) (x3 : Int32) (x4 : Int32) (x5 : Int32) : br_nextDown_6 s x1 x2 x3 x4 x5 = (
  if (s 35 2) ≤ x5 then
    rI x4 s
  else
    gd (inb x5 8) (
      if (s 36 x5.toNatClampNeg) = x1 then
        gd (inb x5 8) (
          if x3 < (s 38 x5.toNatClampNeg) then
            br_nextDown_53 s x1 x2 x3 x4 x5 0
          else
            gd (inb x5 8) (
              if (s 41 x5.toNatClampNeg) ≤ x2 then
                br_nextDown_53 s x1 x2 x3 x4 x5 0
              else
                br_nextDown_53 s x1 x2 x3 x4 x5 1))
      else
        br_nextDown_53 s x1 x2 x3 x4 x5 0) : mO) := (EV_un 2000 15 6 [some (pA 35), some (pI x1), some (pI x2), some (pI x3), some (pI x4), some (pI x5), none] [] s).trans rfl
set_option maxRecDepth 100000 in
set_option maxHeartbeats 4000000 in
theorem br_nextDown_53_eq (s : mSt) (x1 : Int32) (x2 : Int32) (x3 : Int32) (x4 : Int32) (x5 : Int32) (t0 : Int32) : br_nextDown_53 s x1 x2 x3 x4 x5 t0 = (
  if t0 = 0 then
    br_nextDown_6 s x1 x2 x3 x4 (x5 + 1)
  else
    if x4 < 0 then
      br_nextDown_6 s x1 x2 x3 x5 (x5 + 1)
    else
      gd (inb x5 8) (
        gd (inb x4 8) (
          if (s 37 x4.toNatClampNeg) ≤ (s 37 x5.toNatClampNeg) then
            br_nextDown_6 s x1 x2 x3 x4 (x5 + 1)
          else
            br_nextDown_6 s x1 x2 x3 x5 (x5 + 1))) : mO) := (EV_un 2000 15 53 [some (pA 35), some (pI x1), some (pI x2), some (pI x3), some (pI x4), some (pI x5), none] [(pI t0)] s).trans rfl
set_option maxRecDepth 100000 in
set_option maxHeartbeats 4000000 in
theorem sa_gatherTies_eq (s : mSt) (x1 : Int32) : sa_gatherTies s x1 = (
  sa_gatherTies_7 (wr s 170 2 0) x1 0 : mO) := (EV_un 2000 74 0 [some (pA 170), some (pI x1), none] [] s).trans rfl
set_option maxRecDepth 100000 in
set_option maxHeartbeats 4000000 in
theorem sa_gatherTies_7_eq (s : mSt) (x1 : Int32) (x2 : Int32) : sa_gatherTies_7 s x1 x2 = (
  if (s 25 5) ≤ x2 then
    sa_gatherTies_48 s x1 0
  else
    gd (inb x2 12) (
      gd (inb x2 12) (
        bV (sa_addTie s (s 28 x2.toNatClampNeg) (s 29 x2.toNatClampNeg)) fun s1 =>
          sa_gatherTies_7 s1 x1 (x2 + 1))) : mO) := (EV_un 2000 74 7 [some (pA 170), some (pI x1), some (pI x2)] [] s).trans rfl
set_option maxRecDepth 100000 in
set_option maxHeartbeats 4000000 in
theorem sa_gatherTies_48_eq (s : mSt) (x1 : Int32) (x2 : Int32) : sa_gatherTies_48 s x1 x2 = (
  if (s 166 3) ≤ x2 then
    rV s
  else
    if ((x1 >>> (x2 &&& 31)) &&& 1) = 1 then
      gd (inb x2 8) (
        gd (inb x2 8) (
          bV (sa_addTie s (s 167 x2.toNatClampNeg) (s 168 x2.toNatClampNeg)) fun s1 =>
            sa_gatherTies_48 s1 x1 (x2 + 1)))
    else
      sa_gatherTies_48 s x1 (x2 + 1) : mO) := (EV_un 2000 74 48 [some (pA 170), some (pI x1), some (pI x2)] [] s).trans rfl
set_option maxRecDepth 100000 in
set_option maxHeartbeats 4000000 in
theorem sa_areJoinedWell_eq (s : mSt) (x1 : Int32) (x2 : Int32) : sa_areJoinedWell s x1 x2 = (
  bV (ay_fill_173 s 0) fun s1 =>
    sa_areJoinedWell_10 s1 x1 x2 0 : mO) := (EV_un 2000 76 0 [some (pA 170), some (pI x1), some (pI x2), none] [] s).trans rfl
set_option maxRecDepth 100000 in
set_option maxHeartbeats 4000000 in
theorem sa_areJoinedWell_10_eq (s : mSt) (x1 : Int32) (x2 : Int32) (x3 : Int32) : sa_areJoinedWell_10 s x1 x2 x3 = (
  if (3 : Int32) ≤ x3 then
    rI 1 s
  else
    bI (sa_spread s x1 x2) fun v1 s1 =>
      if v1 = 0 then
        rI 0 s1
      else
        bV (sa_giveBack s1 x1 x2) fun s2 =>
          sa_areJoinedWell_10 s2 x1 x2 (x3 + 1) : mO) := (EV_un 2000 76 10 [some (pA 170), some (pI x1), some (pI x2), some (pI x3)] [] s).trans rfl
set_option maxRecDepth 100000 in
set_option maxHeartbeats 4000000 in
theorem rd_readHouse_r16_eq (s : mSt) (r1 : Nat) : rd_readHouse_r16 s r1 = (
  bI (rd_nextToken s) fun v1 s1 =>
    if v1 = 0 then
      rI 0 s1
    else
      if (s1 12 6) = 1 then
        if ((s1 12 5) - (s1 12 7)) = 1 then
          gd (inb (s1 12 7) 240) (
            rd_readHouse_r16_47 s1 r1 ((s1 13 ((s1 12 7)).toNatClampNeg) - 97))
        else
          rd_readHouse_r16_47 s1 r1 6
      else
        rd_readHouse_r16_47 s1 r1 6 : mO) := (EV_un 2000 58 0 [some (pA 12), some (.inr (16, r1)), none] [] s).trans rfl
set_option maxRecDepth 100000 in
set_option maxHeartbeats 4000000 in
theorem rd_readHouse_r16_47_eq (s : mSt) (r1 : Nat) (t0 : Int32) : rd_readHouse_r16_47 s r1 t0 = (
  if t0 < 6 then
    gd (Nat.blt r1 8) (gd (inb 0 6) (
      rI 1 (wr s (17 + r1) 0 t0)))
  else
    bI (rd_fail s 2) fun v1 s1 =>
      gd (bz v1) (rI v1 s1) : mO) := (EV_un 2000 58 47 [some (pA 12), some (.inr (16, r1)), none] [(pI t0)] s).trans rfl
set_option maxRecDepth 100000 in
set_option maxHeartbeats 4000000 in
theorem rd_readNumber_r16_eq (s : mSt) (r1 : Nat) (x2 : Int32) (x3 : Int32) (x4 : Int32) : rd_readNumber_r16 s r1 x2 x3 x4 = (
  bI (rd_nextToken s) fun v1 s1 =>
    if v1 = 0 then
      rI 0 s1
    else
      if (s1 12 6) = 2 then
        bI (LL_isWithin s1 (s1 12 8) x3 x4) fun v2 s2 =>
          if v2 = 0 then
            bI (rd_fail s2 3) fun v3 s3 =>
              gd (bz v3) (rI v3 s3)
          else
            gd (Nat.blt r1 8) (gd (inb x2 6) (
              rI 1 (wr s2 (17 + r1) x2.toNatClampNeg (s2 12 8))))
      else
        bI (rd_fail s1 2) fun v4 s4 =>
          gd (bz v4) (rI v4 s4) : mO) := (EV_un 2000 61 0 [some (pA 12), some (.inr (16, r1)), some (pI x2), some (pI x3), some (pI x4)] [] s).trans rfl
set_option maxRecDepth 100000 in
set_option maxHeartbeats 4000000 in
theorem rd_readWord_241_eq (s : mSt) : rd_readWord_241 s = (
  bI (rd_nextToken s) fun v1 s1 =>
    if v1 = 0 then
      rI 0 s1
    else
      if (s1 12 6) = 1 then
        bI (rd_isWord_241 s1) fun v2 s2 =>
          if v2 = 0 then
            rd_readWord_241_25 s2
          else
            rI 1 s2
      else
        rd_readWord_241_25 s1 : mO) := (EV_un 2000 59 0 [some (pA 12), some (pA 241)] [] s).trans rfl
set_option maxRecDepth 100000 in
set_option maxHeartbeats 4000000 in
theorem rd_readWord_241_25_eq (s : mSt) : rd_readWord_241_25 s = (
  bI (rd_fail s 2) fun v1 s1 =>
    if v1 = 0 then
      rI 0 s1
    else
      rI 1 s1 : mO) := (EV_un 2000 59 25 [some (pA 12), none] [] s).trans rfl
set_option maxRecDepth 100000 in
set_option maxHeartbeats 4000000 in
theorem rd_readWord_242_eq (s : mSt) : rd_readWord_242 s = (
  bI (rd_nextToken s) fun v1 s1 =>
    if v1 = 0 then
      rI 0 s1
    else
      if (s1 12 6) = 1 then
        bI (rd_isWord_242 s1) fun v2 s2 =>
          if v2 = 0 then
            rd_readWord_242_25 s2
          else
            rI 1 s2
      else
        rd_readWord_242_25 s1 : mO) := (EV_un 2000 59 0 [some (pA 12), some (pA 242)] [] s).trans rfl
set_option maxRecDepth 100000 in
set_option maxHeartbeats 4000000 in
theorem rd_readWord_242_25_eq (s : mSt) : rd_readWord_242_25 s = (
  bI (rd_fail s 2) fun v1 s1 =>
    if v1 = 0 then
      rI 0 s1
    else
      rI 1 s1 : mO) := (EV_un 2000 59 25 [some (pA 12), none] [] s).trans rfl
set_option maxRecDepth 100000 in
set_option maxHeartbeats 4000000 in
theorem rd_readWord_243_eq (s : mSt) : rd_readWord_243 s = (
  bI (rd_nextToken s) fun v1 s1 =>
    if v1 = 0 then
      rI 0 s1
    else
      if (s1 12 6) = 1 then
        bI (rd_isWord_243 s1) fun v2 s2 =>
          if v2 = 0 then
            rd_readWord_243_25 s2
          else
            rI 1 s2
      else
        rd_readWord_243_25 s1 : mO) := (EV_un 2000 59 0 [some (pA 12), some (pA 243)] [] s).trans rfl
set_option maxRecDepth 100000 in
set_option maxHeartbeats 4000000 in
theorem rd_readWord_243_25_eq (s : mSt) : rd_readWord_243_25 s = (
  bI (rd_fail s 2) fun v1 s1 =>
    if v1 = 0 then
      rI 0 s1
    else
      rI 1 s1 : mO) := (EV_un 2000 59 25 [some (pA 12), none] [] s).trans rfl
set_option maxRecDepth 100000 in
set_option maxHeartbeats 4000000 in
theorem rd_nameOf_eq (s : mSt) (x0 : Int32) : rd_nameOf s x0 = (
  if x0 = 0 then
    rA 244 s
  else
  if x0 = 1 then
    rA 245 s
  else
  if x0 = 2 then
    rA 246 s
  else
  if x0 = 3 then
    rA 247 s
  else
  if x0 = 4 then
    rA 248 s
  else
  if x0 = 5 then
    rA 249 s
  else
  if x0 = 6 then
    rA 250 s
  else
    rA 251 s : mO) := (EV_un 2000 67 0 [some (pI x0)] [] s).trans rfl
set_option maxRecDepth 100000 in
set_option maxHeartbeats 4000000 in
theorem tr_leastStep_eq (s : mSt) (x1 : Int32) : tr_leastStep s x1 = (
  tr_leastStep_2 s x1 0 : mO) := (EV_un 2000 95 0 [some (pA 47), some (pI x1), none, none] [] s).trans rfl
set_option maxRecDepth 100000 in
set_option maxHeartbeats 4000000 in
theorem tr_leastStep_2_eq (s : mSt) (x1 : Int32) (x2 : Int32) : tr_leastStep_2 s x1 x2 = (
  if (s 25 5) ≤ x2 then
    rI (-1) s
  else
    gd (inb x2 12) (
      if (s 50 x2.toNatClampNeg) = 0 then
        tr_leastStep_35 s x1 x2 (-1)
      else
        bI (ne_otherEnd s x2 x1) fun v1 s1 =>
          tr_leastStep_35 s1 x1 x2 v1) : mO) := (EV_un 2000 95 2 [some (pA 47), some (pI x1), some (pI x2), none] [] s).trans rfl
set_option maxRecDepth 100000 in
set_option maxHeartbeats 4000000 in
theorem tr_leastStep_35_eq (s : mSt) (x1 : Int32) (x2 : Int32) (t0 : Int32) : tr_leastStep_35 s x1 x2 t0 = (
  if t0 < 0 then
    tr_leastStep_2 s x1 (x2 + 1)
  else
    gd (inb t0 8) (
      gd (inb x2 12) (
        gd (inb x1 8) (
          if ((s 51 t0.toNatClampNeg) + (s 50 x2.toNatClampNeg)) = (s 51 x1.toNatClampNeg) then
            rI x2 s
          else
            tr_leastStep_2 s x1 (x2 + 1)))) : mO) := (EV_un 2000 95 35 [some (pA 47), some (pI x1), some (pI x2), none] [(pI t0)] s).trans rfl
set_option maxRecDepth 100000 in
set_option maxHeartbeats 4000000 in
theorem ne_otherEnd_eq (s : mSt) (x1 : Int32) (x2 : Int32) : ne_otherEnd s x1 x2 = (
  gd (inb x1 12) (
    if (s 28 x1.toNatClampNeg) = x2 then
      gd (inb x1 12) (
        rI (s 29 x1.toNatClampNeg) s)
    else
      gd (inb x1 12) (
        if (s 29 x1.toNatClampNeg) = x2 then
          gd (inb x1 12) (
            rI (s 28 x1.toNatClampNeg) s)
        else
          rI (-1) s)) : mO) := (EV_un 2000 49 0 [some (pA 25), some (pI x1), some (pI x2)] [] s).trans rfl
set_option maxRecDepth 100000 in
set_option maxHeartbeats 4000000 in
theorem sa_addTie_eq (s : mSt) (x1 : Int32) (x2 : Int32) : sa_addTie s x1 x2 = (
  if (20 : Int32) ≤ (s 170 2) then
    rV s
  else
    gd (inb (s 170 2) 20) (
      gd (inb (s 170 2) 20) (
        rV (wr (wr (wr s 171 ((s 170 2)).toNatClampNeg x1) 172 ((s 170 2)).toNatClampNeg x2) 170 2 ((s 170 2) + 1)))) : mO) := (EV_un 2000 75 0 [some (pA 170), some (pI x1), some (pI x2)] [] s).trans rfl
set_option maxRecDepth 100000 in
set_option maxHeartbeats 4000000 in
theorem sa_spread_eq (s : mSt) (x1 : Int32) (x2 : Int32) : sa_spread s x1 x2 = (
  sa_spread_10 s x2 (1 <<< (x1 &&& 31)) 1 0 : mO) := (EV_un 2000 77 0 [some (pA 170), some (pI x1), some (pI x2), none, none, none, none, none, none] [] s).trans rfl
set_option maxRecDepth 100000 in
set_option maxHeartbeats 4000000 in
theorem sa_spread_10_eq (s : mSt) (x2 : Int32) (x3 : Int32) (x4 : Int32) (x5 : Int32) : sa_spread_10 s x2 x3 x4 x5 = (
  if x4 = 0 then
    sa_spread_196 s x2 x3
  else
    if (8 : Int32) ≤ x5 then
      sa_spread_196 s x2 x3
    else
      sa_spread_28 s x2 x3 0 x5 0 : mO) := (EV_un 2000 77 10 [some (pA 170), none, some (pI x2), some (pI x3), some (pI x4), some (pI x5), none, none, none] [] s).trans rfl
set_option maxRecDepth 100000 in
set_option maxHeartbeats 4000000 in
theorem sa_spread_196_eq (s : mSt) (x2 : Int32) (x3 : Int32) : sa_spread_196 s x2 x3 = (
  if ((x3 >>> (x2 &&& 31)) &&& 1) = 1 then
    rI 1 s
  else
    rI 0 s : mO) := (EV_un 2000 77 196 [none, none, some (pI x2), some (pI x3), none, none, none, none, none] [] s).trans rfl
set_option maxRecDepth 100000 in
set_option maxHeartbeats 4000000 in
theorem sa_spread_28_eq (s : mSt) (x2 : Int32) (x3 : Int32) (x4 : Int32) (x5 : Int32) (x6 : Int32) : sa_spread_28 s x2 x3 x4 x5 x6 = (
  if (s 170 2) ≤ x6 then
    sa_spread_10 s x2 x3 x4 (x5 + 1)
  else
    gd (inb x6 20) (
      if ((x3 >>> ((s 171 x6.toNatClampNeg) &&& 31)) &&& 1) = 1 then
        sa_spread_57 s x2 x3 x4 x5 x6 1
      else
        sa_spread_57 s x2 x3 x4 x5 x6 0) : mO) := (EV_un 2000 77 28 [some (pA 170), none, some (pI x2), some (pI x3), some (pI x4), some (pI x5), some (pI x6), none, none] [] s).trans rfl
set_option maxRecDepth 100000 in
set_option maxHeartbeats 4000000 in
theorem sa_spread_57_eq (s : mSt) (x2 : Int32) (x3 : Int32) (x4 : Int32) (x5 : Int32) (x6 : Int32) (t0 : Int32) : sa_spread_57 s x2 x3 x4 x5 x6 t0 = (
  gd (inb x6 20) (
    if ((x3 >>> ((s 172 x6.toNatClampNeg) &&& 31)) &&& 1) = 1 then
      sa_spread_79 s x2 x3 x4 x5 x6 t0 1
    else
      sa_spread_79 s x2 x3 x4 x5 x6 t0 0) : mO) := (EV_un 2000 77 57 [some (pA 170), none, some (pI x2), some (pI x3), some (pI x4), some (pI x5), some (pI x6), none, none] [(pI t0)] s).trans rfl
set_option maxRecDepth 100000 in
set_option maxHeartbeats 4000000 in
theorem sa_spread_79_eq (s : mSt) (x2 : Int32) (x3 : Int32) (x4 : Int32) (x5 : Int32) (x6 : Int32) (x7 : Int32) (t0 : Int32) : sa_spread_79 s x2 x3 x4 x5 x6 x7 t0 = (
  if x7 = 0 then
    sa_spread_134 s x2 x3 x4 x5 x6 x7 t0
  else
    if t0 = 0 then
      gd (inb x6 20) (
        if (s 173 x6.toNatClampNeg) = 1 then
          sa_spread_134 s x2 x3 x4 x5 x6 x7 t0
        else
          gd (inb x6 20) (
            gd (inb (s 172 x6.toNatClampNeg) 8) (
              gd (inb x6 20) (
                sa_spread_28 (wr s 174 ((s 172 x6.toNatClampNeg)).toNatClampNeg x6) x2 (x3 ||| (1 <<< ((s 172 x6.toNatClampNeg) &&& 31))) 1 x5 (x6 + 1)))))
    else
      sa_spread_134 s x2 x3 x4 x5 x6 x7 t0 : mO) := (EV_un 2000 77 79 [some (pA 170), none, some (pI x2), some (pI x3), some (pI x4), some (pI x5), some (pI x6), some (pI x7), none] [(pI t0)] s).trans rfl
set_option maxRecDepth 100000 in
set_option maxHeartbeats 4000000 in
theorem sa_spread_134_eq (s : mSt) (x2 : Int32) (x3 : Int32) (x4 : Int32) (x5 : Int32) (x6 : Int32) (x7 : Int32) (x8 : Int32) : sa_spread_134 s x2 x3 x4 x5 x6 x7 x8 = (
  if x8 = 0 then
    sa_spread_28 s x2 x3 x4 x5 (x6 + 1)
  else
    if x7 = 0 then
      gd (inb x6 20) (
        if (s 173 x6.toNatClampNeg) = 2 then
          sa_spread_28 s x2 x3 x4 x5 (x6 + 1)
        else
          gd (inb x6 20) (
            gd (inb (s 171 x6.toNatClampNeg) 8) (
              gd (inb x6 20) (
                sa_spread_28 (wr s 174 ((s 171 x6.toNatClampNeg)).toNatClampNeg x6) x2 (x3 ||| (1 <<< ((s 171 x6.toNatClampNeg) &&& 31))) 1 x5 (x6 + 1)))))
    else
      sa_spread_28 s x2 x3 x4 x5 (x6 + 1) : mO) := (EV_un 2000 77 134 [some (pA 170), none, some (pI x2), some (pI x3), some (pI x4), some (pI x5), some (pI x6), some (pI x7), some (pI x8)] [] s).trans rfl
set_option maxRecDepth 100000 in
set_option maxHeartbeats 4000000 in
theorem sa_giveBack_eq (s : mSt) (x1 : Int32) (x2 : Int32) : sa_giveBack s x1 x2 = (
  sa_giveBack_5 s x1 x2 0 : mO) := (EV_un 2000 78 0 [some (pA 170), some (pI x1), some (pI x2), none, none, none, none] [] s).trans rfl
set_option maxRecDepth 100000 in
set_option maxHeartbeats 4000000 in
theorem sa_giveBack_5_eq (s : mSt) (x1 : Int32) (x3 : Int32) (x4 : Int32) : sa_giveBack_5 s x1 x3 x4 = (
  if (8 : Int32) ≤ x4 then
    rV s
  else
    if x3 = x1 then
      rV s
    else
      gd (inb x3 8) (
        gd (inb (s 174 x3.toNatClampNeg) 20) (
          if (s 172 ((s 174 x3.toNatClampNeg)).toNatClampNeg) = x3 then
            sa_giveBack_41 s x1 x4 (s 174 x3.toNatClampNeg) 1
          else
            sa_giveBack_41 s x1 x4 (s 174 x3.toNatClampNeg) 0)) : mO) := (EV_un 2000 78 5 [some (pA 170), some (pI x1), none, some (pI x3), some (pI x4), none, none] [] s).trans rfl
set_option maxRecDepth 100000 in
set_option maxHeartbeats 4000000 in
theorem sa_giveBack_41_eq (s : mSt) (x1 : Int32) (x4 : Int32) (x5 : Int32) (t0 : Int32) : sa_giveBack_41 s x1 x4 x5 t0 = (
  gd (inb x5 20) (
    if (s 173 x5.toNatClampNeg) = 0 then
      if t0 = 0 then
        gd (inb x5 20) (
          sa_giveBack_81 (wr s 173 x5.toNatClampNeg 2) x1 x4 x5 t0)
      else
        gd (inb x5 20) (
          sa_giveBack_81 (wr s 173 x5.toNatClampNeg 1) x1 x4 x5 t0)
    else
      gd (inb x5 20) (
        sa_giveBack_81 (wr s 173 x5.toNatClampNeg 0) x1 x4 x5 t0)) : mO) := (EV_un 2000 78 41 [some (pA 170), some (pI x1), none, none, some (pI x4), some (pI x5), none] [(pI t0)] s).trans rfl
set_option maxRecDepth 100000 in
set_option maxHeartbeats 4000000 in
theorem sa_giveBack_81_eq (s : mSt) (x1 : Int32) (x4 : Int32) (x5 : Int32) (x6 : Int32) : sa_giveBack_81 s x1 x4 x5 x6 = (
  if x6 = 0 then
    gd (inb x5 20) (
      sa_giveBack_5 s x1 (s 172 x5.toNatClampNeg) (x4 + 1))
  else
    gd (inb x5 20) (
      sa_giveBack_5 s x1 (s 171 x5.toNatClampNeg) (x4 + 1)) : mO) := (EV_un 2000 78 81 [some (pA 170), some (pI x1), none, none, some (pI x4), some (pI x5), some (pI x6)] [] s).trans rfl
set_option maxRecDepth 100000 in
set_option maxHeartbeats 4000000 in
theorem rd_isWord_241_eq (s : mSt) : rd_isWord_241 s = (
  bI (sg_length_241 s) fun v1 s1 =>
    if ((s 12 5) - (s 12 7)) = v1 then
      rd_isWord_241_20 s1 0
    else
      rI 0 s1 : mO) := (EV_un 2000 65 0 [some (pA 12), some (pA 241), none] [] s).trans rfl
set_option maxRecDepth 100000 in
set_option maxHeartbeats 4000000 in
theorem rd_isWord_241_20_eq (s : mSt) (x2 : Int32) : rd_isWord_241_20 s x2 = (
  bI (sg_length_241 s) fun v1 s1 =>
    if v1 ≤ x2 then
      rI 1 s1
    else
      gd (inb ((s1 12 7) + x2) 240) (
        bI (sg_charAt_241 s1 x2) fun v2 s2 =>
          if (s1 13 (((s1 12 7) + x2)).toNatClampNeg) = v2 then
            rd_isWord_241_20 s2 (x2 + 1)
          else
            rI 0 s2) : mO) := (EV_un 2000 65 20 [some (pA 12), some (pA 241), some (pI x2)] [] s).trans rfl
set_option maxRecDepth 100000 in
set_option maxHeartbeats 4000000 in
theorem rd_isWord_242_eq (s : mSt) : rd_isWord_242 s = (
  bI (sg_length_242 s) fun v1 s1 =>
    if ((s 12 5) - (s 12 7)) = v1 then
      rd_isWord_242_20 s1 0
    else
      rI 0 s1 : mO) := (EV_un 2000 65 0 [some (pA 12), some (pA 242), none] [] s).trans rfl
set_option maxRecDepth 100000 in
set_option maxHeartbeats 4000000 in
theorem rd_isWord_242_20_eq (s : mSt) (x2 : Int32) : rd_isWord_242_20 s x2 = (
  bI (sg_length_242 s) fun v1 s1 =>
    if v1 ≤ x2 then
      rI 1 s1
    else
      gd (inb ((s1 12 7) + x2) 240) (
        bI (sg_charAt_242 s1 x2) fun v2 s2 =>
          if (s1 13 (((s1 12 7) + x2)).toNatClampNeg) = v2 then
            rd_isWord_242_20 s2 (x2 + 1)
          else
            rI 0 s2) : mO) := (EV_un 2000 65 20 [some (pA 12), some (pA 242), some (pI x2)] [] s).trans rfl
set_option maxRecDepth 100000 in
set_option maxHeartbeats 4000000 in
theorem rd_isWord_243_eq (s : mSt) : rd_isWord_243 s = (
  bI (sg_length_243 s) fun v1 s1 =>
    if ((s 12 5) - (s 12 7)) = v1 then
      rd_isWord_243_20 s1 0
    else
      rI 0 s1 : mO) := (EV_un 2000 65 0 [some (pA 12), some (pA 243), none] [] s).trans rfl
set_option maxRecDepth 100000 in
set_option maxHeartbeats 4000000 in
theorem rd_isWord_243_20_eq (s : mSt) (x2 : Int32) : rd_isWord_243_20 s x2 = (
  bI (sg_length_243 s) fun v1 s1 =>
    if v1 ≤ x2 then
      rI 1 s1
    else
      gd (inb ((s1 12 7) + x2) 240) (
        bI (sg_charAt_243 s1 x2) fun v2 s2 =>
          if (s1 13 (((s1 12 7) + x2)).toNatClampNeg) = v2 then
            rd_isWord_243_20 s2 (x2 + 1)
          else
            rI 0 s2) : mO) := (EV_un 2000 65 20 [some (pA 12), some (pA 243), some (pI x2)] [] s).trans rfl
set_option maxRecDepth 100000 in
set_option maxHeartbeats 4000000 in
theorem ay_fill_159_eq (s : mSt) (x1 : Int32) : ay_fill_159 s x1 = (
  ay_fill_159_5 s x1 0 7 : mO) := (EV_un 2000 247 0 [some (pA 159), some (pI x1), none, none] [] s).trans rfl
set_option maxRecDepth 100000 in
set_option maxHeartbeats 4000000 in
theorem ay_fill_159_5_eq (s : mSt) (x1 : Int32) (x2 : Int32) (x3 : Int32) : ay_fill_159_5 s x1 x2 x3 = (
  if x3 ≤ x2 then
    rV s
  else
    gd (inb x2 7) (
      ay_fill_159_5 (wr s 159 x2.toNatClampNeg x1) x1 (x2 + 1) x3) : mO) := (EV_un 2000 247 5 [some (pA 159), some (pI x1), some (pI x2), some (pI x3)] [] s).trans rfl
set_option maxRecDepth 100000 in
set_option maxHeartbeats 4000000 in
theorem ay_fill_160_eq (s : mSt) (x1 : Int32) : ay_fill_160 s x1 = (
  ay_fill_160_5 s x1 0 3 : mO) := (EV_un 2000 247 0 [some (pA 160), some (pI x1), none, none] [] s).trans rfl
set_option maxRecDepth 100000 in
set_option maxHeartbeats 4000000 in
theorem ay_fill_160_5_eq (s : mSt) (x1 : Int32) (x2 : Int32) (x3 : Int32) : ay_fill_160_5 s x1 x2 x3 = (
  if x3 ≤ x2 then
    rV s
  else
    gd (inb x2 3) (
      ay_fill_160_5 (wr s 160 x2.toNatClampNeg x1) x1 (x2 + 1) x3) : mO) := (EV_un 2000 247 5 [some (pA 160), some (pI x1), some (pI x2), some (pI x3)] [] s).trans rfl
set_option maxRecDepth 100000 in
set_option maxHeartbeats 4000000 in
theorem ig_bitCount_eq (s : mSt) (x0 : Int32) : ig_bitCount s x0 = (
  rI ((((((((x0 - ((x0.toUInt32 >>> (Int32.toUInt32 1 &&& Int32.toUInt32 31)).toInt32 &&& 1431655765)) &&& 858993459) + (((x0 - ((x0.toUInt32 >>> (Int32.toUInt32 1 &&& Int32.toUInt32 31)).toInt32 &&& 1431655765)).toUInt32 >>> (Int32.toUInt32 2 &&& Int32.toUInt32 31)).toInt32 &&& 858993459)) + ((((x0 - ((x0.toUInt32 >>> (Int32.toUInt32 1 &&& Int32.toUInt32 31)).toInt32 &&& 1431655765)) &&& 858993459) + (((x0 - ((x0.toUInt32 >>> (Int32.toUInt32 1 &&& Int32.toUInt32 31)).toInt32 &&& 1431655765)).toUInt32 >>> (Int32.toUInt32 2 &&& Int32.toUInt32 31)).toInt32 &&& 858993459)).toUInt32 >>> (Int32.toUInt32 4 &&& Int32.toUInt32 31)).toInt32) &&& 252645135) + ((((((x0 - ((x0.toUInt32 >>> (Int32.toUInt32 1 &&& Int32.toUInt32 31)).toInt32 &&& 1431655765)) &&& 858993459) + (((x0 - ((x0.toUInt32 >>> (Int32.toUInt32 1 &&& Int32.toUInt32 31)).toInt32 &&& 1431655765)).toUInt32 >>> (Int32.toUInt32 2 &&& Int32.toUInt32 31)).toInt32 &&& 858993459)) + ((((x0 - ((x0.toUInt32 >>> (Int32.toUInt32 1 &&& Int32.toUInt32 31)).toInt32 &&& 1431655765)) &&& 858993459) + (((x0 - ((x0.toUInt32 >>> (Int32.toUInt32 1 &&& Int32.toUInt32 31)).toInt32 &&& 1431655765)).toUInt32 >>> (Int32.toUInt32 2 &&& Int32.toUInt32 31)).toInt32 &&& 858993459)).toUInt32 >>> (Int32.toUInt32 4 &&& Int32.toUInt32 31)).toInt32) &&& 252645135).toUInt32 >>> (Int32.toUInt32 8 &&& Int32.toUInt32 31)).toInt32) + (((((((x0 - ((x0.toUInt32 >>> (Int32.toUInt32 1 &&& Int32.toUInt32 31)).toInt32 &&& 1431655765)) &&& 858993459) + (((x0 - ((x0.toUInt32 >>> (Int32.toUInt32 1 &&& Int32.toUInt32 31)).toInt32 &&& 1431655765)).toUInt32 >>> (Int32.toUInt32 2 &&& Int32.toUInt32 31)).toInt32 &&& 858993459)) + ((((x0 - ((x0.toUInt32 >>> (Int32.toUInt32 1 &&& Int32.toUInt32 31)).toInt32 &&& 1431655765)) &&& 858993459) + (((x0 - ((x0.toUInt32 >>> (Int32.toUInt32 1 &&& Int32.toUInt32 31)).toInt32 &&& 1431655765)).toUInt32 >>> (Int32.toUInt32 2 &&& Int32.toUInt32 31)).toInt32 &&& 858993459)).toUInt32 >>> (Int32.toUInt32 4 &&& Int32.toUInt32 31)).toInt32) &&& 252645135) + ((((((x0 - ((x0.toUInt32 >>> (Int32.toUInt32 1 &&& Int32.toUInt32 31)).toInt32 &&& 1431655765)) &&& 858993459) + (((x0 - ((x0.toUInt32 >>> (Int32.toUInt32 1 &&& Int32.toUInt32 31)).toInt32 &&& 1431655765)).toUInt32 >>> (Int32.toUInt32 2 &&& Int32.toUInt32 31)).toInt32 &&& 858993459)) + ((((x0 - ((x0.toUInt32 >>> (Int32.toUInt32 1 &&& Int32.toUInt32 31)).toInt32 &&& 1431655765)) &&& 858993459) + (((x0 - ((x0.toUInt32 >>> (Int32.toUInt32 1 &&& Int32.toUInt32 31)).toInt32 &&& 1431655765)).toUInt32 >>> (Int32.toUInt32 2 &&& Int32.toUInt32 31)).toInt32 &&& 858993459)).toUInt32 >>> (Int32.toUInt32 4 &&& Int32.toUInt32 31)).toInt32) &&& 252645135).toUInt32 >>> (Int32.toUInt32 8 &&& Int32.toUInt32 31)).toInt32).toUInt32 >>> (Int32.toUInt32 16 &&& Int32.toUInt32 31)).toInt32) &&& 63) s : mO) := (EV_un 2000 246 0 [some (pI x0)] [] s).trans rfl
set_option maxRecDepth 100000 in
set_option maxHeartbeats 4000000 in
theorem ay_fill_r178_eq (s : mSt) (r0 : Nat) (x1 : Int32) : ay_fill_r178 s r0 x1 = (
  gd (Nat.blt r0 4) (
    ay_fill_r178_5 s r0 x1 0 40) : mO) := (EV_un 2000 247 0 [some (.inr (178, r0)), some (pI x1), none, none] [] s).trans rfl
set_option maxRecDepth 100000 in
set_option maxHeartbeats 4000000 in
theorem ay_fill_r178_5_eq (s : mSt) (r0 : Nat) (x1 : Int32) (x2 : Int32) (x3 : Int32) : ay_fill_r178_5 s r0 x1 x2 x3 = (
  if x3 ≤ x2 then
    rV s
  else
    gd (Nat.blt r0 4) (gd (inb x2 40) (
      ay_fill_r178_5 (wr s (179 + r0) x2.toNatClampNeg x1) r0 x1 (x2 + 1) x3)) : mO) := (EV_un 2000 247 5 [some (.inr (178, r0)), some (pI x1), some (pI x2), some (pI x3)] [] s).trans rfl
set_option maxRecDepth 100000 in
set_option maxHeartbeats 4000000 in
theorem ig_numberOfTrailingZeros_eq (s : mSt) (x0 : Int32) : ig_numberOfTrailingZeros s x0 = (
  if (0 : Int32) < ((x0 ^^^ (-1)) &&& (x0 - 1)) then
    if ((x0 ^^^ (-1)) &&& (x0 - 1)) ≤ 65536 then
      ig_numberOfTrailingZeros_34 s ((x0 ^^^ (-1)) &&& (x0 - 1)) 1
    else
      ig_numberOfTrailingZeros_34 s (((x0 ^^^ (-1)) &&& (x0 - 1)).toUInt32 >>> (Int32.toUInt32 16 &&& Int32.toUInt32 31)).toInt32 17
  else
    rI (((x0 ^^^ (-1)) &&& (x0 - 1)) &&& 32) s : mO) := (EV_un 2000 245 0 [some (pI x0), none] [] s).trans rfl
set_option maxRecDepth 100000 in
set_option maxHeartbeats 4000000 in
theorem ig_numberOfTrailingZeros_34_eq (s : mSt) (x0 : Int32) (x1 : Int32) : ig_numberOfTrailingZeros_34 s x0 x1 = (
  if x0 ≤ 256 then
    ig_numberOfTrailingZeros_49 s x0 x1
  else
    ig_numberOfTrailingZeros_49 s (x0.toUInt32 >>> (Int32.toUInt32 8 &&& Int32.toUInt32 31)).toInt32 (x1 + 8) : mO) := (EV_un 2000 245 34 [some (pI x0), some (pI x1)] [] s).trans rfl
set_option maxRecDepth 100000 in
set_option maxHeartbeats 4000000 in
theorem ig_numberOfTrailingZeros_49_eq (s : mSt) (x0 : Int32) (x1 : Int32) : ig_numberOfTrailingZeros_49 s x0 x1 = (
  if x0 ≤ 16 then
    ig_numberOfTrailingZeros_62 s x0 x1
  else
    ig_numberOfTrailingZeros_62 s (x0.toUInt32 >>> (Int32.toUInt32 4 &&& Int32.toUInt32 31)).toInt32 (x1 + 4) : mO) := (EV_un 2000 245 49 [some (pI x0), some (pI x1)] [] s).trans rfl
set_option maxRecDepth 100000 in
set_option maxHeartbeats 4000000 in
theorem ig_numberOfTrailingZeros_62_eq (s : mSt) (x0 : Int32) (x1 : Int32) : ig_numberOfTrailingZeros_62 s x0 x1 = (
  if x0 ≤ 4 then
    rI (x1 + (x0.toUInt32 >>> (Int32.toUInt32 1 &&& Int32.toUInt32 31)).toInt32) s
  else
    rI ((x1 + 2) + ((x0.toUInt32 >>> (Int32.toUInt32 2 &&& Int32.toUInt32 31)).toInt32.toUInt32 >>> (Int32.toUInt32 1 &&& Int32.toUInt32 31)).toInt32) s : mO) := (EV_un 2000 245 62 [some (pI x0), some (pI x1)] [] s).trans rfl
set_option maxRecDepth 100000 in
set_option maxHeartbeats 4000000 in
theorem sg_length_240_eq (s : mSt) : sg_length_240 s = (
  bI (sg_coder_240 s) fun v1 s1 =>
    rI (4 >>> (v1 &&& 31)) s1 : mO) := (EV_un 2000 238 0 [some (pA 240)] [] s).trans rfl
set_option maxRecDepth 100000 in
set_option maxHeartbeats 4000000 in
theorem sg_charAt_240_eq (s : mSt) (x1 : Int32) : sg_charAt_240 s x1 = (
  bI (sg_isLatin1_240 s) fun v1 s1 =>
    if v1 = 0 then
      none
    else
      bI (sl_charAt_252 s1 x1) fun v2 s2 =>
        gd (narB (some .char) v2) (rI v2 s2) : mO) := (EV_un 2000 239 0 [some (pA 240), some (pI x1)] [] s).trans rfl
set_option maxRecDepth 100000 in
set_option maxHeartbeats 4000000 in
theorem ay_fill_51_eq (s : mSt) (x1 : Int32) : ay_fill_51 s x1 = (
  ay_fill_51_5 s x1 0 8 : mO) := (EV_un 2000 247 0 [some (pA 51), some (pI x1), none, none] [] s).trans rfl
set_option maxRecDepth 100000 in
set_option maxHeartbeats 4000000 in
theorem ay_fill_51_5_eq (s : mSt) (x1 : Int32) (x2 : Int32) (x3 : Int32) : ay_fill_51_5 s x1 x2 x3 = (
  if x3 ≤ x2 then
    rV s
  else
    gd (inb x2 8) (
      ay_fill_51_5 (wr s 51 x2.toNatClampNeg x1) x1 (x2 + 1) x3) : mO) := (EV_un 2000 247 5 [some (pA 51), some (pI x1), some (pI x2), some (pI x3)] [] s).trans rfl
set_option maxRecDepth 100000 in
set_option maxHeartbeats 4000000 in
theorem ay_fill_173_eq (s : mSt) (x1 : Int32) : ay_fill_173 s x1 = (
  ay_fill_173_5 s x1 0 20 : mO) := (EV_un 2000 247 0 [some (pA 173), some (pI x1), none, none] [] s).trans rfl
set_option maxRecDepth 100000 in
set_option maxHeartbeats 4000000 in
theorem ay_fill_173_5_eq (s : mSt) (x1 : Int32) (x2 : Int32) (x3 : Int32) : ay_fill_173_5 s x1 x2 x3 = (
  if x3 ≤ x2 then
    rV s
  else
    gd (inb x2 20) (
      ay_fill_173_5 (wr s 173 x2.toNatClampNeg x1) x1 (x2 + 1) x3) : mO) := (EV_un 2000 247 5 [some (pA 173), some (pI x1), some (pI x2), some (pI x3)] [] s).trans rfl
set_option maxRecDepth 100000 in
set_option maxHeartbeats 4000000 in
theorem sg_coder_240_eq (s : mSt) : sg_coder_240 s = (
  rI 0 s : mO) := (EV_un 2000 240 0 [some (pA 240)] [] s).trans rfl
set_option maxRecDepth 100000 in
set_option maxHeartbeats 4000000 in
theorem sg_isLatin1_240_eq (s : mSt) : sg_isLatin1_240 s = (
  rI 1 s : mO) := (EV_un 2000 241 0 [some (pA 240)] [] s).trans rfl
set_option maxRecDepth 100000 in
set_option maxHeartbeats 4000000 in
theorem sl_charAt_252_eq (s : mSt) (x1 : Int32) : sl_charAt_252 s x1 = (
  bV (sg_checkIndex s x1 4) fun s1 =>
    gd (inb x1 4) (
      gd (narB (some .char) (((bByt 0 x1.toNatClampNeg) &&& 255).toUInt32 % 65536).toInt32) (rI (((bByt 0 x1.toNatClampNeg) &&& 255).toUInt32 % 65536).toInt32 s1)) : mO) := (EV_un 2000 243 0 [some (pA 252), some (pI x1)] [] s).trans rfl
set_option maxRecDepth 100000 in
set_option maxHeartbeats 4000000 in
theorem sg_checkIndex_eq (s : mSt) (x0 : Int32) (x1 : Int32) : sg_checkIndex s x0 x1 = (
  bI (pc_checkIndex_264 s x0 x1) fun v1 s1 =>
    rV s1 : mO) := (EV_un 2000 242 0 [some (pI x0), some (pI x1)] [] s).trans rfl
set_option maxRecDepth 100000 in
set_option maxHeartbeats 4000000 in
theorem sg_length_241_eq (s : mSt) : sg_length_241 s = (
  bI (sg_coder_241 s) fun v1 s1 =>
    rI (4 >>> (v1 &&& 31)) s1 : mO) := (EV_un 2000 238 0 [some (pA 241)] [] s).trans rfl
set_option maxRecDepth 100000 in
set_option maxHeartbeats 4000000 in
theorem sg_charAt_241_eq (s : mSt) (x1 : Int32) : sg_charAt_241 s x1 = (
  bI (sg_isLatin1_241 s) fun v1 s1 =>
    if v1 = 0 then
      none
    else
      bI (sl_charAt_253 s1 x1) fun v2 s2 =>
        gd (narB (some .char) v2) (rI v2 s2) : mO) := (EV_un 2000 239 0 [some (pA 241), some (pI x1)] [] s).trans rfl
set_option maxRecDepth 100000 in
set_option maxHeartbeats 4000000 in
theorem sg_length_242_eq (s : mSt) : sg_length_242 s = (
  bI (sg_coder_242 s) fun v1 s1 =>
    rI (2 >>> (v1 &&& 31)) s1 : mO) := (EV_un 2000 238 0 [some (pA 242)] [] s).trans rfl
set_option maxRecDepth 100000 in
set_option maxHeartbeats 4000000 in
theorem sg_charAt_242_eq (s : mSt) (x1 : Int32) : sg_charAt_242 s x1 = (
  bI (sg_isLatin1_242 s) fun v1 s1 =>
    if v1 = 0 then
      none
    else
      bI (sl_charAt_254 s1 x1) fun v2 s2 =>
        gd (narB (some .char) v2) (rI v2 s2) : mO) := (EV_un 2000 239 0 [some (pA 242), some (pI x1)] [] s).trans rfl
set_option maxRecDepth 100000 in
set_option maxHeartbeats 4000000 in
theorem sg_length_243_eq (s : mSt) : sg_length_243 s = (
  bI (sg_coder_243 s) fun v1 s1 =>
    rI (3 >>> (v1 &&& 31)) s1 : mO) := (EV_un 2000 238 0 [some (pA 243)] [] s).trans rfl
set_option maxRecDepth 100000 in
set_option maxHeartbeats 4000000 in
theorem sg_charAt_243_eq (s : mSt) (x1 : Int32) : sg_charAt_243 s x1 = (
  bI (sg_isLatin1_243 s) fun v1 s1 =>
    if v1 = 0 then
      none
    else
      bI (sl_charAt_255 s1 x1) fun v2 s2 =>
        gd (narB (some .char) v2) (rI v2 s2) : mO) := (EV_un 2000 239 0 [some (pA 243), some (pI x1)] [] s).trans rfl
set_option maxRecDepth 100000 in
set_option maxHeartbeats 4000000 in
theorem pc_checkIndex_264_eq (s : mSt) (x0 : Int32) (x1 : Int32) : pc_checkIndex_264 s x0 x1 = (
  if x0 < 0 then
    pc_checkIndex_264_9 s x0 x1
  else
    if x0 < x1 then
      rI x0 s
    else
      pc_checkIndex_264_9 s x0 x1 : mO) := (EV_un 2000 244 0 [some (pI x0), some (pI x1), some (pA 264)] [] s).trans rfl
set_option maxRecDepth 100000 in
set_option maxHeartbeats 4000000 in
theorem pc_checkIndex_264_9_eq (s : mSt) (x0 : Int32) (x1 : Int32) : pc_checkIndex_264_9 s x0 x1 = (
  none : mO) := (EV_un 2000 244 9 [some (pI x0), some (pI x1), some (pA 264)] [] s).trans rfl
set_option maxRecDepth 100000 in
set_option maxHeartbeats 4000000 in
theorem sg_coder_241_eq (s : mSt) : sg_coder_241 s = (
  rI 0 s : mO) := (EV_un 2000 240 0 [some (pA 241)] [] s).trans rfl
set_option maxRecDepth 100000 in
set_option maxHeartbeats 4000000 in
theorem sg_isLatin1_241_eq (s : mSt) : sg_isLatin1_241 s = (
  rI 1 s : mO) := (EV_un 2000 241 0 [some (pA 241)] [] s).trans rfl
set_option maxRecDepth 100000 in
set_option maxHeartbeats 4000000 in
theorem sl_charAt_253_eq (s : mSt) (x1 : Int32) : sl_charAt_253 s x1 = (
  bV (sg_checkIndex s x1 4) fun s1 =>
    gd (inb x1 4) (
      gd (narB (some .char) (((bByt 1 x1.toNatClampNeg) &&& 255).toUInt32 % 65536).toInt32) (rI (((bByt 1 x1.toNatClampNeg) &&& 255).toUInt32 % 65536).toInt32 s1)) : mO) := (EV_un 2000 243 0 [some (pA 253), some (pI x1)] [] s).trans rfl
set_option maxRecDepth 100000 in
set_option maxHeartbeats 4000000 in
theorem sg_coder_242_eq (s : mSt) : sg_coder_242 s = (
  rI 0 s : mO) := (EV_un 2000 240 0 [some (pA 242)] [] s).trans rfl
set_option maxRecDepth 100000 in
set_option maxHeartbeats 4000000 in
theorem sg_isLatin1_242_eq (s : mSt) : sg_isLatin1_242 s = (
  rI 1 s : mO) := (EV_un 2000 241 0 [some (pA 242)] [] s).trans rfl
set_option maxRecDepth 100000 in
set_option maxHeartbeats 4000000 in
theorem sl_charAt_254_eq (s : mSt) (x1 : Int32) : sl_charAt_254 s x1 = (
  bV (sg_checkIndex s x1 2) fun s1 =>
    gd (inb x1 2) (
      gd (narB (some .char) (((bByt 2 x1.toNatClampNeg) &&& 255).toUInt32 % 65536).toInt32) (rI (((bByt 2 x1.toNatClampNeg) &&& 255).toUInt32 % 65536).toInt32 s1)) : mO) := (EV_un 2000 243 0 [some (pA 254), some (pI x1)] [] s).trans rfl
set_option maxRecDepth 100000 in
set_option maxHeartbeats 4000000 in
theorem sg_coder_243_eq (s : mSt) : sg_coder_243 s = (
  rI 0 s : mO) := (EV_un 2000 240 0 [some (pA 243)] [] s).trans rfl
set_option maxRecDepth 100000 in
set_option maxHeartbeats 4000000 in
theorem sg_isLatin1_243_eq (s : mSt) : sg_isLatin1_243 s = (
  rI 1 s : mO) := (EV_un 2000 241 0 [some (pA 243)] [] s).trans rfl
set_option maxRecDepth 100000 in
set_option maxHeartbeats 4000000 in
theorem sl_charAt_255_eq (s : mSt) (x1 : Int32) : sl_charAt_255 s x1 = (
  bV (sg_checkIndex s x1 3) fun s1 =>
    gd (inb x1 3) (
      gd (narB (some .char) (((bByt 3 x1.toNatClampNeg) &&& 255).toUInt32 % 65536).toInt32) (rI (((bByt 3 x1.toNatClampNeg) &&& 255).toUInt32 % 65536).toInt32 s1)) : mO) := (EV_un 2000 243 0 [some (pA 255), some (pI x1)] [] s).trans rfl
